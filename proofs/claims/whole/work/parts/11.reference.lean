theorem dX11_take_0 : decode cX11_take 0 = .ok (.aload_n 0, 1) := by decide +kernel
theorem dX11_take_1 : decode cX11_take 1 = .ok (.dup, 1) := by decide +kernel
theorem dX11_take_2 : decode cX11_take 2 = .ok (.getfield 7, 3) := by decide +kernel
theorem dX11_take_5 : decode cX11_take 5 = .ok (.iconst 1, 1) := by decide +kernel
theorem dX11_take_6 : decode cX11_take 6 = .ok (.iadd, 1) := by decide +kernel
theorem dX11_take_7 : decode cX11_take 7 = .ok (.putfield 7, 3) := by decide +kernel
theorem dX11_take_10 : decode cX11_take 10 = .ok (.aload_n 0, 1) := by decide +kernel
theorem dX11_take_11 : decode cX11_take 11 = .ok (.getfield 10, 3) := by decide +kernel
theorem dX11_take_14 : decode cX11_take 14 = .ok (.aload_n 0, 1) := by decide +kernel
theorem dX11_take_15 : decode cX11_take 15 = .ok (.getfield 7, 3) := by decide +kernel
theorem dX11_take_18 : decode cX11_take 18 = .ok (.iconst 1, 1) := by decide +kernel
theorem dX11_take_19 : decode cX11_take 19 = .ok (.isub, 1) := by decide +kernel
theorem dX11_take_20 : decode cX11_take 20 = .ok (.aaload, 1) := by decide +kernel
theorem dX11_take_21 : decode cX11_take 21 = .ok (.areturn, 1) := by decide +kernel
def zs_X11_take (h : AH) (u0 : Nat) : Option (Nat × AH) :=
  (gI h u0 11 2).bind fun x1 => (pV h u0 11 2 (.int (x1 + ((1 : Int32))))).bind fun g2 => (gR g2 u0 11 1).bind fun x3 => (gI g2 u0 11 2).bind fun x4 => (aR g2 x3 5 (x4 - ((1 : Int32)))).bind fun x5 => some (x5, g2)
set_option maxRecDepth 100000 in
set_option maxHeartbeats 4000000 in
theorem zm_X11_take (l : Launch) (D : hG) (z : Nat) {h : AH} {u0 : Nat} {r : Nat} {h' : AH} (hs : zs_X11_take h u0 = some (r, h')) : hC l D z yX11_take cX11_take 1 (Option.some (Jvm.ClassFile.FieldType.object "WideWholesModel$Whole")) 0 0 0 0 [.ref u0] h h' (some (.ref r)) := by
  refine hC_of (by decide) (Nat.le_of_ble_eq_true rfl) ?_
  intro p e s m below meth c hx hb hml hrt hlk hown hnm hts hk hr hz ls hl
  replace hown : s.vm.findClass RX11 = some m.cls := hown
  replace hl : lv_has ls 1 [(0, .ref u0)] := hl
  have hS : va_S (hA z) s.heap s.heap [] := va_S.rf
  suffices hgo : ∀ (H : Heap) (locs : List Loc), hR D z h H → va_S (hA z) s.heap H locs → W p l e ({ frames := 0, cells := 0, slots := 0, locals := 0 } : Room) s m ([.ref u0] : List Value).toArray below meth c H locs 0 0 (MQ below (hQ D z h' (some (.ref r))) ([.ref u0] : List Value).toArray s 0 0 (hA z)) (F0 m 0 ls []) from hgo _ _ hr hS
  clear hr hS
  intro H locs hr hS
  unfold zs_X11_take at hs
  refine lv_aload_n hx hb dX11_take_0 rfl (lv_at hl 0 rfl) ?_
  refine lv_dup hx hb dX11_take_1 rfl ?_
  obtain ⟨x1, ex1, hs⟩ := bi_inv hs
  refine hv_gI (C := RX11) (T := TX11) (N := 23) (ci := 11) hx hb hts inX11 hown hk hr rfl 2 (by decide) (hts _ tw_884) ex1 dX11_take_2 ?_
  refine lv_iconst (v := 1) hx hb dX11_take_5 (by decide) ?_
  refine lv_iadd hx hb dX11_take_6 ?_
  obtain ⟨g2, eg2, hs⟩ := bi_inv hs
  refine hv_pV (C := RX11) (T := TX11) (N := 23) (ci := 11) hx hb hts inX11 tyX11 tyX11_ok nmX11 hown hk hr hS rfl 2 (by decide) (hts _ tw_884) rfl rfl rfl eg2 dX11_take_7 (fun H locs hr hS => ?_)
  refine lv_aload_n hx hb dX11_take_10 rfl (lv_at hl 0 rfl) ?_
  obtain ⟨x3, ex3, hs⟩ := bi_inv hs
  refine hv_gR (C := RX11) (T := TX11) (N := 23) (ci := 11) hx hb hts inX11 hown hk hr rfl 1 (by decide) (hts _ tw_883) ex3 dX11_take_11 ?_
  refine lv_aload_n hx hb dX11_take_14 rfl (lv_at hl 0 rfl) ?_
  obtain ⟨x4, ex4, hs⟩ := bi_inv hs
  refine hv_gI (C := RX11) (T := TX11) (N := 23) (ci := 11) hx hb hts inX11 hown hk hr rfl 2 (by decide) (hts _ tw_884) ex4 dX11_take_15 ?_
  refine lv_iconst (v := 1) hx hb dX11_take_18 (by decide) ?_
  refine lv_isub hx hb dX11_take_19 ?_
  obtain ⟨x5, ex5, hs⟩ := bi_inv hs
  refine hv_aR (kd := 5) hx hb hk hr rfl ex5 dX11_take_20 ?_
  obtain ⟨rfl, rfl⟩ := Prod.mk.inj (Option.some.inj hs)
  exact hv_aret hx hb hrt (by first | exact Or.inl ⟨_, rfl⟩ | exact Or.inr ⟨_, rfl⟩) hlk hr hS dX11_take_21
theorem dX11_copy_0 : decode cX11_copy 0 = .ok (.aload_n 0, 1) := by decide +kernel
theorem dX11_copy_1 : decode cX11_copy 1 = .ok (.invokevirtual 14, 3) := by decide +kernel
theorem dX11_copy_4 : decode cX11_copy 4 = .ok (.astore_n 2, 1) := by decide +kernel
theorem dX11_copy_5 : decode cX11_copy 5 = .ok (.aload_n 2, 1) := by decide +kernel
theorem dX11_copy_6 : decode cX11_copy 6 = .ok (.aload_n 1, 1) := by decide +kernel
theorem dX11_copy_7 : decode cX11_copy 7 = .ok (.invokevirtual 30, 3) := by decide +kernel
theorem dX11_copy_10 : decode cX11_copy 10 = .ok (.aload_n 2, 1) := by decide +kernel
theorem dX11_copy_11 : decode cX11_copy 11 = .ok (.areturn, 1) := by decide +kernel
def zs_X11_copy (h : AH) (u0 : Nat) (u1 : Nat) : Option (Nat × AH) :=
  (chk h u0 11).bind fun _ => (zs_X11_take h u0).bind fun x2 => (chk x2.2 x2.1 10).bind fun _ => (zs_X10_become x2.2 x2.1 u1).bind fun g4 => some (x2.1, g4)
set_option maxRecDepth 100000 in
set_option maxHeartbeats 4000000 in
theorem zm_X11_copy (l : Launch) (D : hG) (z : Nat) {h : AH} {u0 : Nat} {u1 : Nat} {r : Nat} {h' : AH} (hs : zs_X11_copy h u0 u1 = some (r, h')) : hC l D z yX11_copy cX11_copy 3 (Option.some (Jvm.ClassFile.FieldType.object "WideWholesModel$Whole")) 2 69 0 0 [.ref u0, .ref u1] h h' (some (.ref r)) := by
  refine hC_of (by decide) (Nat.le_of_ble_eq_true rfl) ?_
  intro p e s m below meth c hx hb hml hrt hlk hown hnm hts hk hr hz ls hl
  replace hown : s.vm.findClass RX11 = some m.cls := hown
  replace hl : lv_has ls 3 [(0, .ref u0), (1, .ref u1)] := hl
  have hS : va_S (hA z) s.heap s.heap [] := va_S.rf
  suffices hgo : ∀ (H : Heap) (locs : List Loc), hR D z h H → va_S (hA z) s.heap H locs → W p l e ({ frames := 2, cells := 0, slots := 0, locals := 69 } : Room) s m ([.ref u0, .ref u1] : List Value).toArray below meth c H locs 0 0 (MQ below (hQ D z h' (some (.ref r))) ([.ref u0, .ref u1] : List Value).toArray s 0 0 (hA z)) (F0 m 0 ls []) from hgo _ _ hr hS
  clear hr hS
  intro H locs hr hS
  unfold zs_X11_copy at hs
  refine lv_aload_n hx hb dX11_copy_0 rfl (lv_at hl 0 rfl) ?_
  obtain ⟨_, ex1, hs⟩ := bi_inv hs
  obtain ⟨x2, ex2, hs⟩ := bi_inv hs
  refine hv_V1 (n := 0) [] [] hx hb hml hown hts hk hr hz hS (zm_X11_take l D z ex2) ex1 rfl tw_964 tw_966 ts_23 tw_11 tw_967 (by decide +kernel) (by decide) ⟨(Nat.zero_le _), (Nat.zero_le _)⟩ rfl hl.1 (Nat.le_of_ble_eq_true rfl) dX11_copy_1 rfl (fun H locs hr hS => ?_)
  refine lv_astore_n (lv' := [(2, .ref x2.1), (0, .ref u0), (1, .ref u1)]) hx hb dX11_copy_4 rfl hl (by decide) rfl (fun ls hl => ?_)
  refine lv_aload_n hx hb dX11_copy_5 rfl (lv_at hl 0 rfl) ?_
  refine lv_aload_n hx hb dX11_copy_6 rfl (lv_at hl 2 rfl) ?_
  obtain ⟨_, ex3, hs⟩ := bi_inv hs
  obtain ⟨g4, eg4, hs⟩ := bi_inv hs
  refine hv_V0 (n := 1) [.ref u1] [] hx hb hml hown hts hk hr hz hS (zm_X10_become l D z eg4) ex3 rfl tw_875 tw_876 tw_877 tw_12 tw_878 (by decide +kernel) (by decide) ⟨(Nat.zero_le _), (Nat.zero_le _)⟩ rfl hl.1 (Nat.le_of_ble_eq_true rfl) dX11_copy_7 rfl (fun H locs hr hS => ?_)
  refine lv_aload_n hx hb dX11_copy_10 rfl (lv_at hl 0 rfl) ?_
  obtain ⟨rfl, rfl⟩ := Prod.mk.inj (Option.some.inj hs)
  exact hv_aret hx hb hrt (by first | exact Or.inl ⟨_, rfl⟩ | exact Or.inr ⟨_, rfl⟩) hlk hr hS dX11_copy_11
theorem dX11_negative_0 : decode cX11_negative 0 = .ok (.aload_n 0, 1) := by decide +kernel
theorem dX11_negative_1 : decode cX11_negative 1 = .ok (.aload_n 1, 1) := by decide +kernel
theorem dX11_negative_2 : decode cX11_negative 2 = .ok (.invokevirtual 34, 3) := by decide +kernel
theorem dX11_negative_5 : decode cX11_negative 5 = .ok (.astore_n 2, 1) := by decide +kernel
theorem dX11_negative_6 : decode cX11_negative 6 = .ok (.aload_n 2, 1) := by decide +kernel
theorem dX11_negative_7 : decode cX11_negative 7 = .ok (.aload_n 1, 1) := by decide +kernel
theorem dX11_negative_8 : decode cX11_negative 8 = .ok (.getfield 38, 3) := by decide +kernel
theorem dX11_negative_11 : decode cX11_negative 11 = .ok (.ifCond .ne 14, 3) := by decide +kernel
theorem dX11_negative_14 : decode cX11_negative 14 = .ok (.aload_n 1, 1) := by decide +kernel
theorem dX11_negative_15 : decode cX11_negative 15 = .ok (.getfield 42, 3) := by decide +kernel
theorem dX11_negative_18 : decode cX11_negative 18 = .ok (.ifCond .le 7, 3) := by decide +kernel
theorem dX11_negative_21 : decode cX11_negative 21 = .ok (.iconst 1, 1) := by decide +kernel
theorem dX11_negative_22 : decode cX11_negative 22 = .ok (.goto 4, 3) := by decide +kernel
theorem dX11_negative_25 : decode cX11_negative 25 = .ok (.iconst 0, 1) := by decide +kernel
theorem dX11_negative_26 : decode cX11_negative 26 = .ok (.putfield 38, 3) := by decide +kernel
theorem dX11_negative_29 : decode cX11_negative 29 = .ok (.aload_n 2, 1) := by decide +kernel
theorem dX11_negative_30 : decode cX11_negative 30 = .ok (.areturn, 1) := by decide +kernel
def zj_X11_negative_26 (g5 : AH) (y2_26 : Nat) (t0_26 : Int32) (t1_26 : Nat) : Option (Nat × AH) :=
  (zk t0_26).bind fun _ => (pV g5 t1_26 10 0 (.int t0_26)).bind fun g7 => some (y2_26, g7)
def zs_X11_negative (h : AH) (u0 : Nat) (u1 : Nat) : Option (Nat × AH) :=
  (chk h u0 11).bind fun _ => (zs_X11_copy h u0 u1).bind fun x2 => (gI x2.2 u1 10 0).bind fun x3 => (if x3 = 0 then (gI x2.2 u1 10 1).bind fun x8 => (if x8 ≤ 0 then zj_X11_negative_26 x2.2 x2.1 ((0 : Int32)) x2.1 else zj_X11_negative_26 x2.2 x2.1 ((1 : Int32)) x2.1) else zj_X11_negative_26 x2.2 x2.1 ((0 : Int32)) x2.1)
set_option maxRecDepth 100000 in
set_option maxHeartbeats 4000000 in
theorem zm_X11_negative (l : Launch) (D : hG) (z : Nat) {h : AH} {u0 : Nat} {u1 : Nat} {r : Nat} {h' : AH} (hs : zs_X11_negative h u0 u1 = some (r, h')) : hC l D z yX11_negative cX11_negative 3 (Option.some (Jvm.ClassFile.FieldType.object "WideWholesModel$Whole")) 3 91 0 0 [.ref u0, .ref u1] h h' (some (.ref r)) := by
  refine hC_of (by decide) (Nat.le_of_ble_eq_true rfl) ?_
  intro p e s m below meth c hx hb hml hrt hlk hown hnm hts hk hr hz ls hl
  replace hown : s.vm.findClass RX11 = some m.cls := hown
  replace hl : lv_has ls 3 [(0, .ref u0), (1, .ref u1)] := hl
  have hS : va_S (hA z) s.heap s.heap [] := va_S.rf
  suffices hgo : ∀ (H : Heap) (locs : List Loc), hR D z h H → va_S (hA z) s.heap H locs → W p l e ({ frames := 3, cells := 0, slots := 0, locals := 91 } : Room) s m ([.ref u0, .ref u1] : List Value).toArray below meth c H locs 0 0 (MQ below (hQ D z h' (some (.ref r))) ([.ref u0, .ref u1] : List Value).toArray s 0 0 (hA z)) (F0 m 0 ls []) from hgo _ _ hr hS
  clear hr hS
  intro H locs hr hS
  have hJ26 : ∀ (g5 : AH) (y2_26 : Nat) (t0_26 : Int32) (t1_26 : Nat) (H : Heap) (locs : List Loc) (ls : Array Slot), zj_X11_negative_26 g5 y2_26 t0_26 t1_26 = some (r, h') → hR D z g5 H → va_S (hA z) s.heap H locs → lv_has ls 3 [(2, .ref y2_26)] → W p l e ({ frames := 3, cells := 0, slots := 0, locals := 91 } : Room) s m ([.ref u0, .ref u1] : List Value).toArray below meth c H locs 0 0 (MQ below (hQ D z h' (some (.ref r))) ([.ref u0, .ref u1] : List Value).toArray s 0 0 (hA z)) (F0 m 26 ls [.int t0_26, .ref t1_26]) := by
    intro g5 y2_26 t0_26 t1_26 H locs ls hs hr hS hl
    unfold zj_X11_negative_26 at hs
    obtain ⟨_, ex6, hs⟩ := bi_inv hs
    obtain ⟨g7, eg7, hs⟩ := bi_inv hs
    refine hv_pV (C := RX10) (T := TX10) (N := 3) (ci := 10) hx hb hts inX10 tyX10 tyX10_ok nmX10 hown hk hr hS rfl 0 (by decide) (hts _ tw_863) rfl (zk_n (zk_inv ex6)) (zk_f (zk_inv ex6)) eg7 dX11_negative_26 (fun H locs hr hS => ?_)
    refine lv_aload_n hx hb dX11_negative_29 rfl (lv_at hl 0 rfl) ?_
    obtain ⟨rfl, rfl⟩ := Prod.mk.inj (Option.some.inj hs)
    exact hv_aret hx hb hrt (by first | exact Or.inl ⟨_, rfl⟩ | exact Or.inr ⟨_, rfl⟩) hlk hr hS dX11_negative_30
  unfold zs_X11_negative at hs
  refine lv_aload_n hx hb dX11_negative_0 rfl (lv_at hl 0 rfl) ?_
  refine lv_aload_n hx hb dX11_negative_1 rfl (lv_at hl 1 rfl) ?_
  obtain ⟨_, ex1, hs⟩ := bi_inv hs
  obtain ⟨x2, ex2, hs⟩ := bi_inv hs
  refine hv_V1 (n := 1) [.ref u1] [] hx hb hml hown hts hk hr hz hS (zm_X11_copy l D z ex2) ex1 rfl tw_996 tw_998 ts_25 tw_11 tw_999 (by decide +kernel) (by decide) ⟨(Nat.zero_le _), (Nat.zero_le _)⟩ rfl hl.1 (Nat.le_of_ble_eq_true rfl) dX11_negative_2 rfl (fun H locs hr hS => ?_)
  refine lv_astore_n (lv' := [(2, .ref x2.1), (0, .ref u0), (1, .ref u1)]) hx hb dX11_negative_5 rfl hl (by decide) rfl (fun ls hl => ?_)
  refine lv_aload_n hx hb dX11_negative_6 rfl (lv_at hl 0 rfl) ?_
  refine lv_aload_n hx hb dX11_negative_7 rfl (lv_at hl 2 rfl) ?_
  obtain ⟨x3, ex3, hs⟩ := bi_inv hs
  refine hv_gI (C := RX10) (T := TX10) (N := 3) (ci := 10) hx hb hts inX10 hown hk hr rfl 0 (by decide) (hts _ tw_863) ex3 dX11_negative_8 ?_
  refine lv_if_ne (tgt := 25) hx hb dX11_negative_11 (by decide) (fun c4 => ?_) (fun c4 => ?_)
  · rw [if_neg c4] at hs
    refine lv_iconst (v := 0) hx hb dX11_negative_25 (by decide) ?_
    exact hJ26 x2.2 x2.1 ((0 : Int32)) x2.1 H locs ls hs hr hS (lv_sub hl [0] rfl)
  · rw [if_pos c4] at hs
    refine lv_aload_n hx hb dX11_negative_14 rfl (lv_at hl 2 rfl) ?_
    obtain ⟨x8, ex8, hs⟩ := bi_inv hs
    refine hv_gI (C := RX10) (T := TX10) (N := 3) (ci := 10) hx hb hts inX10 hown hk hr rfl 1 (by decide) (hts _ tw_865) ex8 dX11_negative_15 ?_
    refine lv_if_le (tgt := 25) hx hb dX11_negative_18 (by decide) (fun c9 => ?_) (fun c9 => ?_)
    · rw [if_pos c9] at hs
      refine lv_iconst (v := 0) hx hb dX11_negative_25 (by decide) ?_
      exact hJ26 x2.2 x2.1 ((0 : Int32)) x2.1 H locs ls hs hr hS (lv_sub hl [0] rfl)
    · rw [if_neg c9] at hs
      refine lv_iconst (v := 1) hx hb dX11_negative_21 (by decide) ?_
      refine lv_goto (tgt := 26) hx hb dX11_negative_22 (by decide) ?_
      exact hJ26 x2.2 x2.1 ((1 : Int32)) x2.1 H locs ls hs hr hS (lv_sub hl [0] rfl)
theorem dX11_compareSizes_0 : decode cX11_compareSizes 0 = .ok (.aload_n 0, 1) := by decide +kernel
theorem dX11_compareSizes_1 : decode cX11_compareSizes 1 = .ok (.getfield 42, 3) := by decide +kernel
theorem dX11_compareSizes_4 : decode cX11_compareSizes 4 = .ok (.aload_n 1, 1) := by decide +kernel
theorem dX11_compareSizes_5 : decode cX11_compareSizes 5 = .ok (.getfield 42, 3) := by decide +kernel
theorem dX11_compareSizes_8 : decode cX11_compareSizes 8 = .ok (.if_icmp .eq 20, 3) := by decide +kernel
theorem dX11_compareSizes_11 : decode cX11_compareSizes 11 = .ok (.aload_n 0, 1) := by decide +kernel
theorem dX11_compareSizes_12 : decode cX11_compareSizes 12 = .ok (.getfield 42, 3) := by decide +kernel
theorem dX11_compareSizes_15 : decode cX11_compareSizes 15 = .ok (.aload_n 1, 1) := by decide +kernel
theorem dX11_compareSizes_16 : decode cX11_compareSizes 16 = .ok (.getfield 42, 3) := by decide +kernel
theorem dX11_compareSizes_19 : decode cX11_compareSizes 19 = .ok (.if_icmp .ge 7, 3) := by decide +kernel
theorem dX11_compareSizes_22 : decode cX11_compareSizes 22 = .ok (.iconst (-1), 1) := by decide +kernel
theorem dX11_compareSizes_23 : decode cX11_compareSizes 23 = .ok (.goto 4, 3) := by decide +kernel
theorem dX11_compareSizes_26 : decode cX11_compareSizes 26 = .ok (.iconst 1, 1) := by decide +kernel
theorem dX11_compareSizes_27 : decode cX11_compareSizes 27 = .ok (.ireturn, 1) := by decide +kernel
theorem dX11_compareSizes_28 : decode cX11_compareSizes 28 = .ok (.aload_n 0, 1) := by decide +kernel
theorem dX11_compareSizes_29 : decode cX11_compareSizes 29 = .ok (.getfield 42, 3) := by decide +kernel
theorem dX11_compareSizes_32 : decode cX11_compareSizes 32 = .ok (.iconst 1, 1) := by decide +kernel
theorem dX11_compareSizes_33 : decode cX11_compareSizes 33 = .ok (.isub, 1) := by decide +kernel
theorem dX11_compareSizes_34 : decode cX11_compareSizes 34 = .ok (.istore_n 2, 1) := by decide +kernel
theorem dX11_compareSizes_35 : decode cX11_compareSizes 35 = .ok (.iload_n 2, 1) := by decide +kernel
theorem dX11_compareSizes_36 : decode cX11_compareSizes 36 = .ok (.ifCond .lt 45, 3) := by decide +kernel
theorem dX11_compareSizes_39 : decode cX11_compareSizes 39 = .ok (.aload_n 0, 1) := by decide +kernel
theorem dX11_compareSizes_40 : decode cX11_compareSizes 40 = .ok (.getfield 18, 3) := by decide +kernel
theorem dX11_compareSizes_43 : decode cX11_compareSizes 43 = .ok (.iload_n 2, 1) := by decide +kernel
theorem dX11_compareSizes_44 : decode cX11_compareSizes 44 = .ok (.iaload, 1) := by decide +kernel
theorem dX11_compareSizes_45 : decode cX11_compareSizes 45 = .ok (.aload_n 1, 1) := by decide +kernel
theorem dX11_compareSizes_46 : decode cX11_compareSizes 46 = .ok (.getfield 18, 3) := by decide +kernel
theorem dX11_compareSizes_49 : decode cX11_compareSizes 49 = .ok (.iload_n 2, 1) := by decide +kernel
theorem dX11_compareSizes_50 : decode cX11_compareSizes 50 = .ok (.iaload, 1) := by decide +kernel
theorem dX11_compareSizes_51 : decode cX11_compareSizes 51 = .ok (.if_icmp .eq 24, 3) := by decide +kernel
theorem dX11_compareSizes_54 : decode cX11_compareSizes 54 = .ok (.aload_n 0, 1) := by decide +kernel
theorem dX11_compareSizes_55 : decode cX11_compareSizes 55 = .ok (.getfield 18, 3) := by decide +kernel
theorem dX11_compareSizes_58 : decode cX11_compareSizes 58 = .ok (.iload_n 2, 1) := by decide +kernel
theorem dX11_compareSizes_59 : decode cX11_compareSizes 59 = .ok (.iaload, 1) := by decide +kernel
theorem dX11_compareSizes_60 : decode cX11_compareSizes 60 = .ok (.aload_n 1, 1) := by decide +kernel
theorem dX11_compareSizes_61 : decode cX11_compareSizes 61 = .ok (.getfield 18, 3) := by decide +kernel
theorem dX11_compareSizes_64 : decode cX11_compareSizes 64 = .ok (.iload_n 2, 1) := by decide +kernel
theorem dX11_compareSizes_65 : decode cX11_compareSizes 65 = .ok (.iaload, 1) := by decide +kernel
theorem dX11_compareSizes_66 : decode cX11_compareSizes 66 = .ok (.if_icmp .ge 7, 3) := by decide +kernel
theorem dX11_compareSizes_69 : decode cX11_compareSizes 69 = .ok (.iconst (-1), 1) := by decide +kernel
theorem dX11_compareSizes_70 : decode cX11_compareSizes 70 = .ok (.goto 4, 3) := by decide +kernel
theorem dX11_compareSizes_73 : decode cX11_compareSizes 73 = .ok (.iconst 1, 1) := by decide +kernel
theorem dX11_compareSizes_74 : decode cX11_compareSizes 74 = .ok (.ireturn, 1) := by decide +kernel
theorem dX11_compareSizes_75 : decode cX11_compareSizes 75 = .ok (.iinc 2 (-1), 3) := by decide +kernel
theorem dX11_compareSizes_78 : decode cX11_compareSizes 78 = .ok (.goto (-43), 3) := by decide +kernel
theorem dX11_compareSizes_81 : decode cX11_compareSizes 81 = .ok (.iconst 0, 1) := by decide +kernel
theorem dX11_compareSizes_82 : decode cX11_compareSizes 82 = .ok (.ireturn, 1) := by decide +kernel
def zb_X11_compareSizes_35 (h : AH) (w0 : Nat) (w1 : Nat) (w2 : Int32) : Option ((Int32) ⊕ (Int32 ⊕ Unit)) :=
  (if w2 < 0 then some (Sum.inr ((Sum.inr (())))) else (gR h w0 10 2).bind fun x7 => (aI h x7 0 w2).bind fun x8 => (gR h w1 10 2).bind fun x9 => (aI h x9 0 w2).bind fun x10 => (if x8 = x10 then some (Sum.inl (w2 + (-1 : Int32))) else some (Sum.inr ((Sum.inl w2)))))
def zs_X11_compareSizes (h : AH) (u0 : Nat) (u1 : Nat) : Option Int32 :=
  (gI h u0 10 1).bind fun x1 => (gI h u1 10 1).bind fun x2 => (if x1 = x2 then (gI h u0 10 1).bind fun x4 => lt_ (x4 - ((1 : Int32))) fun x5 => (iter (fun q : Int32 => zb_X11_compareSizes_35 h u0 u1 q) FU x5).bind fun r12 => (match r12 with | .inl r13 => (gR h u0 10 2).bind fun x14 => (aI h x14 0 r13).bind fun x15 => (gR h u1 10 2).bind fun x16 => (aI h x16 0 r13).bind fun x17 => (if x17 ≤ x15 then some ((1 : Int32)) else some ((-1 : Int32))) | .inr r19 => some ((0 : Int32))) else (gI h u0 10 1).bind fun x20 => (gI h u1 10 1).bind fun x21 => (if x21 ≤ x20 then some ((1 : Int32)) else some ((-1 : Int32))))
set_option maxRecDepth 100000 in
set_option maxHeartbeats 4000000 in
theorem zm_X11_compareSizes (l : Launch) (D : hG) (z : Nat) {h : AH} {u0 : Nat} {u1 : Nat} {r : Int32} (hs : zs_X11_compareSizes h u0 u1 = some r) : hC l D z yX11_compareSizes cX11_compareSizes 3 (Option.some Jvm.ClassFile.FieldType.int) 0 0 0 0 [.ref u0, .ref u1] h h (some (.int r)) := by
  refine hC_of (by decide) (Nat.le_of_ble_eq_true rfl) ?_
  intro p e s m below meth c hx hb hml hrt hlk hown hnm hts hk hr hz ls hl
  replace hown : s.vm.findClass RX11 = some m.cls := hown
  replace hl : lv_has ls 3 [(0, .ref u0), (1, .ref u1)] := hl
  have hS : va_S (hA z) s.heap s.heap [] := va_S.rf
  suffices hgo : ∀ (H : Heap) (locs : List Loc), hR D z h H → va_S (hA z) s.heap H locs → W p l e ({ frames := 0, cells := 0, slots := 0, locals := 0 } : Room) s m ([.ref u0, .ref u1] : List Value).toArray below meth c H locs 0 0 (MQ below (hQ D z h (some (.int r))) ([.ref u0, .ref u1] : List Value).toArray s 0 0 (hA z)) (F0 m 0 ls []) from hgo _ _ hr hS
  clear hr hS
  intro H locs hr hS
  unfold zs_X11_compareSizes at hs
  refine lv_aload_n hx hb dX11_compareSizes_0 rfl (lv_at hl 0 rfl) ?_
  obtain ⟨x1, ex1, hs⟩ := bi_inv hs
  refine hv_gI (C := RX10) (T := TX10) (N := 3) (ci := 10) hx hb hts inX10 hown hk hr rfl 1 (by decide) (hts _ tw_865) ex1 dX11_compareSizes_1 ?_
  refine lv_aload_n hx hb dX11_compareSizes_4 rfl (lv_at hl 1 rfl) ?_
  obtain ⟨x2, ex2, hs⟩ := bi_inv hs
  refine hv_gI (C := RX10) (T := TX10) (N := 3) (ci := 10) hx hb hts inX10 hown hk hr rfl 1 (by decide) (hts _ tw_865) ex2 dX11_compareSizes_5 ?_
  refine lv_icmp_eq (tgt := 28) hx hb dX11_compareSizes_8 (by decide) (fun c3 => ?_) (fun c3 => ?_)
  · rw [if_pos c3] at hs
    refine lv_aload_n hx hb dX11_compareSizes_28 rfl (lv_at hl 0 rfl) ?_
    obtain ⟨x4, ex4, hs⟩ := bi_inv hs
    refine hv_gI (C := RX10) (T := TX10) (N := 3) (ci := 10) hx hb hts inX10 hown hk hr rfl 1 (by decide) (hts _ tw_865) ex4 dX11_compareSizes_29 ?_
    refine lv_iconst (v := 1) hx hb dX11_compareSizes_32 (by decide) ?_
    refine lv_isub hx hb dX11_compareSizes_33 ?_
    refine lv_topi (fun x5 ex5 => ?_)
    replace hs := lt_inv hs x5 ex5
    refine lv_istore_n (lv' := [(2, .int x5), (0, .ref u0), (1, .ref u1)]) hx hb dX11_compareSizes_34 rfl hl (by decide) rfl (fun ls hl => ?_)
    obtain ⟨r12, er12, hs⟩ := bi_inv hs
    refine iter_W (fun (q : Int32) => ∀ (H : Heap) (locs : List Loc) (ls : Array Slot), hR D z h H → va_S (hA z) s.heap H locs → lv_has ls 3 [(0, .ref u0), (1, .ref u1), (2, .int q)] → W p l e ({ frames := 0, cells := 0, slots := 0, locals := 0 } : Room) s m ([.ref u0, .ref u1] : List Value).toArray below meth c H locs 0 0 (MQ below (hQ D z h (some (.int r))) ([.ref u0, .ref u1] : List Value).toArray s 0 0 (hA z)) (F0 m 35 ls [])) (fun (x : Int32 ⊕ Unit) => (Sum.elim (fun x => ∀ (H : Heap) (locs : List Loc) (ls : Array Slot), hR D z h H → va_S (hA z) s.heap H locs → lv_has ls 3 [(0, .ref u0), (1, .ref u1), (2, .int x)] → W p l e ({ frames := 0, cells := 0, slots := 0, locals := 0 } : Room) s m ([.ref u0, .ref u1] : List Value).toArray below meth c H locs 0 0 (MQ below (hQ D z h (some (.int r))) ([.ref u0, .ref u1] : List Value).toArray s 0 0 (hA z)) (F0 m 54 ls [])) (fun x => ∀ (H : Heap) (locs : List Loc) (ls : Array Slot), hR D z h H → va_S (hA z) s.heap H locs → lv_has ls 3 [] → W p l e ({ frames := 0, cells := 0, slots := 0, locals := 0 } : Room) s m ([.ref u0, .ref u1] : List Value).toArray below meth c H locs 0 0 (MQ below (hQ D z h (some (.int r))) ([.ref u0, .ref u1] : List Value).toArray s 0 0 (hA z)) (F0 m 81 ls []))) x) ?_ FU _ r12 er12 ?_ H locs ls hr hS (lv_sub hl [1, 2, 0] rfl)
    · intro q o hs hcont hexit
      obtain ⟨w2, rfl⟩ : ∃ q2, q2 = q := ⟨_, rfl⟩
      replace hs : zb_X11_compareSizes_35 h u0 u1 w2 = some o := hs
      intro H locs ls hr hS hl
      unfold zb_X11_compareSizes_35 at hs
      refine lv_iload_n hx hb dX11_compareSizes_35 rfl (lv_at hl 2 rfl) ?_
      refine lv_if_lt (tgt := 81) hx hb dX11_compareSizes_36 (by decide) (fun c6 => ?_) (fun c6 => ?_)
      · rw [if_pos c6] at hs
        obtain rfl := Option.some.inj hs
        exact hexit _ rfl H locs ls hr hS (lv_sub hl [] rfl)
      · rw [if_neg c6] at hs
        refine lv_aload_n hx hb dX11_compareSizes_39 rfl (lv_at hl 0 rfl) ?_
        obtain ⟨x7, ex7, hs⟩ := bi_inv hs
        refine hv_gR (C := RX10) (T := TX10) (N := 3) (ci := 10) hx hb hts inX10 hown hk hr rfl 2 (by decide) (hts _ tw_867) ex7 dX11_compareSizes_40 ?_
        refine lv_iload_n hx hb dX11_compareSizes_43 rfl (lv_at hl 2 rfl) ?_
        obtain ⟨x8, ex8, hs⟩ := bi_inv hs
        refine hv_aI hx hb hk hr ex8 dX11_compareSizes_44 ?_
        refine lv_aload_n hx hb dX11_compareSizes_45 rfl (lv_at hl 1 rfl) ?_
        obtain ⟨x9, ex9, hs⟩ := bi_inv hs
        refine hv_gR (C := RX10) (T := TX10) (N := 3) (ci := 10) hx hb hts inX10 hown hk hr rfl 2 (by decide) (hts _ tw_867) ex9 dX11_compareSizes_46 ?_
        refine lv_iload_n hx hb dX11_compareSizes_49 rfl (lv_at hl 2 rfl) ?_
        obtain ⟨x10, ex10, hs⟩ := bi_inv hs
        refine hv_aI hx hb hk hr ex10 dX11_compareSizes_50 ?_
        refine lv_icmp_eq (tgt := 75) hx hb dX11_compareSizes_51 (by decide) (fun c11 => ?_) (fun c11 => ?_)
        · rw [if_pos c11] at hs
          refine lv_iinc (v := w2 + (-1 : Int32)) (lv' := [(2, .int (w2 + (-1 : Int32))), (0, .ref u0), (1, .ref u1)]) hx hb dX11_compareSizes_75 hl (k := 2) rfl (ii_v _ (by decide)) (by decide) rfl (fun ls hl => ?_)
          refine lv_goto (tgt := 35) hx hb dX11_compareSizes_78 (by decide) ?_
          obtain rfl := Option.some.inj hs
          exact hcont _ rfl H locs ls hr hS (lv_sub hl [1, 2, 0] rfl)
        · rw [if_neg c11] at hs
          obtain rfl := Option.some.inj hs
          exact hexit _ rfl H locs ls hr hS (lv_sub hl [0, 1, 2] rfl)
    · cases r12 with
      | inl r13 =>
        intro H locs ls hr hS hl
        replace hs := hs
        dsimp only at hs
        refine lv_aload_n hx hb dX11_compareSizes_54 rfl (lv_at hl 0 rfl) ?_
        obtain ⟨x14, ex14, hs⟩ := bi_inv hs
        refine hv_gR (C := RX10) (T := TX10) (N := 3) (ci := 10) hx hb hts inX10 hown hk hr rfl 2 (by decide) (hts _ tw_867) ex14 dX11_compareSizes_55 ?_
        refine lv_iload_n hx hb dX11_compareSizes_58 rfl (lv_at hl 2 rfl) ?_
        obtain ⟨x15, ex15, hs⟩ := bi_inv hs
        refine hv_aI hx hb hk hr ex15 dX11_compareSizes_59 ?_
        refine lv_aload_n hx hb dX11_compareSizes_60 rfl (lv_at hl 1 rfl) ?_
        obtain ⟨x16, ex16, hs⟩ := bi_inv hs
        refine hv_gR (C := RX10) (T := TX10) (N := 3) (ci := 10) hx hb hts inX10 hown hk hr rfl 2 (by decide) (hts _ tw_867) ex16 dX11_compareSizes_61 ?_
        refine lv_iload_n hx hb dX11_compareSizes_64 rfl (lv_at hl 2 rfl) ?_
        obtain ⟨x17, ex17, hs⟩ := bi_inv hs
        refine hv_aI hx hb hk hr ex17 dX11_compareSizes_65 ?_
        refine lv_icmp_ge (tgt := 73) hx hb dX11_compareSizes_66 (by decide) (fun c18 => ?_) (fun c18 => ?_)
        · rw [if_pos c18] at hs
          refine lv_iconst (v := 1) hx hb dX11_compareSizes_73 (by decide) ?_
          obtain rfl := Option.some.inj hs
          exact hv_iret hx hb hrt hlk hr hS dX11_compareSizes_74
        · rw [if_neg c18] at hs
          refine lv_iconst (v := (-1)) hx hb dX11_compareSizes_69 (by decide) ?_
          refine lv_goto (tgt := 74) hx hb dX11_compareSizes_70 (by decide) ?_
          obtain rfl := Option.some.inj hs
          exact hv_iret hx hb hrt hlk hr hS dX11_compareSizes_74
      | inr r19 =>
        dsimp only at hs
        intro H locs ls hr hS hl
        refine lv_iconst (v := 0) hx hb dX11_compareSizes_81 (by decide) ?_
        obtain rfl := Option.some.inj hs
        exact hv_iret hx hb hrt hlk hr hS dX11_compareSizes_82
  · rw [if_neg c3] at hs
    refine lv_aload_n hx hb dX11_compareSizes_11 rfl (lv_at hl 0 rfl) ?_
    obtain ⟨x20, ex20, hs⟩ := bi_inv hs
    refine hv_gI (C := RX10) (T := TX10) (N := 3) (ci := 10) hx hb hts inX10 hown hk hr rfl 1 (by decide) (hts _ tw_865) ex20 dX11_compareSizes_12 ?_
    refine lv_aload_n hx hb dX11_compareSizes_15 rfl (lv_at hl 1 rfl) ?_
    obtain ⟨x21, ex21, hs⟩ := bi_inv hs
    refine hv_gI (C := RX10) (T := TX10) (N := 3) (ci := 10) hx hb hts inX10 hown hk hr rfl 1 (by decide) (hts _ tw_865) ex21 dX11_compareSizes_16 ?_
    refine lv_icmp_ge (tgt := 26) hx hb dX11_compareSizes_19 (by decide) (fun c22 => ?_) (fun c22 => ?_)
    · rw [if_pos c22] at hs
      refine lv_iconst (v := 1) hx hb dX11_compareSizes_26 (by decide) ?_
      obtain rfl := Option.some.inj hs
      exact hv_iret hx hb hrt hlk hr hS dX11_compareSizes_27
    · rw [if_neg c22] at hs
      refine lv_iconst (v := (-1)) hx hb dX11_compareSizes_22 (by decide) ?_
      refine lv_goto (tgt := 27) hx hb dX11_compareSizes_23 (by decide) ?_
      obtain rfl := Option.some.inj hs
      exact hv_iret hx hb hrt hlk hr hS dX11_compareSizes_27
theorem dX11_lessSize_0 : decode cX11_lessSize 0 = .ok (.aload_n 0, 1) := by decide +kernel
theorem dX11_lessSize_1 : decode cX11_lessSize 1 = .ok (.invokevirtual 14, 3) := by decide +kernel
theorem dX11_lessSize_4 : decode cX11_lessSize 4 = .ok (.astore 4, 2) := by decide +kernel
theorem dX11_lessSize_6 : decode cX11_lessSize 6 = .ok (.iconst 0, 1) := by decide +kernel
theorem dX11_lessSize_7 : decode cX11_lessSize 7 = .ok (.istore 5, 2) := by decide +kernel
theorem dX11_lessSize_9 : decode cX11_lessSize 9 = .ok (.iconst 0, 1) := by decide +kernel
theorem dX11_lessSize_10 : decode cX11_lessSize 10 = .ok (.istore 6, 2) := by decide +kernel
theorem dX11_lessSize_12 : decode cX11_lessSize 12 = .ok (.iload 6, 2) := by decide +kernel
theorem dX11_lessSize_14 : decode cX11_lessSize 14 = .ok (.aload_n 1, 1) := by decide +kernel
theorem dX11_lessSize_15 : decode cX11_lessSize 15 = .ok (.getfield 42, 3) := by decide +kernel
theorem dX11_lessSize_18 : decode cX11_lessSize 18 = .ok (.if_icmp .ge 67, 3) := by decide +kernel
theorem dX11_lessSize_21 : decode cX11_lessSize 21 = .ok (.aload_n 1, 1) := by decide +kernel
theorem dX11_lessSize_22 : decode cX11_lessSize 22 = .ok (.getfield 18, 3) := by decide +kernel
theorem dX11_lessSize_25 : decode cX11_lessSize 25 = .ok (.iload 6, 2) := by decide +kernel
theorem dX11_lessSize_27 : decode cX11_lessSize 27 = .ok (.iaload, 1) := by decide +kernel
theorem dX11_lessSize_28 : decode cX11_lessSize 28 = .ok (.iload 5, 2) := by decide +kernel
theorem dX11_lessSize_30 : decode cX11_lessSize 30 = .ok (.isub, 1) := by decide +kernel
theorem dX11_lessSize_31 : decode cX11_lessSize 31 = .ok (.iload 6, 2) := by decide +kernel
theorem dX11_lessSize_33 : decode cX11_lessSize 33 = .ok (.aload_n 2, 1) := by decide +kernel
theorem dX11_lessSize_34 : decode cX11_lessSize 34 = .ok (.getfield 42, 3) := by decide +kernel
theorem dX11_lessSize_37 : decode cX11_lessSize 37 = .ok (.if_icmp .ge 13, 3) := by decide +kernel
theorem dX11_lessSize_40 : decode cX11_lessSize 40 = .ok (.aload_n 2, 1) := by decide +kernel
theorem dX11_lessSize_41 : decode cX11_lessSize 41 = .ok (.getfield 18, 3) := by decide +kernel
theorem dX11_lessSize_44 : decode cX11_lessSize 44 = .ok (.iload 6, 2) := by decide +kernel
theorem dX11_lessSize_46 : decode cX11_lessSize 46 = .ok (.iaload, 1) := by decide +kernel
theorem dX11_lessSize_47 : decode cX11_lessSize 47 = .ok (.goto 4, 3) := by decide +kernel
theorem dX11_lessSize_50 : decode cX11_lessSize 50 = .ok (.iconst 0, 1) := by decide +kernel
theorem dX11_lessSize_51 : decode cX11_lessSize 51 = .ok (.isub, 1) := by decide +kernel
theorem dX11_lessSize_52 : decode cX11_lessSize 52 = .ok (.istore 7, 2) := by decide +kernel
theorem dX11_lessSize_54 : decode cX11_lessSize 54 = .ok (.iload 7, 2) := by decide +kernel
theorem dX11_lessSize_56 : decode cX11_lessSize 56 = .ok (.ifCond .ge 7, 3) := by decide +kernel
theorem dX11_lessSize_59 : decode cX11_lessSize 59 = .ok (.iconst 1, 1) := by decide +kernel
theorem dX11_lessSize_60 : decode cX11_lessSize 60 = .ok (.goto 4, 3) := by decide +kernel
theorem dX11_lessSize_63 : decode cX11_lessSize 63 = .ok (.iconst 0, 1) := by decide +kernel
theorem dX11_lessSize_64 : decode cX11_lessSize 64 = .ok (.istore 5, 2) := by decide +kernel
theorem dX11_lessSize_66 : decode cX11_lessSize 66 = .ok (.aload 4, 2) := by decide +kernel
theorem dX11_lessSize_68 : decode cX11_lessSize 68 = .ok (.getfield 18, 3) := by decide +kernel
theorem dX11_lessSize_71 : decode cX11_lessSize 71 = .ok (.iload 6, 2) := by decide +kernel
theorem dX11_lessSize_73 : decode cX11_lessSize 73 = .ok (.iload 7, 2) := by decide +kernel
theorem dX11_lessSize_75 : decode cX11_lessSize 75 = .ok (.ldc 59, 2) := by decide +kernel
theorem dX11_lessSize_77 : decode cX11_lessSize 77 = .ok (.iand, 1) := by decide +kernel
theorem dX11_lessSize_78 : decode cX11_lessSize 78 = .ok (.iastore, 1) := by decide +kernel
theorem dX11_lessSize_79 : decode cX11_lessSize 79 = .ok (.iinc 6 1, 3) := by decide +kernel
theorem dX11_lessSize_82 : decode cX11_lessSize 82 = .ok (.goto (-70), 3) := by decide +kernel
theorem dX11_lessSize_85 : decode cX11_lessSize 85 = .ok (.aload 4, 2) := by decide +kernel
theorem dX11_lessSize_87 : decode cX11_lessSize 87 = .ok (.iload_n 3, 1) := by decide +kernel
theorem dX11_lessSize_88 : decode cX11_lessSize 88 = .ok (.aload_n 1, 1) := by decide +kernel
theorem dX11_lessSize_89 : decode cX11_lessSize 89 = .ok (.getfield 42, 3) := by decide +kernel
theorem dX11_lessSize_92 : decode cX11_lessSize 92 = .ok (.invokevirtual 26, 3) := by decide +kernel
theorem dX11_lessSize_95 : decode cX11_lessSize 95 = .ok (.areturn, 1) := by decide +kernel
def zj_X11_lessSize_64 (w1 : Nat) (w2 : Nat) (w3 : Int32) (w4 : Nat) (g13 : AH) (y6_64 : Int32) (y7_64 : Int32) (t0_64 : Int32) : Option ((AH × Int32 × Int32) ⊕ (AH)) :=
  (gR g13 w4 10 2).bind fun x14 => (sI g13 x14 0 y6_64 (y7_64 &&& ((65535 : Int32)))).bind fun g15 => some (Sum.inl ((g15, t0_64, y6_64 + (1 : Int32))))
def zj_X11_lessSize_51 (w1 : Nat) (w2 : Nat) (w3 : Int32) (w4 : Nat) (g10 : AH) (y6_51 : Int32) (t0_51 : Int32) (t1_51 : Int32) : Option ((AH × Int32 × Int32) ⊕ (AH)) :=
  lt_ (t1_51 - t0_51) fun x11 => (if 0 ≤ x11 then zj_X11_lessSize_64 w1 w2 w3 w4 g10 y6_51 x11 ((0 : Int32)) else zj_X11_lessSize_64 w1 w2 w3 w4 g10 y6_51 x11 ((1 : Int32)))
def zb_X11_lessSize_12 (w1 : Nat) (w2 : Nat) (w3 : Int32) (w4 : Nat) (g3 : AH) (w5 : Int32) (w6 : Int32) : Option ((AH × Int32 × Int32) ⊕ (AH)) :=
  (gI g3 w1 10 1).bind fun x4 => (if x4 ≤ w6 then some (Sum.inr g3) else (gR g3 w1 10 2).bind fun x6 => (aI g3 x6 0 w6).bind fun x7 => (gI g3 w2 10 1).bind fun x8 => (if x8 ≤ w6 then zj_X11_lessSize_51 w1 w2 w3 w4 g3 w6 ((0 : Int32)) (x7 - w5) else (gR g3 w2 10 2).bind fun x16 => (aI g3 x16 0 w6).bind fun x17 => zj_X11_lessSize_51 w1 w2 w3 w4 g3 w6 x17 (x7 - w5)))
def zs_X11_lessSize (h : AH) (u0 : Nat) (u1 : Nat) (u2 : Nat) (u3 : Int32) : Option (Nat × AH) :=
  (chk h u0 11).bind fun _ => (zs_X11_take h u0).bind fun x2 => (iter (fun q : AH × Int32 × Int32 => zb_X11_lessSize_12 u1 u2 u3 x2.1 q.1 q.2.1 q.2.2) FU ((x2.2, (0 : Int32), (0 : Int32)))).bind fun r18 => (gI r18 u1 10 1).bind fun x19 => (chk r18 x2.1 10).bind fun _ => (zs_X10_of r18 x2.1 u3 x19).bind fun x21 => some (x21.1, x21.2)
set_option maxRecDepth 100000 in
set_option maxHeartbeats 4000000 in
theorem zm_X11_lessSize (l : Launch) (D : hG) (z : Nat) {h : AH} {u0 : Nat} {u1 : Nat} {u2 : Nat} {u3 : Int32} {r : Nat} {h' : AH} (hs : zs_X11_lessSize h u0 u1 u2 u3 = some (r, h')) : hC l D z yX11_lessSize cX11_lessSize 8 (Option.some (Jvm.ClassFile.FieldType.object "WideWholesModel$Whole")) 1 22 0 0 [.ref u0, .ref u1, .ref u2, .int u3] h h' (some (.ref r)) := by
  refine hC_of (by decide) (Nat.le_of_ble_eq_true rfl) ?_
  intro p e s m below meth c hx hb hml hrt hlk hown hnm hts hk hr hz ls hl
  replace hown : s.vm.findClass RX11 = some m.cls := hown
  replace hl : lv_has ls 8 [(0, .ref u0), (1, .ref u1), (2, .ref u2), (3, .int u3)] := hl
  have hS : va_S (hA z) s.heap s.heap [] := va_S.rf
  suffices hgo : ∀ (H : Heap) (locs : List Loc), hR D z h H → va_S (hA z) s.heap H locs → W p l e ({ frames := 1, cells := 0, slots := 0, locals := 22 } : Room) s m ([.ref u0, .ref u1, .ref u2, .int u3] : List Value).toArray below meth c H locs 0 0 (MQ below (hQ D z h' (some (.ref r))) ([.ref u0, .ref u1, .ref u2, .int u3] : List Value).toArray s 0 0 (hA z)) (F0 m 0 ls []) from hgo _ _ hr hS
  clear hr hS
  intro H locs hr hS
  unfold zs_X11_lessSize at hs
  refine lv_aload_n hx hb dX11_lessSize_0 rfl (lv_at hl 0 rfl) ?_
  obtain ⟨_, ex1, hs⟩ := bi_inv hs
  obtain ⟨x2, ex2, hs⟩ := bi_inv hs
  refine hv_V1 (n := 0) [] [] hx hb hml hown hts hk hr hz hS (zm_X11_take l D z ex2) ex1 rfl tw_964 tw_966 ts_23 tw_11 tw_967 (by decide +kernel) (by decide) ⟨(Nat.zero_le _), (Nat.zero_le _)⟩ rfl hl.1 (Nat.le_of_ble_eq_true rfl) dX11_lessSize_1 rfl (fun H locs hr hS => ?_)
  refine lv_astore (lv' := [(4, .ref x2.1), (0, .ref u0), (1, .ref u1), (2, .ref u2), (3, .int u3)]) hx hb dX11_lessSize_4 hl (by decide) rfl (fun ls hl => ?_)
  refine lv_iconst (v := 0) hx hb dX11_lessSize_6 (by decide) ?_
  refine lv_istore (lv' := [(5, .int ((0 : Int32))), (4, .ref x2.1), (0, .ref u0), (1, .ref u1), (2, .ref u2), (3, .int u3)]) hx hb dX11_lessSize_7 hl (by decide) rfl (fun ls hl => ?_)
  refine lv_iconst (v := 0) hx hb dX11_lessSize_9 (by decide) ?_
  refine lv_istore (lv' := [(6, .int ((0 : Int32))), (5, .int ((0 : Int32))), (4, .ref x2.1), (0, .ref u0), (1, .ref u1), (2, .ref u2), (3, .int u3)]) hx hb dX11_lessSize_10 hl (by decide) rfl (fun ls hl => ?_)
  obtain ⟨r18, er18, hs⟩ := bi_inv hs
  refine iter_W (fun (q : AH × Int32 × Int32) => ∀ (H : Heap) (locs : List Loc) (ls : Array Slot), hR D z q.1 H → va_S (hA z) s.heap H locs → lv_has ls 8 [(1, .ref u1), (2, .ref u2), (3, .int u3), (4, .ref x2.1), (5, .int q.2.1), (6, .int q.2.2)] → W p l e ({ frames := 1, cells := 0, slots := 0, locals := 22 } : Room) s m ([.ref u0, .ref u1, .ref u2, .int u3] : List Value).toArray below meth c H locs 0 0 (MQ below (hQ D z h' (some (.ref r))) ([.ref u0, .ref u1, .ref u2, .int u3] : List Value).toArray s 0 0 (hA z)) (F0 m 12 ls [])) (fun (x : AH) => ∀ (H : Heap) (locs : List Loc) (ls : Array Slot), hR D z x H → va_S (hA z) s.heap H locs → lv_has ls 8 [(1, .ref u1), (3, .int u3), (4, .ref x2.1)] → W p l e ({ frames := 1, cells := 0, slots := 0, locals := 22 } : Room) s m ([.ref u0, .ref u1, .ref u2, .int u3] : List Value).toArray below meth c H locs 0 0 (MQ below (hQ D z h' (some (.ref r))) ([.ref u0, .ref u1, .ref u2, .int u3] : List Value).toArray s 0 0 (hA z)) (F0 m 85 ls [])) ?_ FU _ r18 er18 ?_ H locs ls hr hS (lv_sub hl [4, 5, 6, 2, 1, 0] rfl)
  · intro q o hs hcont hexit
    obtain ⟨g3, w5, w6⟩ := q
    replace hs : zb_X11_lessSize_12 u1 u2 u3 x2.1 g3 w5 w6 = some o := hs
    intro H locs ls hr hS hl
    have hJ64 : ∀ (g13 : AH) (y6_64 : Int32) (y7_64 : Int32) (t0_64 : Int32) (H : Heap) (locs : List Loc) (ls : Array Slot), zj_X11_lessSize_64 u1 u2 u3 x2.1 g13 y6_64 y7_64 t0_64 = some o → hR D z g13 H → va_S (hA z) s.heap H locs → lv_has ls 8 [(1, .ref u1), (2, .ref u2), (3, .int u3), (4, .ref x2.1), (6, .int y6_64), (7, .int y7_64)] → W p l e ({ frames := 1, cells := 0, slots := 0, locals := 22 } : Room) s m ([.ref u0, .ref u1, .ref u2, .int u3] : List Value).toArray below meth c H locs 0 0 (MQ below (hQ D z h' (some (.ref r))) ([.ref u0, .ref u1, .ref u2, .int u3] : List Value).toArray s 0 0 (hA z)) (F0 m 64 ls [.int t0_64]) := by
      intro g13 y6_64 y7_64 t0_64 H locs ls hs hr hS hl
      unfold zj_X11_lessSize_64 at hs
      refine lv_istore (lv' := [(5, .int t0_64), (1, .ref u1), (2, .ref u2), (3, .int u3), (4, .ref x2.1), (6, .int y6_64), (7, .int y7_64)]) hx hb dX11_lessSize_64 hl (by decide) rfl (fun ls hl => ?_)
      refine lv_aload hx hb dX11_lessSize_66 (lv_at hl 4 rfl) ?_
      obtain ⟨x14, ex14, hs⟩ := bi_inv hs
      refine hv_gR (C := RX10) (T := TX10) (N := 3) (ci := 10) hx hb hts inX10 hown hk hr rfl 2 (by decide) (hts _ tw_867) ex14 dX11_lessSize_68 ?_
      refine lv_iload hx hb dX11_lessSize_71 (lv_at hl 5 rfl) ?_
      refine lv_iload hx hb dX11_lessSize_73 (lv_at hl 6 rfl) ?_
      refine lv_ldc hx hb hown (hts _ tw_1026) dX11_lessSize_75 ?_
      refine lv_iand hx hb dX11_lessSize_77 ?_
      obtain ⟨g15, eg15, hs⟩ := bi_inv hs
      refine hv_sI hx hb hk hr hS eg15 dX11_lessSize_78 (fun H locs hr hS => ?_)
      refine lv_iinc (v := y6_64 + (1 : Int32)) (lv' := [(6, .int (y6_64 + (1 : Int32))), (5, .int t0_64), (1, .ref u1), (2, .ref u2), (3, .int u3), (4, .ref x2.1), (7, .int y7_64)]) hx hb dX11_lessSize_79 hl (k := 5) rfl (ii_v _ (by decide)) (by decide) rfl (fun ls hl => ?_)
      refine lv_goto (tgt := 12) hx hb dX11_lessSize_82 (by decide) ?_
      obtain rfl := Option.some.inj hs
      exact hcont _ rfl H locs ls hr hS (lv_sub hl [2, 3, 4, 5, 1, 0] rfl)
    have hJ51 : ∀ (g10 : AH) (y6_51 : Int32) (t0_51 : Int32) (t1_51 : Int32) (H : Heap) (locs : List Loc) (ls : Array Slot), zj_X11_lessSize_51 u1 u2 u3 x2.1 g10 y6_51 t0_51 t1_51 = some o → hR D z g10 H → va_S (hA z) s.heap H locs → lv_has ls 8 [(1, .ref u1), (2, .ref u2), (3, .int u3), (4, .ref x2.1), (6, .int y6_51)] → W p l e ({ frames := 1, cells := 0, slots := 0, locals := 22 } : Room) s m ([.ref u0, .ref u1, .ref u2, .int u3] : List Value).toArray below meth c H locs 0 0 (MQ below (hQ D z h' (some (.ref r))) ([.ref u0, .ref u1, .ref u2, .int u3] : List Value).toArray s 0 0 (hA z)) (F0 m 51 ls [.int t0_51, .int t1_51]) := by
      intro g10 y6_51 t0_51 t1_51 H locs ls hs hr hS hl
      unfold zj_X11_lessSize_51 at hs
      refine lv_isub hx hb dX11_lessSize_51 ?_
      refine lv_topi (fun x11 ex11 => ?_)
      replace hs := lt_inv hs x11 ex11
      refine lv_istore (lv' := [(7, .int x11), (1, .ref u1), (2, .ref u2), (3, .int u3), (4, .ref x2.1), (6, .int y6_51)]) hx hb dX11_lessSize_52 hl (by decide) rfl (fun ls hl => ?_)
      refine lv_iload hx hb dX11_lessSize_54 (lv_at hl 0 rfl) ?_
      refine lv_if_ge (tgt := 63) hx hb dX11_lessSize_56 (by decide) (fun c12 => ?_) (fun c12 => ?_)
      · rw [if_pos c12] at hs
        refine lv_iconst (v := 0) hx hb dX11_lessSize_63 (by decide) ?_
        exact hJ64 g10 y6_51 x11 ((0 : Int32)) H locs ls hs hr hS (lv_sub hl [1, 2, 3, 4, 5, 0] rfl)
      · rw [if_neg c12] at hs
        refine lv_iconst (v := 1) hx hb dX11_lessSize_59 (by decide) ?_
        refine lv_goto (tgt := 64) hx hb dX11_lessSize_60 (by decide) ?_
        exact hJ64 g10 y6_51 x11 ((1 : Int32)) H locs ls hs hr hS (lv_sub hl [1, 2, 3, 4, 5, 0] rfl)
    unfold zb_X11_lessSize_12 at hs
    refine lv_iload hx hb dX11_lessSize_12 (lv_at hl 5 rfl) ?_
    refine lv_aload_n hx hb dX11_lessSize_14 rfl (lv_at hl 0 rfl) ?_
    obtain ⟨x4, ex4, hs⟩ := bi_inv hs
    refine hv_gI (C := RX10) (T := TX10) (N := 3) (ci := 10) hx hb hts inX10 hown hk hr rfl 1 (by decide) (hts _ tw_865) ex4 dX11_lessSize_15 ?_
    refine lv_icmp_ge (tgt := 85) hx hb dX11_lessSize_18 (by decide) (fun c5 => ?_) (fun c5 => ?_)
    · rw [if_pos c5] at hs
      obtain rfl := Option.some.inj hs
      exact hexit _ rfl H locs ls hr hS (lv_sub hl [0, 2, 3] rfl)
    · rw [if_neg c5] at hs
      refine lv_aload_n hx hb dX11_lessSize_21 rfl (lv_at hl 0 rfl) ?_
      obtain ⟨x6, ex6, hs⟩ := bi_inv hs
      refine hv_gR (C := RX10) (T := TX10) (N := 3) (ci := 10) hx hb hts inX10 hown hk hr rfl 2 (by decide) (hts _ tw_867) ex6 dX11_lessSize_22 ?_
      refine lv_iload hx hb dX11_lessSize_25 (lv_at hl 5 rfl) ?_
      obtain ⟨x7, ex7, hs⟩ := bi_inv hs
      refine hv_aI hx hb hk hr ex7 dX11_lessSize_27 ?_
      refine lv_iload hx hb dX11_lessSize_28 (lv_at hl 4 rfl) ?_
      refine lv_isub hx hb dX11_lessSize_30 ?_
      refine lv_iload hx hb dX11_lessSize_31 (lv_at hl 5 rfl) ?_
      refine lv_aload_n hx hb dX11_lessSize_33 rfl (lv_at hl 1 rfl) ?_
      obtain ⟨x8, ex8, hs⟩ := bi_inv hs
      refine hv_gI (C := RX10) (T := TX10) (N := 3) (ci := 10) hx hb hts inX10 hown hk hr rfl 1 (by decide) (hts _ tw_865) ex8 dX11_lessSize_34 ?_
      refine lv_icmp_ge (tgt := 50) hx hb dX11_lessSize_37 (by decide) (fun c9 => ?_) (fun c9 => ?_)
      · rw [if_pos c9] at hs
        refine lv_iconst (v := 0) hx hb dX11_lessSize_50 (by decide) ?_
        exact hJ51 g3 w6 ((0 : Int32)) (x7 - w5) H locs ls hs hr hS (lv_sub hl [0, 1, 2, 3, 5] rfl)
      · rw [if_neg c9] at hs
        refine lv_aload_n hx hb dX11_lessSize_40 rfl (lv_at hl 1 rfl) ?_
        obtain ⟨x16, ex16, hs⟩ := bi_inv hs
        refine hv_gR (C := RX10) (T := TX10) (N := 3) (ci := 10) hx hb hts inX10 hown hk hr rfl 2 (by decide) (hts _ tw_867) ex16 dX11_lessSize_41 ?_
        refine lv_iload hx hb dX11_lessSize_44 (lv_at hl 5 rfl) ?_
        obtain ⟨x17, ex17, hs⟩ := bi_inv hs
        refine hv_aI hx hb hk hr ex17 dX11_lessSize_46 ?_
        refine lv_goto (tgt := 51) hx hb dX11_lessSize_47 (by decide) ?_
        exact hJ51 g3 w6 x17 (x7 - w5) H locs ls hs hr hS (lv_sub hl [0, 1, 2, 3, 5] rfl)
  · intro H locs ls hr hS hl
    refine lv_aload hx hb dX11_lessSize_85 (lv_at hl 2 rfl) ?_
    refine lv_iload_n hx hb dX11_lessSize_87 rfl (lv_at hl 1 rfl) ?_
    refine lv_aload_n hx hb dX11_lessSize_88 rfl (lv_at hl 0 rfl) ?_
    obtain ⟨x19, ex19, hs⟩ := bi_inv hs
    refine hv_gI (C := RX10) (T := TX10) (N := 3) (ci := 10) hx hb hts inX10 hown hk hr rfl 1 (by decide) (hts _ tw_865) ex19 dX11_lessSize_89 ?_
    obtain ⟨_, ex20, hs⟩ := bi_inv hs
    obtain ⟨x21, ex21, hs⟩ := bi_inv hs
    refine hv_V1 (n := 2) [.int u3, .int x19] [] hx hb hml hown hts hk hr hz hS (zm_X10_of l D z ex21) ex20 rfl tw_969 tw_970 tw_971 tw_12 tw_972 (by decide +kernel) (by decide) ⟨(Nat.zero_le _), (Nat.zero_le _)⟩ rfl hl.1 (Nat.le_of_ble_eq_true rfl) dX11_lessSize_92 rfl (fun H locs hr hS => ?_)
    obtain ⟨rfl, rfl⟩ := Prod.mk.inj (Option.some.inj hs)
    exact hv_aret hx hb hrt (by first | exact Or.inl ⟨_, rfl⟩ | exact Or.inr ⟨_, rfl⟩) hlk hr hS dX11_lessSize_95
theorem dX11_sum_0 : decode cX11_sum 0 = .ok (.aload_n 1, 1) := by decide +kernel
theorem dX11_sum_1 : decode cX11_sum 1 = .ok (.getfield 38, 3) := by decide +kernel
theorem dX11_sum_4 : decode cX11_sum 4 = .ok (.iload_n 3, 1) := by decide +kernel
theorem dX11_sum_5 : decode cX11_sum 5 = .ok (.if_icmp .eq 32, 3) := by decide +kernel
theorem dX11_sum_8 : decode cX11_sum 8 = .ok (.aload_n 1, 1) := by decide +kernel
theorem dX11_sum_9 : decode cX11_sum 9 = .ok (.aload_n 2, 1) := by decide +kernel
theorem dX11_sum_10 : decode cX11_sum 10 = .ok (.invokestatic 45, 3) := by decide +kernel
theorem dX11_sum_13 : decode cX11_sum 13 = .ok (.ifCond .lt 16, 3) := by decide +kernel
theorem dX11_sum_16 : decode cX11_sum 16 = .ok (.aload_n 0, 1) := by decide +kernel
theorem dX11_sum_17 : decode cX11_sum 17 = .ok (.aload_n 1, 1) := by decide +kernel
theorem dX11_sum_18 : decode cX11_sum 18 = .ok (.aload_n 2, 1) := by decide +kernel
theorem dX11_sum_19 : decode cX11_sum 19 = .ok (.aload_n 1, 1) := by decide +kernel
theorem dX11_sum_20 : decode cX11_sum 20 = .ok (.getfield 38, 3) := by decide +kernel
theorem dX11_sum_23 : decode cX11_sum 23 = .ok (.invokevirtual 49, 3) := by decide +kernel
theorem dX11_sum_26 : decode cX11_sum 26 = .ok (.goto 10, 3) := by decide +kernel
theorem dX11_sum_29 : decode cX11_sum 29 = .ok (.aload_n 0, 1) := by decide +kernel
theorem dX11_sum_30 : decode cX11_sum 30 = .ok (.aload_n 2, 1) := by decide +kernel
theorem dX11_sum_31 : decode cX11_sum 31 = .ok (.aload_n 1, 1) := by decide +kernel
theorem dX11_sum_32 : decode cX11_sum 32 = .ok (.iload_n 3, 1) := by decide +kernel
theorem dX11_sum_33 : decode cX11_sum 33 = .ok (.invokevirtual 49, 3) := by decide +kernel
theorem dX11_sum_36 : decode cX11_sum 36 = .ok (.areturn, 1) := by decide +kernel
theorem dX11_sum_37 : decode cX11_sum 37 = .ok (.aload_n 1, 1) := by decide +kernel
theorem dX11_sum_38 : decode cX11_sum 38 = .ok (.getfield 42, 3) := by decide +kernel
theorem dX11_sum_41 : decode cX11_sum 41 = .ok (.aload_n 2, 1) := by decide +kernel
theorem dX11_sum_42 : decode cX11_sum 42 = .ok (.getfield 42, 3) := by decide +kernel
theorem dX11_sum_45 : decode cX11_sum 45 = .ok (.invokestatic 53, 3) := by decide +kernel
theorem dX11_sum_48 : decode cX11_sum 48 = .ok (.iconst 1, 1) := by decide +kernel
theorem dX11_sum_49 : decode cX11_sum 49 = .ok (.iadd, 1) := by decide +kernel
theorem dX11_sum_50 : decode cX11_sum 50 = .ok (.istore 4, 2) := by decide +kernel
theorem dX11_sum_52 : decode cX11_sum 52 = .ok (.aload_n 0, 1) := by decide +kernel
theorem dX11_sum_53 : decode cX11_sum 53 = .ok (.invokevirtual 14, 3) := by decide +kernel
theorem dX11_sum_56 : decode cX11_sum 56 = .ok (.astore 5, 2) := by decide +kernel
theorem dX11_sum_58 : decode cX11_sum 58 = .ok (.iconst 0, 1) := by decide +kernel
theorem dX11_sum_59 : decode cX11_sum 59 = .ok (.istore 6, 2) := by decide +kernel
theorem dX11_sum_61 : decode cX11_sum 61 = .ok (.iconst 0, 1) := by decide +kernel
theorem dX11_sum_62 : decode cX11_sum 62 = .ok (.istore 7, 2) := by decide +kernel
theorem dX11_sum_64 : decode cX11_sum 64 = .ok (.iload 7, 2) := by decide +kernel
theorem dX11_sum_66 : decode cX11_sum 66 = .ok (.iload 4, 2) := by decide +kernel
theorem dX11_sum_68 : decode cX11_sum 68 = .ok (.if_icmp .ge 75, 3) := by decide +kernel
theorem dX11_sum_71 : decode cX11_sum 71 = .ok (.iload 6, 2) := by decide +kernel
theorem dX11_sum_73 : decode cX11_sum 73 = .ok (.iload 7, 2) := by decide +kernel
theorem dX11_sum_75 : decode cX11_sum 75 = .ok (.aload_n 1, 1) := by decide +kernel
theorem dX11_sum_76 : decode cX11_sum 76 = .ok (.getfield 42, 3) := by decide +kernel
theorem dX11_sum_79 : decode cX11_sum 79 = .ok (.if_icmp .ge 13, 3) := by decide +kernel
theorem dX11_sum_82 : decode cX11_sum 82 = .ok (.aload_n 1, 1) := by decide +kernel
theorem dX11_sum_83 : decode cX11_sum 83 = .ok (.getfield 18, 3) := by decide +kernel
theorem dX11_sum_86 : decode cX11_sum 86 = .ok (.iload 7, 2) := by decide +kernel
theorem dX11_sum_88 : decode cX11_sum 88 = .ok (.iaload, 1) := by decide +kernel
theorem dX11_sum_89 : decode cX11_sum 89 = .ok (.goto 4, 3) := by decide +kernel
theorem dX11_sum_92 : decode cX11_sum 92 = .ok (.iconst 0, 1) := by decide +kernel
theorem dX11_sum_93 : decode cX11_sum 93 = .ok (.iadd, 1) := by decide +kernel
theorem dX11_sum_94 : decode cX11_sum 94 = .ok (.iload 7, 2) := by decide +kernel
theorem dX11_sum_96 : decode cX11_sum 96 = .ok (.aload_n 2, 1) := by decide +kernel
theorem dX11_sum_97 : decode cX11_sum 97 = .ok (.getfield 42, 3) := by decide +kernel
theorem dX11_sum_100 : decode cX11_sum 100 = .ok (.if_icmp .ge 13, 3) := by decide +kernel
theorem dX11_sum_103 : decode cX11_sum 103 = .ok (.aload_n 2, 1) := by decide +kernel
theorem dX11_sum_104 : decode cX11_sum 104 = .ok (.getfield 18, 3) := by decide +kernel
theorem dX11_sum_107 : decode cX11_sum 107 = .ok (.iload 7, 2) := by decide +kernel
theorem dX11_sum_109 : decode cX11_sum 109 = .ok (.iaload, 1) := by decide +kernel
theorem dX11_sum_110 : decode cX11_sum 110 = .ok (.goto 4, 3) := by decide +kernel
theorem dX11_sum_113 : decode cX11_sum 113 = .ok (.iconst 0, 1) := by decide +kernel
theorem dX11_sum_114 : decode cX11_sum 114 = .ok (.iadd, 1) := by decide +kernel
theorem dX11_sum_115 : decode cX11_sum 115 = .ok (.istore 8, 2) := by decide +kernel
theorem dX11_sum_117 : decode cX11_sum 117 = .ok (.aload 5, 2) := by decide +kernel
theorem dX11_sum_119 : decode cX11_sum 119 = .ok (.getfield 18, 3) := by decide +kernel
theorem dX11_sum_122 : decode cX11_sum 122 = .ok (.iload 7, 2) := by decide +kernel
theorem dX11_sum_124 : decode cX11_sum 124 = .ok (.iload 8, 2) := by decide +kernel
theorem dX11_sum_126 : decode cX11_sum 126 = .ok (.ldc 59, 2) := by decide +kernel
theorem dX11_sum_128 : decode cX11_sum 128 = .ok (.iand, 1) := by decide +kernel
theorem dX11_sum_129 : decode cX11_sum 129 = .ok (.iastore, 1) := by decide +kernel
theorem dX11_sum_130 : decode cX11_sum 130 = .ok (.iload 8, 2) := by decide +kernel
theorem dX11_sum_132 : decode cX11_sum 132 = .ok (.bipush 16, 2) := by decide +kernel
theorem dX11_sum_134 : decode cX11_sum 134 = .ok (.ishr, 1) := by decide +kernel
theorem dX11_sum_135 : decode cX11_sum 135 = .ok (.istore 6, 2) := by decide +kernel
theorem dX11_sum_137 : decode cX11_sum 137 = .ok (.iinc 7 1, 3) := by decide +kernel
theorem dX11_sum_140 : decode cX11_sum 140 = .ok (.goto (-76), 3) := by decide +kernel
theorem dX11_sum_143 : decode cX11_sum 143 = .ok (.aload 5, 2) := by decide +kernel
theorem dX11_sum_145 : decode cX11_sum 145 = .ok (.aload_n 1, 1) := by decide +kernel
theorem dX11_sum_146 : decode cX11_sum 146 = .ok (.getfield 38, 3) := by decide +kernel
theorem dX11_sum_149 : decode cX11_sum 149 = .ok (.iload 4, 2) := by decide +kernel
theorem dX11_sum_151 : decode cX11_sum 151 = .ok (.invokevirtual 26, 3) := by decide +kernel
theorem dX11_sum_154 : decode cX11_sum 154 = .ok (.areturn, 1) := by decide +kernel
def zj_X11_sum_114 (w1 : Nat) (w2 : Nat) (w4 : Int32) (w5 : Nat) (g16 : AH) (y7_114 : Int32) (t0_114 : Int32) (t1_114 : Int32) : Option ((AH × Int32 × Int32) ⊕ (AH)) :=
  lt_ (t1_114 + t0_114) fun x17 => (gR g16 w5 10 2).bind fun x18 => (sI g16 x18 0 y7_114 (x17 &&& ((65535 : Int32)))).bind fun g19 => lt_ (x17 >>> (((16 : Int32)) &&& 31)) fun x20 => some (Sum.inl ((g19, x20, y7_114 + (1 : Int32))))
def zj_X11_sum_93 (w1 : Nat) (w2 : Nat) (w4 : Int32) (w5 : Nat) (g13 : AH) (y7_93 : Int32) (t0_93 : Int32) (t1_93 : Int32) : Option ((AH × Int32 × Int32) ⊕ (AH)) :=
  (gI g13 w2 10 1).bind fun x14 => (if x14 ≤ y7_93 then zj_X11_sum_114 w1 w2 w4 w5 g13 y7_93 ((0 : Int32)) (t1_93 + t0_93) else (gR g13 w2 10 2).bind fun x21 => (aI g13 x21 0 y7_93).bind fun x22 => zj_X11_sum_114 w1 w2 w4 w5 g13 y7_93 x22 (t1_93 + t0_93))
def zb_X11_sum_64 (w1 : Nat) (w2 : Nat) (w4 : Int32) (w5 : Nat) (g9 : AH) (w6 : Int32) (w7 : Int32) : Option ((AH × Int32 × Int32) ⊕ (AH)) :=
  (if w4 ≤ w7 then some (Sum.inr g9) else (gI g9 w1 10 1).bind fun x11 => (if x11 ≤ w7 then zj_X11_sum_93 w1 w2 w4 w5 g9 w7 ((0 : Int32)) w6 else (gR g9 w1 10 2).bind fun x23 => (aI g9 x23 0 w7).bind fun x24 => zj_X11_sum_93 w1 w2 w4 w5 g9 w7 x24 w6))
def zs_X11_sum (h : AH) (u0 : Nat) (u1 : Nat) (u2 : Nat) (u3 : Int32) : Option (Nat × AH) :=
  (gI h u1 10 0).bind fun x1 => (if x1 = u3 then (gI h u1 10 1).bind fun x3 => (gI h u2 10 1).bind fun x4 => lt_ (if x3 < x4 then x4 else x3) fun x5 => lt_ (x5 + ((1 : Int32))) fun x6 => (chk h u0 11).bind fun _ => (zs_X11_take h u0).bind fun x8 => (iter (fun q : AH × Int32 × Int32 => zb_X11_sum_64 u1 u2 x6 x8.1 q.1 q.2.1 q.2.2) FU ((x8.2, (0 : Int32), (0 : Int32)))).bind fun r25 => (gI r25 u1 10 0).bind fun x26 => (chk r25 x8.1 10).bind fun _ => (zs_X10_of r25 x8.1 x26 x6).bind fun x28 => some (x28.1, x28.2) else (zs_X11_compareSizes h u1 u2).bind fun x29 => (if x29 < 0 then (chk h u0 11).bind fun _ => (zs_X11_lessSize h u0 u2 u1 u3).bind fun x32 => some (x32.1, x32.2) else (gI h u1 10 0).bind fun x33 => (chk h u0 11).bind fun _ => (zs_X11_lessSize h u0 u1 u2 x33).bind fun x35 => some (x35.1, x35.2)))
set_option maxRecDepth 100000 in
set_option maxHeartbeats 4000000 in
theorem zm_X11_sum (l : Launch) (D : hG) (z : Nat) {h : AH} {u0 : Nat} {u1 : Nat} {u2 : Nat} {u3 : Int32} {r : Nat} {h' : AH} (hs : zs_X11_sum h u0 u1 u2 u3 = some (r, h')) : hC l D z yX11_sum cX11_sum 9 (Option.some (Jvm.ClassFile.FieldType.object "WideWholesModel$Whole")) 2 49 0 0 [.ref u0, .ref u1, .ref u2, .int u3] h h' (some (.ref r)) := by
  refine hC_of (by decide) (Nat.le_of_ble_eq_true rfl) ?_
  intro p e s m below meth c hx hb hml hrt hlk hown hnm hts hk hr hz ls hl
  replace hown : s.vm.findClass RX11 = some m.cls := hown
  replace hl : lv_has ls 9 [(0, .ref u0), (1, .ref u1), (2, .ref u2), (3, .int u3)] := hl
  have hS : va_S (hA z) s.heap s.heap [] := va_S.rf
  suffices hgo : ∀ (H : Heap) (locs : List Loc), hR D z h H → va_S (hA z) s.heap H locs → W p l e ({ frames := 2, cells := 0, slots := 0, locals := 49 } : Room) s m ([.ref u0, .ref u1, .ref u2, .int u3] : List Value).toArray below meth c H locs 0 0 (MQ below (hQ D z h' (some (.ref r))) ([.ref u0, .ref u1, .ref u2, .int u3] : List Value).toArray s 0 0 (hA z)) (F0 m 0 ls []) from hgo _ _ hr hS
  clear hr hS
  intro H locs hr hS
  unfold zs_X11_sum at hs
  refine lv_aload_n hx hb dX11_sum_0 rfl (lv_at hl 1 rfl) ?_
  obtain ⟨x1, ex1, hs⟩ := bi_inv hs
  refine hv_gI (C := RX10) (T := TX10) (N := 3) (ci := 10) hx hb hts inX10 hown hk hr rfl 0 (by decide) (hts _ tw_863) ex1 dX11_sum_1 ?_
  refine lv_iload_n hx hb dX11_sum_4 rfl (lv_at hl 3 rfl) ?_
  refine lv_icmp_eq (tgt := 37) hx hb dX11_sum_5 (by decide) (fun c2 => ?_) (fun c2 => ?_)
  · rw [if_pos c2] at hs
    refine lv_aload_n hx hb dX11_sum_37 rfl (lv_at hl 1 rfl) ?_
    obtain ⟨x3, ex3, hs⟩ := bi_inv hs
    refine hv_gI (C := RX10) (T := TX10) (N := 3) (ci := 10) hx hb hts inX10 hown hk hr rfl 1 (by decide) (hts _ tw_865) ex3 dX11_sum_38 ?_
    refine lv_aload_n hx hb dX11_sum_41 rfl (lv_at hl 2 rfl) ?_
    obtain ⟨x4, ex4, hs⟩ := bi_inv hs
    refine hv_gI (C := RX10) (T := TX10) (N := 3) (ci := 10) hx hb hts inX10 hown hk hr rfl 1 (by decide) (hts _ tw_865) ex4 dX11_sum_42 ?_
    refine va_mmax hx hb (hml.trans hl.1.symm) hown (hts _ tw_1027) (hts _ tw_460) (hts _ tw_15) (hts _ tw_461) (by decide) (Nat.le_of_ble_eq_true rfl) (Nat.zero_le _) (Nat.zero_le _) dX11_sum_45 ?_
    refine lv_topi (fun x5 ex5 => ?_)
    replace hs := lt_inv hs x5 ex5
    refine lv_iconst (v := 1) hx hb dX11_sum_48 (by decide) ?_
    refine lv_iadd hx hb dX11_sum_49 ?_
    refine lv_topi (fun x6 ex6 => ?_)
    replace hs := lt_inv hs x6 ex6
    refine lv_istore (lv' := [(4, .int x6), (0, .ref u0), (1, .ref u1), (2, .ref u2), (3, .int u3)]) hx hb dX11_sum_50 hl (by decide) rfl (fun ls hl => ?_)
    refine lv_aload_n hx hb dX11_sum_52 rfl (lv_at hl 1 rfl) ?_
    obtain ⟨_, ex7, hs⟩ := bi_inv hs
    obtain ⟨x8, ex8, hs⟩ := bi_inv hs
    refine hv_V1 (n := 0) [] [] hx hb hml hown hts hk hr hz hS (zm_X11_take l D z ex8) ex7 rfl tw_964 tw_966 ts_23 tw_11 tw_967 (by decide +kernel) (by decide) ⟨(Nat.zero_le _), (Nat.zero_le _)⟩ rfl hl.1 (Nat.le_of_ble_eq_true rfl) dX11_sum_53 rfl (fun H locs hr hS => ?_)
    refine lv_astore (lv' := [(5, .ref x8.1), (4, .int x6), (0, .ref u0), (1, .ref u1), (2, .ref u2), (3, .int u3)]) hx hb dX11_sum_56 hl (by decide) rfl (fun ls hl => ?_)
    refine lv_iconst (v := 0) hx hb dX11_sum_58 (by decide) ?_
    refine lv_istore (lv' := [(6, .int ((0 : Int32))), (5, .ref x8.1), (4, .int x6), (0, .ref u0), (1, .ref u1), (2, .ref u2), (3, .int u3)]) hx hb dX11_sum_59 hl (by decide) rfl (fun ls hl => ?_)
    refine lv_iconst (v := 0) hx hb dX11_sum_61 (by decide) ?_
    refine lv_istore (lv' := [(7, .int ((0 : Int32))), (6, .int ((0 : Int32))), (5, .ref x8.1), (4, .int x6), (0, .ref u0), (1, .ref u1), (2, .ref u2), (3, .int u3)]) hx hb dX11_sum_62 hl (by decide) rfl (fun ls hl => ?_)
    obtain ⟨r25, er25, hs⟩ := bi_inv hs
    refine iter_W (fun (q : AH × Int32 × Int32) => ∀ (H : Heap) (locs : List Loc) (ls : Array Slot), hR D z q.1 H → va_S (hA z) s.heap H locs → lv_has ls 9 [(1, .ref u1), (2, .ref u2), (4, .int x6), (5, .ref x8.1), (6, .int q.2.1), (7, .int q.2.2)] → W p l e ({ frames := 2, cells := 0, slots := 0, locals := 49 } : Room) s m ([.ref u0, .ref u1, .ref u2, .int u3] : List Value).toArray below meth c H locs 0 0 (MQ below (hQ D z h' (some (.ref r))) ([.ref u0, .ref u1, .ref u2, .int u3] : List Value).toArray s 0 0 (hA z)) (F0 m 64 ls [])) (fun (x : AH) => ∀ (H : Heap) (locs : List Loc) (ls : Array Slot), hR D z x H → va_S (hA z) s.heap H locs → lv_has ls 9 [(1, .ref u1), (4, .int x6), (5, .ref x8.1)] → W p l e ({ frames := 2, cells := 0, slots := 0, locals := 49 } : Room) s m ([.ref u0, .ref u1, .ref u2, .int u3] : List Value).toArray below meth c H locs 0 0 (MQ below (hQ D z h' (some (.ref r))) ([.ref u0, .ref u1, .ref u2, .int u3] : List Value).toArray s 0 0 (hA z)) (F0 m 143 ls [])) ?_ FU _ r25 er25 ?_ H locs ls hr hS (lv_sub hl [5, 6, 3, 2, 1, 0] rfl)
    · intro q o hs hcont hexit
      obtain ⟨g9, w6, w7⟩ := q
      replace hs : zb_X11_sum_64 u1 u2 x6 x8.1 g9 w6 w7 = some o := hs
      intro H locs ls hr hS hl
      have hJ114 : ∀ (g16 : AH) (y7_114 : Int32) (t0_114 : Int32) (t1_114 : Int32) (H : Heap) (locs : List Loc) (ls : Array Slot), zj_X11_sum_114 u1 u2 x6 x8.1 g16 y7_114 t0_114 t1_114 = some o → hR D z g16 H → va_S (hA z) s.heap H locs → lv_has ls 9 [(1, .ref u1), (2, .ref u2), (4, .int x6), (5, .ref x8.1), (7, .int y7_114)] → W p l e ({ frames := 2, cells := 0, slots := 0, locals := 49 } : Room) s m ([.ref u0, .ref u1, .ref u2, .int u3] : List Value).toArray below meth c H locs 0 0 (MQ below (hQ D z h' (some (.ref r))) ([.ref u0, .ref u1, .ref u2, .int u3] : List Value).toArray s 0 0 (hA z)) (F0 m 114 ls [.int t0_114, .int t1_114]) := by
        intro g16 y7_114 t0_114 t1_114 H locs ls hs hr hS hl
        unfold zj_X11_sum_114 at hs
        refine lv_iadd hx hb dX11_sum_114 ?_
        refine lv_topi (fun x17 ex17 => ?_)
        replace hs := lt_inv hs x17 ex17
        refine lv_istore (lv' := [(8, .int x17), (1, .ref u1), (2, .ref u2), (4, .int x6), (5, .ref x8.1), (7, .int y7_114)]) hx hb dX11_sum_115 hl (by decide) rfl (fun ls hl => ?_)
        refine lv_aload hx hb dX11_sum_117 (lv_at hl 4 rfl) ?_
        obtain ⟨x18, ex18, hs⟩ := bi_inv hs
        refine hv_gR (C := RX10) (T := TX10) (N := 3) (ci := 10) hx hb hts inX10 hown hk hr rfl 2 (by decide) (hts _ tw_867) ex18 dX11_sum_119 ?_
        refine lv_iload hx hb dX11_sum_122 (lv_at hl 5 rfl) ?_
        refine lv_iload hx hb dX11_sum_124 (lv_at hl 0 rfl) ?_
        refine lv_ldc hx hb hown (hts _ tw_1026) dX11_sum_126 ?_
        refine lv_iand hx hb dX11_sum_128 ?_
        obtain ⟨g19, eg19, hs⟩ := bi_inv hs
        refine hv_sI hx hb hk hr hS eg19 dX11_sum_129 (fun H locs hr hS => ?_)
        refine lv_iload hx hb dX11_sum_130 (lv_at hl 0 rfl) ?_
        refine lv_bipush (v := 16) hx hb dX11_sum_132 (by decide) ?_
        refine lv_ishr hx hb dX11_sum_134 ?_
        refine lv_topi (fun x20 ex20 => ?_)
        replace hs := lt_inv hs x20 ex20
        refine lv_istore (lv' := [(6, .int x20), (8, .int x17), (1, .ref u1), (2, .ref u2), (4, .int x6), (5, .ref x8.1), (7, .int y7_114)]) hx hb dX11_sum_135 hl (by decide) rfl (fun ls hl => ?_)
        refine lv_iinc (v := y7_114 + (1 : Int32)) (lv' := [(7, .int (y7_114 + (1 : Int32))), (6, .int x20), (8, .int x17), (1, .ref u1), (2, .ref u2), (4, .int x6), (5, .ref x8.1)]) hx hb dX11_sum_137 hl (k := 6) rfl (ii_v _ (by decide)) (by decide) rfl (fun ls hl => ?_)
        refine lv_goto (tgt := 64) hx hb dX11_sum_140 (by decide) ?_
        obtain rfl := Option.some.inj hs
        exact hcont _ rfl H locs ls hr hS (lv_sub hl [3, 4, 5, 6, 1, 0] rfl)
      have hJ93 : ∀ (g13 : AH) (y7_93 : Int32) (t0_93 : Int32) (t1_93 : Int32) (H : Heap) (locs : List Loc) (ls : Array Slot), zj_X11_sum_93 u1 u2 x6 x8.1 g13 y7_93 t0_93 t1_93 = some o → hR D z g13 H → va_S (hA z) s.heap H locs → lv_has ls 9 [(1, .ref u1), (2, .ref u2), (4, .int x6), (5, .ref x8.1), (7, .int y7_93)] → W p l e ({ frames := 2, cells := 0, slots := 0, locals := 49 } : Room) s m ([.ref u0, .ref u1, .ref u2, .int u3] : List Value).toArray below meth c H locs 0 0 (MQ below (hQ D z h' (some (.ref r))) ([.ref u0, .ref u1, .ref u2, .int u3] : List Value).toArray s 0 0 (hA z)) (F0 m 93 ls [.int t0_93, .int t1_93]) := by
        intro g13 y7_93 t0_93 t1_93 H locs ls hs hr hS hl
        unfold zj_X11_sum_93 at hs
        refine lv_iadd hx hb dX11_sum_93 ?_
        refine lv_iload hx hb dX11_sum_94 (lv_at hl 4 rfl) ?_
        refine lv_aload_n hx hb dX11_sum_96 rfl (lv_at hl 1 rfl) ?_
        obtain ⟨x14, ex14, hs⟩ := bi_inv hs
        refine hv_gI (C := RX10) (T := TX10) (N := 3) (ci := 10) hx hb hts inX10 hown hk hr rfl 1 (by decide) (hts _ tw_865) ex14 dX11_sum_97 ?_
        refine lv_icmp_ge (tgt := 113) hx hb dX11_sum_100 (by decide) (fun c15 => ?_) (fun c15 => ?_)
        · rw [if_pos c15] at hs
          refine lv_iconst (v := 0) hx hb dX11_sum_113 (by decide) ?_
          exact hJ114 g13 y7_93 ((0 : Int32)) (t1_93 + t0_93) H locs ls hs hr hS (lv_sub hl [0, 1, 2, 3, 4] rfl)
        · rw [if_neg c15] at hs
          refine lv_aload_n hx hb dX11_sum_103 rfl (lv_at hl 1 rfl) ?_
          obtain ⟨x21, ex21, hs⟩ := bi_inv hs
          refine hv_gR (C := RX10) (T := TX10) (N := 3) (ci := 10) hx hb hts inX10 hown hk hr rfl 2 (by decide) (hts _ tw_867) ex21 dX11_sum_104 ?_
          refine lv_iload hx hb dX11_sum_107 (lv_at hl 4 rfl) ?_
          obtain ⟨x22, ex22, hs⟩ := bi_inv hs
          refine hv_aI hx hb hk hr ex22 dX11_sum_109 ?_
          refine lv_goto (tgt := 114) hx hb dX11_sum_110 (by decide) ?_
          exact hJ114 g13 y7_93 x22 (t1_93 + t0_93) H locs ls hs hr hS (lv_sub hl [0, 1, 2, 3, 4] rfl)
      unfold zb_X11_sum_64 at hs
      refine lv_iload hx hb dX11_sum_64 (lv_at hl 5 rfl) ?_
      refine lv_iload hx hb dX11_sum_66 (lv_at hl 2 rfl) ?_
      refine lv_icmp_ge (tgt := 143) hx hb dX11_sum_68 (by decide) (fun c10 => ?_) (fun c10 => ?_)
      · rw [if_pos c10] at hs
        obtain rfl := Option.some.inj hs
        exact hexit _ rfl H locs ls hr hS (lv_sub hl [0, 2, 3] rfl)
      · rw [if_neg c10] at hs
        refine lv_iload hx hb dX11_sum_71 (lv_at hl 4 rfl) ?_
        refine lv_iload hx hb dX11_sum_73 (lv_at hl 5 rfl) ?_
        refine lv_aload_n hx hb dX11_sum_75 rfl (lv_at hl 0 rfl) ?_
        obtain ⟨x11, ex11, hs⟩ := bi_inv hs
        refine hv_gI (C := RX10) (T := TX10) (N := 3) (ci := 10) hx hb hts inX10 hown hk hr rfl 1 (by decide) (hts _ tw_865) ex11 dX11_sum_76 ?_
        refine lv_icmp_ge (tgt := 92) hx hb dX11_sum_79 (by decide) (fun c12 => ?_) (fun c12 => ?_)
        · rw [if_pos c12] at hs
          refine lv_iconst (v := 0) hx hb dX11_sum_92 (by decide) ?_
          exact hJ93 g9 w7 ((0 : Int32)) w6 H locs ls hs hr hS (lv_sub hl [0, 1, 2, 3, 5] rfl)
        · rw [if_neg c12] at hs
          refine lv_aload_n hx hb dX11_sum_82 rfl (lv_at hl 0 rfl) ?_
          obtain ⟨x23, ex23, hs⟩ := bi_inv hs
          refine hv_gR (C := RX10) (T := TX10) (N := 3) (ci := 10) hx hb hts inX10 hown hk hr rfl 2 (by decide) (hts _ tw_867) ex23 dX11_sum_83 ?_
          refine lv_iload hx hb dX11_sum_86 (lv_at hl 5 rfl) ?_
          obtain ⟨x24, ex24, hs⟩ := bi_inv hs
          refine hv_aI hx hb hk hr ex24 dX11_sum_88 ?_
          refine lv_goto (tgt := 93) hx hb dX11_sum_89 (by decide) ?_
          exact hJ93 g9 w7 x24 w6 H locs ls hs hr hS (lv_sub hl [0, 1, 2, 3, 5] rfl)
    · intro H locs ls hr hS hl
      refine lv_aload hx hb dX11_sum_143 (lv_at hl 2 rfl) ?_
      refine lv_aload_n hx hb dX11_sum_145 rfl (lv_at hl 0 rfl) ?_
      obtain ⟨x26, ex26, hs⟩ := bi_inv hs
      refine hv_gI (C := RX10) (T := TX10) (N := 3) (ci := 10) hx hb hts inX10 hown hk hr rfl 0 (by decide) (hts _ tw_863) ex26 dX11_sum_146 ?_
      refine lv_iload hx hb dX11_sum_149 (lv_at hl 1 rfl) ?_
      obtain ⟨_, ex27, hs⟩ := bi_inv hs
      obtain ⟨x28, ex28, hs⟩ := bi_inv hs
      refine hv_V1 (n := 2) [.int x26, .int x6] [] hx hb hml hown hts hk hr hz hS (zm_X10_of l D z ex28) ex27 rfl tw_969 tw_970 tw_971 tw_12 tw_972 (by decide +kernel) (by decide) ⟨(Nat.zero_le _), (Nat.zero_le _)⟩ rfl hl.1 (Nat.le_of_ble_eq_true rfl) dX11_sum_151 rfl (fun H locs hr hS => ?_)
      obtain ⟨rfl, rfl⟩ := Prod.mk.inj (Option.some.inj hs)
      exact hv_aret hx hb hrt (by first | exact Or.inl ⟨_, rfl⟩ | exact Or.inr ⟨_, rfl⟩) hlk hr hS dX11_sum_154
  · rw [if_neg c2] at hs
    refine lv_aload_n hx hb dX11_sum_8 rfl (lv_at hl 1 rfl) ?_
    refine lv_aload_n hx hb dX11_sum_9 rfl (lv_at hl 2 rfl) ?_
    obtain ⟨x29, ex29, hs⟩ := bi_inv hs
    refine hv_S1 (n := 2) [.ref u1, .ref u2] [] hx hb hml hown hts hk hr hz hS (zm_X11_compareSizes l D z ex29) tw_1019 tw_1020 tw_11 tw_1021 (by decide +kernel) (by decide) ⟨(Nat.zero_le _), (Nat.zero_le _)⟩ rfl hl.1 (Nat.le_of_ble_eq_true rfl) dX11_sum_10 rfl (fun H locs hr hS => ?_)
    refine lv_if_lt (tgt := 29) hx hb dX11_sum_13 (by decide) (fun c30 => ?_) (fun c30 => ?_)
    · rw [if_pos c30] at hs
      refine lv_aload_n hx hb dX11_sum_29 rfl (lv_at hl 0 rfl) ?_
      refine lv_aload_n hx hb dX11_sum_30 rfl (lv_at hl 2 rfl) ?_
      refine lv_aload_n hx hb dX11_sum_31 rfl (lv_at hl 1 rfl) ?_
      refine lv_iload_n hx hb dX11_sum_32 rfl (lv_at hl 3 rfl) ?_
      obtain ⟨_, ex31, hs⟩ := bi_inv hs
      obtain ⟨x32, ex32, hs⟩ := bi_inv hs
      refine hv_V1 (n := 3) [.ref u2, .ref u1, .int u3] [] hx hb hml hown hts hk hr hz hS (zm_X11_lessSize l D z ex32) ex31 rfl tw_1022 tw_1024 ts_29 tw_11 tw_1025 (by decide +kernel) (by decide) ⟨(Nat.zero_le _), (Nat.zero_le _)⟩ rfl hl.1 (Nat.le_of_ble_eq_true rfl) dX11_sum_33 rfl (fun H locs hr hS => ?_)
      obtain ⟨rfl, rfl⟩ := Prod.mk.inj (Option.some.inj hs)
      exact hv_aret hx hb hrt (by first | exact Or.inl ⟨_, rfl⟩ | exact Or.inr ⟨_, rfl⟩) hlk hr hS dX11_sum_36
    · rw [if_neg c30] at hs
      refine lv_aload_n hx hb dX11_sum_16 rfl (lv_at hl 0 rfl) ?_
      refine lv_aload_n hx hb dX11_sum_17 rfl (lv_at hl 1 rfl) ?_
      refine lv_aload_n hx hb dX11_sum_18 rfl (lv_at hl 2 rfl) ?_
      refine lv_aload_n hx hb dX11_sum_19 rfl (lv_at hl 1 rfl) ?_
      obtain ⟨x33, ex33, hs⟩ := bi_inv hs
      refine hv_gI (C := RX10) (T := TX10) (N := 3) (ci := 10) hx hb hts inX10 hown hk hr rfl 0 (by decide) (hts _ tw_863) ex33 dX11_sum_20 ?_
      obtain ⟨_, ex34, hs⟩ := bi_inv hs
      obtain ⟨x35, ex35, hs⟩ := bi_inv hs
      refine hv_V1 (n := 3) [.ref u1, .ref u2, .int x33] [] hx hb hml hown hts hk hr hz hS (zm_X11_lessSize l D z ex35) ex34 rfl tw_1022 tw_1024 ts_29 tw_11 tw_1025 (by decide +kernel) (by decide) ⟨(Nat.zero_le _), (Nat.zero_le _)⟩ rfl hl.1 (Nat.le_of_ble_eq_true rfl) dX11_sum_23 rfl (fun H locs hr hS => ?_)
      refine lv_goto (tgt := 36) hx hb dX11_sum_26 (by decide) ?_
      obtain ⟨rfl, rfl⟩ := Prod.mk.inj (Option.some.inj hs)
      exact hv_aret hx hb hrt (by first | exact Or.inl ⟨_, rfl⟩ | exact Or.inr ⟨_, rfl⟩) hlk hr hS dX11_sum_36
theorem dX11_less_0 : decode cX11_less 0 = .ok (.aload_n 2, 1) := by decide +kernel
theorem dX11_less_1 : decode cX11_less 1 = .ok (.invokevirtual 60, 3) := by decide +kernel
theorem dX11_less_4 : decode cX11_less 4 = .ok (.ifCond .eq 11, 3) := by decide +kernel
theorem dX11_less_7 : decode cX11_less 7 = .ok (.aload_n 0, 1) := by decide +kernel
theorem dX11_less_8 : decode cX11_less 8 = .ok (.aload_n 1, 1) := by decide +kernel
theorem dX11_less_9 : decode cX11_less 9 = .ok (.invokevirtual 34, 3) := by decide +kernel
theorem dX11_less_12 : decode cX11_less 12 = .ok (.goto 36, 3) := by decide +kernel
theorem dX11_less_15 : decode cX11_less 15 = .ok (.aload_n 1, 1) := by decide +kernel
theorem dX11_less_16 : decode cX11_less 16 = .ok (.invokevirtual 60, 3) := by decide +kernel
theorem dX11_less_19 : decode cX11_less 19 = .ok (.ifCond .eq 11, 3) := by decide +kernel
theorem dX11_less_22 : decode cX11_less 22 = .ok (.aload_n 0, 1) := by decide +kernel
theorem dX11_less_23 : decode cX11_less 23 = .ok (.aload_n 2, 1) := by decide +kernel
theorem dX11_less_24 : decode cX11_less 24 = .ok (.invokevirtual 67, 3) := by decide +kernel
theorem dX11_less_27 : decode cX11_less 27 = .ok (.goto 21, 3) := by decide +kernel
theorem dX11_less_30 : decode cX11_less 30 = .ok (.aload_n 0, 1) := by decide +kernel
theorem dX11_less_31 : decode cX11_less 31 = .ok (.aload_n 1, 1) := by decide +kernel
theorem dX11_less_32 : decode cX11_less 32 = .ok (.aload_n 2, 1) := by decide +kernel
theorem dX11_less_33 : decode cX11_less 33 = .ok (.aload_n 2, 1) := by decide +kernel
theorem dX11_less_34 : decode cX11_less 34 = .ok (.getfield 38, 3) := by decide +kernel
theorem dX11_less_37 : decode cX11_less 37 = .ok (.ifCond .ne 7, 3) := by decide +kernel
theorem dX11_less_40 : decode cX11_less 40 = .ok (.iconst 1, 1) := by decide +kernel
theorem dX11_less_41 : decode cX11_less 41 = .ok (.goto 4, 3) := by decide +kernel
theorem dX11_less_44 : decode cX11_less 44 = .ok (.iconst 0, 1) := by decide +kernel
theorem dX11_less_45 : decode cX11_less 45 = .ok (.invokevirtual 64, 3) := by decide +kernel
theorem dX11_less_48 : decode cX11_less 48 = .ok (.areturn, 1) := by decide +kernel
def zj_X11_less_45 (g9 : AH) (t0_45 : Int32) (t1_45 : Nat) (t2_45 : Nat) (t3_45 : Nat) : Option (Nat × AH) :=
  (chk g9 t3_45 11).bind fun _ => (zs_X11_sum g9 t3_45 t2_45 t1_45 t0_45).bind fun x11 => some (x11.1, x11.2)
def zs_X11_less (h : AH) (u0 : Nat) (u1 : Nat) (u2 : Nat) : Option (Nat × AH) :=
  (chk h u2 10).bind fun _ => (zs_X10_isZero h u2).bind fun x2 => (if x2 = 0 then (chk h u1 10).bind fun _ => (zs_X10_isZero h u1).bind fun x5 => (if x5 = 0 then (gI h u2 10 0).bind fun x7 => (if x7 = 0 then zj_X11_less_45 h ((1 : Int32)) u2 u1 u0 else zj_X11_less_45 h ((0 : Int32)) u2 u1 u0) else (chk h u0 11).bind fun _ => (zs_X11_negative h u0 u2).bind fun x13 => some (x13.1, x13.2)) else (chk h u0 11).bind fun _ => (zs_X11_copy h u0 u1).bind fun x15 => some (x15.1, x15.2))
set_option maxRecDepth 100000 in
set_option maxHeartbeats 4000000 in
theorem zm_X11_less (l : Launch) (D : hG) (z : Nat) {h : AH} {u0 : Nat} {u1 : Nat} {u2 : Nat} {r : Nat} {h' : AH} (hs : zs_X11_less h u0 u1 u2 = some (r, h')) : hC l D z yX11_less cX11_less 3 (Option.some (Jvm.ClassFile.FieldType.object "WideWholesModel$Whole")) 4 113 0 0 [.ref u0, .ref u1, .ref u2] h h' (some (.ref r)) := by
  refine hC_of (by decide) (Nat.le_of_ble_eq_true rfl) ?_
  intro p e s m below meth c hx hb hml hrt hlk hown hnm hts hk hr hz ls hl
  replace hown : s.vm.findClass RX11 = some m.cls := hown
  replace hl : lv_has ls 3 [(0, .ref u0), (1, .ref u1), (2, .ref u2)] := hl
  have hS : va_S (hA z) s.heap s.heap [] := va_S.rf
  suffices hgo : ∀ (H : Heap) (locs : List Loc), hR D z h H → va_S (hA z) s.heap H locs → W p l e ({ frames := 4, cells := 0, slots := 0, locals := 113 } : Room) s m ([.ref u0, .ref u1, .ref u2] : List Value).toArray below meth c H locs 0 0 (MQ below (hQ D z h' (some (.ref r))) ([.ref u0, .ref u1, .ref u2] : List Value).toArray s 0 0 (hA z)) (F0 m 0 ls []) from hgo _ _ hr hS
  clear hr hS
  intro H locs hr hS
  have hJ45 : ∀ (g9 : AH) (t0_45 : Int32) (t1_45 : Nat) (t2_45 : Nat) (t3_45 : Nat) (H : Heap) (locs : List Loc) (ls : Array Slot), zj_X11_less_45 g9 t0_45 t1_45 t2_45 t3_45 = some (r, h') → hR D z g9 H → va_S (hA z) s.heap H locs → lv_has ls 3 [] → W p l e ({ frames := 4, cells := 0, slots := 0, locals := 113 } : Room) s m ([.ref u0, .ref u1, .ref u2] : List Value).toArray below meth c H locs 0 0 (MQ below (hQ D z h' (some (.ref r))) ([.ref u0, .ref u1, .ref u2] : List Value).toArray s 0 0 (hA z)) (F0 m 45 ls [.int t0_45, .ref t1_45, .ref t2_45, .ref t3_45]) := by
    intro g9 t0_45 t1_45 t2_45 t3_45 H locs ls hs hr hS hl
    unfold zj_X11_less_45 at hs
    obtain ⟨_, ex10, hs⟩ := bi_inv hs
    obtain ⟨x11, ex11, hs⟩ := bi_inv hs
    refine hv_V1 (n := 3) [.ref t2_45, .ref t1_45, .int t0_45] [] hx hb hml hown hts hk hr hz hS (zm_X11_sum l D z ex11) ex10 rfl tw_1015 tw_1017 ts_28 tw_11 tw_1018 (by decide +kernel) (by decide) ⟨(Nat.zero_le _), (Nat.zero_le _)⟩ rfl hl.1 (Nat.le_of_ble_eq_true rfl) dX11_less_45 rfl (fun H locs hr hS => ?_)
    obtain ⟨rfl, rfl⟩ := Prod.mk.inj (Option.some.inj hs)
    exact hv_aret hx hb hrt (by first | exact Or.inl ⟨_, rfl⟩ | exact Or.inr ⟨_, rfl⟩) hlk hr hS dX11_less_48
  unfold zs_X11_less at hs
  refine lv_aload_n hx hb dX11_less_0 rfl (lv_at hl 2 rfl) ?_
  obtain ⟨_, ex1, hs⟩ := bi_inv hs
  obtain ⟨x2, ex2, hs⟩ := bi_inv hs
  refine hv_V1 (n := 0) [] [] hx hb hml hown hts hk hr hz hS (zm_X10_isZero l D z ex2) ex1 rfl tw_1011 tw_1012 tw_1013 tw_12 tw_1014 (by decide +kernel) (by decide) ⟨(Nat.zero_le _), (Nat.zero_le _)⟩ rfl hl.1 (Nat.le_of_ble_eq_true rfl) dX11_less_1 rfl (fun H locs hr hS => ?_)
  refine lv_if_eq (tgt := 15) hx hb dX11_less_4 (by decide) (fun c3 => ?_) (fun c3 => ?_)
  · rw [if_pos c3] at hs
    refine lv_aload_n hx hb dX11_less_15 rfl (lv_at hl 1 rfl) ?_
    obtain ⟨_, ex4, hs⟩ := bi_inv hs
    obtain ⟨x5, ex5, hs⟩ := bi_inv hs
    refine hv_V1 (n := 0) [] [] hx hb hml hown hts hk hr hz hS (zm_X10_isZero l D z ex5) ex4 rfl tw_1011 tw_1012 tw_1013 tw_12 tw_1014 (by decide +kernel) (by decide) ⟨(Nat.zero_le _), (Nat.zero_le _)⟩ rfl hl.1 (Nat.le_of_ble_eq_true rfl) dX11_less_16 rfl (fun H locs hr hS => ?_)
    refine lv_if_eq (tgt := 30) hx hb dX11_less_19 (by decide) (fun c6 => ?_) (fun c6 => ?_)
    · rw [if_pos c6] at hs
      refine lv_aload_n hx hb dX11_less_30 rfl (lv_at hl 0 rfl) ?_
      refine lv_aload_n hx hb dX11_less_31 rfl (lv_at hl 1 rfl) ?_
      refine lv_aload_n hx hb dX11_less_32 rfl (lv_at hl 2 rfl) ?_
      refine lv_aload_n hx hb dX11_less_33 rfl (lv_at hl 2 rfl) ?_
      obtain ⟨x7, ex7, hs⟩ := bi_inv hs
      refine hv_gI (C := RX10) (T := TX10) (N := 3) (ci := 10) hx hb hts inX10 hown hk hr rfl 0 (by decide) (hts _ tw_863) ex7 dX11_less_34 ?_
      refine lv_if_ne (tgt := 44) hx hb dX11_less_37 (by decide) (fun c8 => ?_) (fun c8 => ?_)
      · rw [if_neg c8] at hs
        refine lv_iconst (v := 0) hx hb dX11_less_44 (by decide) ?_
        exact hJ45 h ((0 : Int32)) u2 u1 u0 H locs ls hs hr hS (lv_sub hl [] rfl)
      · rw [if_pos c8] at hs
        refine lv_iconst (v := 1) hx hb dX11_less_40 (by decide) ?_
        refine lv_goto (tgt := 45) hx hb dX11_less_41 (by decide) ?_
        exact hJ45 h ((1 : Int32)) u2 u1 u0 H locs ls hs hr hS (lv_sub hl [] rfl)
    · rw [if_neg c6] at hs
      refine lv_aload_n hx hb dX11_less_22 rfl (lv_at hl 0 rfl) ?_
      refine lv_aload_n hx hb dX11_less_23 rfl (lv_at hl 2 rfl) ?_
      obtain ⟨_, ex12, hs⟩ := bi_inv hs
      obtain ⟨x13, ex13, hs⟩ := bi_inv hs
      refine hv_V1 (n := 1) [.ref u2] [] hx hb hml hown hts hk hr hz hS (zm_X11_negative l D z ex13) ex12 rfl tw_1028 tw_1030 ts_30 tw_11 tw_1031 (by decide +kernel) (by decide) ⟨(Nat.zero_le _), (Nat.zero_le _)⟩ rfl hl.1 (Nat.le_of_ble_eq_true rfl) dX11_less_24 rfl (fun H locs hr hS => ?_)
      refine lv_goto (tgt := 48) hx hb dX11_less_27 (by decide) ?_
      obtain ⟨rfl, rfl⟩ := Prod.mk.inj (Option.some.inj hs)
      exact hv_aret hx hb hrt (by first | exact Or.inl ⟨_, rfl⟩ | exact Or.inr ⟨_, rfl⟩) hlk hr hS dX11_less_48
  · rw [if_neg c3] at hs
    refine lv_aload_n hx hb dX11_less_7 rfl (lv_at hl 0 rfl) ?_
    refine lv_aload_n hx hb dX11_less_8 rfl (lv_at hl 1 rfl) ?_
    obtain ⟨_, ex14, hs⟩ := bi_inv hs
    obtain ⟨x15, ex15, hs⟩ := bi_inv hs
    refine hv_V1 (n := 1) [.ref u1] [] hx hb hml hown hts hk hr hz hS (zm_X11_copy l D z ex15) ex14 rfl tw_996 tw_998 ts_25 tw_11 tw_999 (by decide +kernel) (by decide) ⟨(Nat.zero_le _), (Nat.zero_le _)⟩ rfl hl.1 (Nat.le_of_ble_eq_true rfl) dX11_less_9 rfl (fun H locs hr hS => ?_)
    refine lv_goto (tgt := 48) hx hb dX11_less_12 (by decide) ?_
    obtain ⟨rfl, rfl⟩ := Prod.mk.inj (Option.some.inj hs)
    exact hv_aret hx hb hrt (by first | exact Or.inl ⟨_, rfl⟩ | exact Or.inr ⟨_, rfl⟩) hlk hr hS dX11_less_48
theorem dX11_sum__0 : decode cX11_sum_ 0 = .ok (.aload_n 2, 1) := by decide +kernel
theorem dX11_sum__1 : decode cX11_sum_ 1 = .ok (.invokevirtual 60, 3) := by decide +kernel
theorem dX11_sum__4 : decode cX11_sum_ 4 = .ok (.ifCond .eq 11, 3) := by decide +kernel
theorem dX11_sum__7 : decode cX11_sum_ 7 = .ok (.aload_n 0, 1) := by decide +kernel
theorem dX11_sum__8 : decode cX11_sum_ 8 = .ok (.aload_n 1, 1) := by decide +kernel
theorem dX11_sum__9 : decode cX11_sum_ 9 = .ok (.invokevirtual 34, 3) := by decide +kernel
theorem dX11_sum__12 : decode cX11_sum_ 12 = .ok (.goto 28, 3) := by decide +kernel
theorem dX11_sum__15 : decode cX11_sum_ 15 = .ok (.aload_n 1, 1) := by decide +kernel
theorem dX11_sum__16 : decode cX11_sum_ 16 = .ok (.invokevirtual 60, 3) := by decide +kernel
theorem dX11_sum__19 : decode cX11_sum_ 19 = .ok (.ifCond .eq 11, 3) := by decide +kernel
theorem dX11_sum__22 : decode cX11_sum_ 22 = .ok (.aload_n 0, 1) := by decide +kernel
theorem dX11_sum__23 : decode cX11_sum_ 23 = .ok (.aload_n 2, 1) := by decide +kernel
theorem dX11_sum__24 : decode cX11_sum_ 24 = .ok (.invokevirtual 34, 3) := by decide +kernel
theorem dX11_sum__27 : decode cX11_sum_ 27 = .ok (.goto 13, 3) := by decide +kernel
theorem dX11_sum__30 : decode cX11_sum_ 30 = .ok (.aload_n 0, 1) := by decide +kernel
theorem dX11_sum__31 : decode cX11_sum_ 31 = .ok (.aload_n 1, 1) := by decide +kernel
theorem dX11_sum__32 : decode cX11_sum_ 32 = .ok (.aload_n 2, 1) := by decide +kernel
theorem dX11_sum__33 : decode cX11_sum_ 33 = .ok (.aload_n 2, 1) := by decide +kernel
theorem dX11_sum__34 : decode cX11_sum_ 34 = .ok (.getfield 38, 3) := by decide +kernel
theorem dX11_sum__37 : decode cX11_sum_ 37 = .ok (.invokevirtual 64, 3) := by decide +kernel
theorem dX11_sum__40 : decode cX11_sum_ 40 = .ok (.areturn, 1) := by decide +kernel
def zs_X11_sum_ (h : AH) (u0 : Nat) (u1 : Nat) (u2 : Nat) : Option (Nat × AH) :=
  (chk h u2 10).bind fun _ => (zs_X10_isZero h u2).bind fun x2 => (if x2 = 0 then (chk h u1 10).bind fun _ => (zs_X10_isZero h u1).bind fun x5 => (if x5 = 0 then (gI h u2 10 0).bind fun x7 => (chk h u0 11).bind fun _ => (zs_X11_sum h u0 u1 u2 x7).bind fun x9 => some (x9.1, x9.2) else (chk h u0 11).bind fun _ => (zs_X11_copy h u0 u2).bind fun x11 => some (x11.1, x11.2)) else (chk h u0 11).bind fun _ => (zs_X11_copy h u0 u1).bind fun x13 => some (x13.1, x13.2))
set_option maxRecDepth 100000 in
set_option maxHeartbeats 4000000 in
theorem zm_X11_sum_ (l : Launch) (D : hG) (z : Nat) {h : AH} {u0 : Nat} {u1 : Nat} {u2 : Nat} {r : Nat} {h' : AH} (hs : zs_X11_sum_ h u0 u1 u2 = some (r, h')) : hC l D z yX11_sum_ cX11_sum_ 3 (Option.some (Jvm.ClassFile.FieldType.object "WideWholesModel$Whole")) 3 91 0 0 [.ref u0, .ref u1, .ref u2] h h' (some (.ref r)) := by
  refine hC_of (by decide) (Nat.le_of_ble_eq_true rfl) ?_
  intro p e s m below meth c hx hb hml hrt hlk hown hnm hts hk hr hz ls hl
  replace hown : s.vm.findClass RX11 = some m.cls := hown
  replace hl : lv_has ls 3 [(0, .ref u0), (1, .ref u1), (2, .ref u2)] := hl
  have hS : va_S (hA z) s.heap s.heap [] := va_S.rf
  suffices hgo : ∀ (H : Heap) (locs : List Loc), hR D z h H → va_S (hA z) s.heap H locs → W p l e ({ frames := 3, cells := 0, slots := 0, locals := 91 } : Room) s m ([.ref u0, .ref u1, .ref u2] : List Value).toArray below meth c H locs 0 0 (MQ below (hQ D z h' (some (.ref r))) ([.ref u0, .ref u1, .ref u2] : List Value).toArray s 0 0 (hA z)) (F0 m 0 ls []) from hgo _ _ hr hS
  clear hr hS
  intro H locs hr hS
  unfold zs_X11_sum_ at hs
  refine lv_aload_n hx hb dX11_sum__0 rfl (lv_at hl 2 rfl) ?_
  obtain ⟨_, ex1, hs⟩ := bi_inv hs
  obtain ⟨x2, ex2, hs⟩ := bi_inv hs
  refine hv_V1 (n := 0) [] [] hx hb hml hown hts hk hr hz hS (zm_X10_isZero l D z ex2) ex1 rfl tw_1011 tw_1012 tw_1013 tw_12 tw_1014 (by decide +kernel) (by decide) ⟨(Nat.zero_le _), (Nat.zero_le _)⟩ rfl hl.1 (Nat.le_of_ble_eq_true rfl) dX11_sum__1 rfl (fun H locs hr hS => ?_)
  refine lv_if_eq (tgt := 15) hx hb dX11_sum__4 (by decide) (fun c3 => ?_) (fun c3 => ?_)
  · rw [if_pos c3] at hs
    refine lv_aload_n hx hb dX11_sum__15 rfl (lv_at hl 1 rfl) ?_
    obtain ⟨_, ex4, hs⟩ := bi_inv hs
    obtain ⟨x5, ex5, hs⟩ := bi_inv hs
    refine hv_V1 (n := 0) [] [] hx hb hml hown hts hk hr hz hS (zm_X10_isZero l D z ex5) ex4 rfl tw_1011 tw_1012 tw_1013 tw_12 tw_1014 (by decide +kernel) (by decide) ⟨(Nat.zero_le _), (Nat.zero_le _)⟩ rfl hl.1 (Nat.le_of_ble_eq_true rfl) dX11_sum__16 rfl (fun H locs hr hS => ?_)
    refine lv_if_eq (tgt := 30) hx hb dX11_sum__19 (by decide) (fun c6 => ?_) (fun c6 => ?_)
    · rw [if_pos c6] at hs
      refine lv_aload_n hx hb dX11_sum__30 rfl (lv_at hl 0 rfl) ?_
      refine lv_aload_n hx hb dX11_sum__31 rfl (lv_at hl 1 rfl) ?_
      refine lv_aload_n hx hb dX11_sum__32 rfl (lv_at hl 2 rfl) ?_
      refine lv_aload_n hx hb dX11_sum__33 rfl (lv_at hl 2 rfl) ?_
      obtain ⟨x7, ex7, hs⟩ := bi_inv hs
      refine hv_gI (C := RX10) (T := TX10) (N := 3) (ci := 10) hx hb hts inX10 hown hk hr rfl 0 (by decide) (hts _ tw_863) ex7 dX11_sum__34 ?_
      obtain ⟨_, ex8, hs⟩ := bi_inv hs
      obtain ⟨x9, ex9, hs⟩ := bi_inv hs
      refine hv_V1 (n := 3) [.ref u1, .ref u2, .int x7] [] hx hb hml hown hts hk hr hz hS (zm_X11_sum l D z ex9) ex8 rfl tw_1015 tw_1017 ts_28 tw_11 tw_1018 (by decide +kernel) (by decide) ⟨(Nat.zero_le _), (Nat.zero_le _)⟩ rfl hl.1 (Nat.le_of_ble_eq_true rfl) dX11_sum__37 rfl (fun H locs hr hS => ?_)
      obtain ⟨rfl, rfl⟩ := Prod.mk.inj (Option.some.inj hs)
      exact hv_aret hx hb hrt (by first | exact Or.inl ⟨_, rfl⟩ | exact Or.inr ⟨_, rfl⟩) hlk hr hS dX11_sum__40
    · rw [if_neg c6] at hs
      refine lv_aload_n hx hb dX11_sum__22 rfl (lv_at hl 0 rfl) ?_
      refine lv_aload_n hx hb dX11_sum__23 rfl (lv_at hl 2 rfl) ?_
      obtain ⟨_, ex10, hs⟩ := bi_inv hs
      obtain ⟨x11, ex11, hs⟩ := bi_inv hs
      refine hv_V1 (n := 1) [.ref u2] [] hx hb hml hown hts hk hr hz hS (zm_X11_copy l D z ex11) ex10 rfl tw_996 tw_998 ts_25 tw_11 tw_999 (by decide +kernel) (by decide) ⟨(Nat.zero_le _), (Nat.zero_le _)⟩ rfl hl.1 (Nat.le_of_ble_eq_true rfl) dX11_sum__24 rfl (fun H locs hr hS => ?_)
      refine lv_goto (tgt := 40) hx hb dX11_sum__27 (by decide) ?_
      obtain ⟨rfl, rfl⟩ := Prod.mk.inj (Option.some.inj hs)
      exact hv_aret hx hb hrt (by first | exact Or.inl ⟨_, rfl⟩ | exact Or.inr ⟨_, rfl⟩) hlk hr hS dX11_sum__40
  · rw [if_neg c3] at hs
    refine lv_aload_n hx hb dX11_sum__7 rfl (lv_at hl 0 rfl) ?_
    refine lv_aload_n hx hb dX11_sum__8 rfl (lv_at hl 1 rfl) ?_
    obtain ⟨_, ex12, hs⟩ := bi_inv hs
    obtain ⟨x13, ex13, hs⟩ := bi_inv hs
    refine hv_V1 (n := 1) [.ref u1] [] hx hb hml hown hts hk hr hz hS (zm_X11_copy l D z ex13) ex12 rfl tw_996 tw_998 ts_25 tw_11 tw_999 (by decide +kernel) (by decide) ⟨(Nat.zero_le _), (Nat.zero_le _)⟩ rfl hl.1 (Nat.le_of_ble_eq_true rfl) dX11_sum__9 rfl (fun H locs hr hS => ?_)
    refine lv_goto (tgt := 40) hx hb dX11_sum__12 (by decide) ?_
    obtain ⟨rfl, rfl⟩ := Prod.mk.inj (Option.some.inj hs)
    exact hv_aret hx hb hrt (by first | exact Or.inl ⟨_, rfl⟩ | exact Or.inr ⟨_, rfl⟩) hlk hr hS dX11_sum__40
theorem dX11_times_0 : decode cX11_times 0 = .ok (.aload_n 0, 1) := by decide +kernel
theorem dX11_times_1 : decode cX11_times 1 = .ok (.invokevirtual 14, 3) := by decide +kernel
theorem dX11_times_4 : decode cX11_times 4 = .ok (.astore_n 3, 1) := by decide +kernel
theorem dX11_times_5 : decode cX11_times 5 = .ok (.aload_n 1, 1) := by decide +kernel
theorem dX11_times_6 : decode cX11_times 6 = .ok (.getfield 42, 3) := by decide +kernel
theorem dX11_times_9 : decode cX11_times 9 = .ok (.aload_n 2, 1) := by decide +kernel
theorem dX11_times_10 : decode cX11_times 10 = .ok (.getfield 42, 3) := by decide +kernel
theorem dX11_times_13 : decode cX11_times 13 = .ok (.iadd, 1) := by decide +kernel
theorem dX11_times_14 : decode cX11_times 14 = .ok (.istore 4, 2) := by decide +kernel
theorem dX11_times_16 : decode cX11_times 16 = .ok (.iconst 0, 1) := by decide +kernel
theorem dX11_times_17 : decode cX11_times 17 = .ok (.istore 5, 2) := by decide +kernel
theorem dX11_times_19 : decode cX11_times 19 = .ok (.iload 5, 2) := by decide +kernel
theorem dX11_times_21 : decode cX11_times 21 = .ok (.iload 4, 2) := by decide +kernel
theorem dX11_times_23 : decode cX11_times 23 = .ok (.if_icmp .ge 17, 3) := by decide +kernel
theorem dX11_times_26 : decode cX11_times 26 = .ok (.aload_n 3, 1) := by decide +kernel
theorem dX11_times_27 : decode cX11_times 27 = .ok (.getfield 18, 3) := by decide +kernel
theorem dX11_times_30 : decode cX11_times 30 = .ok (.iload 5, 2) := by decide +kernel
theorem dX11_times_32 : decode cX11_times 32 = .ok (.iconst 0, 1) := by decide +kernel
theorem dX11_times_33 : decode cX11_times 33 = .ok (.iastore, 1) := by decide +kernel
theorem dX11_times_34 : decode cX11_times 34 = .ok (.iinc 5 1, 3) := by decide +kernel
theorem dX11_times_37 : decode cX11_times 37 = .ok (.goto (-18), 3) := by decide +kernel
theorem dX11_times_40 : decode cX11_times 40 = .ok (.iconst 0, 1) := by decide +kernel
theorem dX11_times_41 : decode cX11_times 41 = .ok (.istore 5, 2) := by decide +kernel
theorem dX11_times_43 : decode cX11_times 43 = .ok (.iload 5, 2) := by decide +kernel
theorem dX11_times_45 : decode cX11_times 45 = .ok (.aload_n 1, 1) := by decide +kernel
theorem dX11_times_46 : decode cX11_times 46 = .ok (.getfield 42, 3) := by decide +kernel
theorem dX11_times_49 : decode cX11_times 49 = .ok (.if_icmp .ge 108, 3) := by decide +kernel
theorem dX11_times_52 : decode cX11_times 52 = .ok (.lconst 0, 1) := by decide +kernel
theorem dX11_times_53 : decode cX11_times 53 = .ok (.lstore 6, 2) := by decide +kernel
theorem dX11_times_55 : decode cX11_times 55 = .ok (.iconst 0, 1) := by decide +kernel
theorem dX11_times_56 : decode cX11_times 56 = .ok (.istore 8, 2) := by decide +kernel
theorem dX11_times_58 : decode cX11_times 58 = .ok (.iload 8, 2) := by decide +kernel
theorem dX11_times_60 : decode cX11_times 60 = .ok (.aload_n 2, 1) := by decide +kernel
theorem dX11_times_61 : decode cX11_times 61 = .ok (.getfield 42, 3) := by decide +kernel
theorem dX11_times_64 : decode cX11_times 64 = .ok (.if_icmp .lt 10, 3) := by decide +kernel
theorem dX11_times_67 : decode cX11_times 67 = .ok (.lload 6, 2) := by decide +kernel
theorem dX11_times_69 : decode cX11_times 69 = .ok (.lconst 0, 1) := by decide +kernel
theorem dX11_times_70 : decode cX11_times 70 = .ok (.lcmp, 1) := by decide +kernel
theorem dX11_times_71 : decode cX11_times 71 = .ok (.ifCond .le 80, 3) := by decide +kernel
theorem dX11_times_74 : decode cX11_times 74 = .ok (.aload_n 3, 1) := by decide +kernel
theorem dX11_times_75 : decode cX11_times 75 = .ok (.getfield 18, 3) := by decide +kernel
theorem dX11_times_78 : decode cX11_times 78 = .ok (.iload 5, 2) := by decide +kernel
theorem dX11_times_80 : decode cX11_times 80 = .ok (.iload 8, 2) := by decide +kernel
theorem dX11_times_82 : decode cX11_times 82 = .ok (.iadd, 1) := by decide +kernel
theorem dX11_times_83 : decode cX11_times 83 = .ok (.iaload, 1) := by decide +kernel
theorem dX11_times_84 : decode cX11_times 84 = .ok (.i2l, 1) := by decide +kernel
theorem dX11_times_85 : decode cX11_times 85 = .ok (.lload 6, 2) := by decide +kernel
theorem dX11_times_87 : decode cX11_times 87 = .ok (.ladd, 1) := by decide +kernel
theorem dX11_times_88 : decode cX11_times 88 = .ok (.iload 8, 2) := by decide +kernel
theorem dX11_times_90 : decode cX11_times 90 = .ok (.aload_n 2, 1) := by decide +kernel
theorem dX11_times_91 : decode cX11_times 91 = .ok (.getfield 42, 3) := by decide +kernel
theorem dX11_times_94 : decode cX11_times 94 = .ok (.if_icmp .ge 23, 3) := by decide +kernel
theorem dX11_times_97 : decode cX11_times 97 = .ok (.aload_n 1, 1) := by decide +kernel
theorem dX11_times_98 : decode cX11_times 98 = .ok (.getfield 18, 3) := by decide +kernel
theorem dX11_times_101 : decode cX11_times 101 = .ok (.iload 5, 2) := by decide +kernel
theorem dX11_times_103 : decode cX11_times 103 = .ok (.iaload, 1) := by decide +kernel
theorem dX11_times_104 : decode cX11_times 104 = .ok (.i2l, 1) := by decide +kernel
theorem dX11_times_105 : decode cX11_times 105 = .ok (.aload_n 2, 1) := by decide +kernel
theorem dX11_times_106 : decode cX11_times 106 = .ok (.getfield 18, 3) := by decide +kernel
theorem dX11_times_109 : decode cX11_times 109 = .ok (.iload 8, 2) := by decide +kernel
theorem dX11_times_111 : decode cX11_times 111 = .ok (.iaload, 1) := by decide +kernel
theorem dX11_times_112 : decode cX11_times 112 = .ok (.i2l, 1) := by decide +kernel
theorem dX11_times_113 : decode cX11_times 113 = .ok (.lmul, 1) := by decide +kernel
theorem dX11_times_114 : decode cX11_times 114 = .ok (.goto 4, 3) := by decide +kernel
theorem dX11_times_117 : decode cX11_times 117 = .ok (.lconst 0, 1) := by decide +kernel
theorem dX11_times_118 : decode cX11_times 118 = .ok (.ladd, 1) := by decide +kernel
theorem dX11_times_119 : decode cX11_times 119 = .ok (.lstore 9, 2) := by decide +kernel
theorem dX11_times_121 : decode cX11_times 121 = .ok (.aload_n 3, 1) := by decide +kernel
theorem dX11_times_122 : decode cX11_times 122 = .ok (.getfield 18, 3) := by decide +kernel
theorem dX11_times_125 : decode cX11_times 125 = .ok (.iload 5, 2) := by decide +kernel
theorem dX11_times_127 : decode cX11_times 127 = .ok (.iload 8, 2) := by decide +kernel
theorem dX11_times_129 : decode cX11_times 129 = .ok (.iadd, 1) := by decide +kernel
theorem dX11_times_130 : decode cX11_times 130 = .ok (.lload 9, 2) := by decide +kernel
theorem dX11_times_132 : decode cX11_times 132 = .ok (.ldc2_w 24, 3) := by decide +kernel
theorem dX11_times_135 : decode cX11_times 135 = .ok (.land, 1) := by decide +kernel
theorem dX11_times_136 : decode cX11_times 136 = .ok (.l2i, 1) := by decide +kernel
theorem dX11_times_137 : decode cX11_times 137 = .ok (.iastore, 1) := by decide +kernel
theorem dX11_times_138 : decode cX11_times 138 = .ok (.lload 9, 2) := by decide +kernel
theorem dX11_times_140 : decode cX11_times 140 = .ok (.bipush 16, 2) := by decide +kernel
theorem dX11_times_142 : decode cX11_times 142 = .ok (.lshr, 1) := by decide +kernel
theorem dX11_times_143 : decode cX11_times 143 = .ok (.lstore 6, 2) := by decide +kernel
theorem dX11_times_145 : decode cX11_times 145 = .ok (.iinc 8 1, 3) := by decide +kernel
theorem dX11_times_148 : decode cX11_times 148 = .ok (.goto (-90), 3) := by decide +kernel
theorem dX11_times_151 : decode cX11_times 151 = .ok (.iinc 5 1, 3) := by decide +kernel
theorem dX11_times_154 : decode cX11_times 154 = .ok (.goto (-111), 3) := by decide +kernel
theorem dX11_times_157 : decode cX11_times 157 = .ok (.aload_n 3, 1) := by decide +kernel
theorem dX11_times_158 : decode cX11_times 158 = .ok (.aload_n 1, 1) := by decide +kernel
theorem dX11_times_159 : decode cX11_times 159 = .ok (.getfield 38, 3) := by decide +kernel
theorem dX11_times_162 : decode cX11_times 162 = .ok (.aload_n 2, 1) := by decide +kernel
theorem dX11_times_163 : decode cX11_times 163 = .ok (.getfield 38, 3) := by decide +kernel
theorem dX11_times_166 : decode cX11_times 166 = .ok (.if_icmp .eq 7, 3) := by decide +kernel
theorem dX11_times_169 : decode cX11_times 169 = .ok (.iconst 1, 1) := by decide +kernel
theorem dX11_times_170 : decode cX11_times 170 = .ok (.goto 4, 3) := by decide +kernel
theorem dX11_times_173 : decode cX11_times 173 = .ok (.iconst 0, 1) := by decide +kernel
theorem dX11_times_174 : decode cX11_times 174 = .ok (.iload 4, 2) := by decide +kernel
theorem dX11_times_176 : decode cX11_times 176 = .ok (.invokevirtual 26, 3) := by decide +kernel
theorem dX11_times_179 : decode cX11_times 179 = .ok (.areturn, 1) := by decide +kernel
def zb_X11_times_19 (w1 : Nat) (w2 : Nat) (w3 : Nat) (w4 : Int32) (g6 : AH) (w5 : Int32) : Option ((AH × Int32) ⊕ (AH)) :=
  (if w4 ≤ w5 then some (Sum.inr g6) else (gR g6 w3 10 2).bind fun x8 => (sI g6 x8 0 w5 ((0 : Int32))).bind fun g9 => some (Sum.inl ((g9, w5 + (1 : Int32)))))
def zj_X11_times_118 (w1 : Nat) (w2 : Nat) (w3 : Nat) (w4 : Int32) (w5 : Int32) (g22 : AH) (y8_118 : Int32) (t0_118 : Int64) (t1_118 : Int64) : Option ((AH × Int64 × Int32) ⊕ (AH)) :=
  lt_ (t1_118 + t0_118) fun x23 => (gR g22 w3 10 2).bind fun x24 => (sI g22 x24 0 (w5 + y8_118) ((x23 &&& ((65535 : Int64))).toInt32)).bind fun g25 => lt_ (x23 >>> (((16 : Int32)).toInt64 &&& 63)) fun x26 => some (Sum.inl ((g25, x26, y8_118 + (1 : Int32))))
def zj_X11_times_74 (w1 : Nat) (w2 : Nat) (w3 : Nat) (w4 : Int32) (w5 : Int32) (g17 : AH) (y6_74 : Int64) (y8_74 : Int32) : Option ((AH × Int64 × Int32) ⊕ (AH)) :=
  (gR g17 w3 10 2).bind fun x18 => (aI g17 x18 0 (w5 + y8_74)).bind fun x19 => (gI g17 w2 10 1).bind fun x20 => (if x20 ≤ y8_74 then zj_X11_times_118 w1 w2 w3 w4 w5 g17 y8_74 ((0 : Int64)) (x19.toInt64 + y6_74) else (gR g17 w1 10 2).bind fun x27 => (aI g17 x27 0 w5).bind fun x28 => (gR g17 w2 10 2).bind fun x29 => (aI g17 x29 0 y8_74).bind fun x30 => zj_X11_times_118 w1 w2 w3 w4 w5 g17 y8_74 (x28.toInt64 * x30.toInt64) (x19.toInt64 + y6_74))
def zb_X11_times_58 (w1 : Nat) (w2 : Nat) (w3 : Nat) (w4 : Int32) (w5 : Int32) (g14 : AH) (w6 : Int64) (w8 : Int32) : Option ((AH × Int64 × Int32) ⊕ (AH)) :=
  (gI g14 w2 10 1).bind fun x15 => (if w8 < x15 then zj_X11_times_74 w1 w2 w3 w4 w5 g14 w6 w8 else (if w6 ≤ (0 : Int64) then some (Sum.inr g14) else zj_X11_times_74 w1 w2 w3 w4 w5 g14 w6 w8))
def zb_X11_times_43 (w1 : Nat) (w2 : Nat) (w3 : Nat) (w4 : Int32) (g11 : AH) (w5 : Int32) : Option ((AH × Int32) ⊕ (AH)) :=
  (gI g11 w1 10 1).bind fun x12 => (if x12 ≤ w5 then some (Sum.inr g11) else (iter (fun q : AH × Int64 × Int32 => zb_X11_times_58 w1 w2 w3 w4 w5 q.1 q.2.1 q.2.2) FU ((g11, (0 : Int64), (0 : Int32)))).bind fun r32 => some (Sum.inl ((r32, w5 + (1 : Int32)))))
def zj_X11_times_174 (g37 : AH) (y4_174 : Int32) (t0_174 : Int32) (t1_174 : Nat) : Option (Nat × AH) :=
  (chk g37 t1_174 10).bind fun _ => (zs_X10_of g37 t1_174 t0_174 y4_174).bind fun x39 => some (x39.1, x39.2)
def zs_X11_times (h : AH) (u0 : Nat) (u1 : Nat) (u2 : Nat) : Option (Nat × AH) :=
  (chk h u0 11).bind fun _ => (zs_X11_take h u0).bind fun x2 => (gI x2.2 u1 10 1).bind fun x3 => (gI x2.2 u2 10 1).bind fun x4 => lt_ (x3 + x4) fun x5 => (iter (fun q : AH × Int32 => zb_X11_times_19 u1 u2 x2.1 x5 q.1 q.2) FU ((x2.2, (0 : Int32)))).bind fun r10 => (iter (fun q : AH × Int32 => zb_X11_times_43 u1 u2 x2.1 x5 q.1 q.2) FU ((r10, (0 : Int32)))).bind fun r33 => (gI r33 u1 10 0).bind fun x34 => (gI r33 u2 10 0).bind fun x35 => (if x34 = x35 then zj_X11_times_174 r33 x5 ((0 : Int32)) x2.1 else zj_X11_times_174 r33 x5 ((1 : Int32)) x2.1)
set_option maxRecDepth 100000 in
set_option maxHeartbeats 4000000 in
theorem zm_X11_times (l : Launch) (D : hG) (z : Nat) {h : AH} {u0 : Nat} {u1 : Nat} {u2 : Nat} {r : Nat} {h' : AH} (hs : zs_X11_times h u0 u1 u2 = some (r, h')) : hC l D z yX11_times cX11_times 11 (Option.some (Jvm.ClassFile.FieldType.object "WideWholesModel$Whole")) 1 22 0 0 [.ref u0, .ref u1, .ref u2] h h' (some (.ref r)) := by
  refine hC_of (by decide) (Nat.le_of_ble_eq_true rfl) ?_
  intro p e s m below meth c hx hb hml hrt hlk hown hnm hts hk hr hz ls hl
  replace hown : s.vm.findClass RX11 = some m.cls := hown
  replace hl : lv_has ls 11 [(0, .ref u0), (1, .ref u1), (2, .ref u2)] := hl
  have hS : va_S (hA z) s.heap s.heap [] := va_S.rf
  suffices hgo : ∀ (H : Heap) (locs : List Loc), hR D z h H → va_S (hA z) s.heap H locs → W p l e ({ frames := 1, cells := 0, slots := 0, locals := 22 } : Room) s m ([.ref u0, .ref u1, .ref u2] : List Value).toArray below meth c H locs 0 0 (MQ below (hQ D z h' (some (.ref r))) ([.ref u0, .ref u1, .ref u2] : List Value).toArray s 0 0 (hA z)) (F0 m 0 ls []) from hgo _ _ hr hS
  clear hr hS
  intro H locs hr hS
  have hJ174 : ∀ (g37 : AH) (y4_174 : Int32) (t0_174 : Int32) (t1_174 : Nat) (H : Heap) (locs : List Loc) (ls : Array Slot), zj_X11_times_174 g37 y4_174 t0_174 t1_174 = some (r, h') → hR D z g37 H → va_S (hA z) s.heap H locs → lv_has ls 11 [(4, .int y4_174)] → W p l e ({ frames := 1, cells := 0, slots := 0, locals := 22 } : Room) s m ([.ref u0, .ref u1, .ref u2] : List Value).toArray below meth c H locs 0 0 (MQ below (hQ D z h' (some (.ref r))) ([.ref u0, .ref u1, .ref u2] : List Value).toArray s 0 0 (hA z)) (F0 m 174 ls [.int t0_174, .ref t1_174]) := by
    intro g37 y4_174 t0_174 t1_174 H locs ls hs hr hS hl
    unfold zj_X11_times_174 at hs
    refine lv_iload hx hb dX11_times_174 (lv_at hl 0 rfl) ?_
    obtain ⟨_, ex38, hs⟩ := bi_inv hs
    obtain ⟨x39, ex39, hs⟩ := bi_inv hs
    refine hv_V1 (n := 2) [.int t0_174, .int y4_174] [] hx hb hml hown hts hk hr hz hS (zm_X10_of l D z ex39) ex38 rfl tw_969 tw_970 tw_971 tw_12 tw_972 (by decide +kernel) (by decide) ⟨(Nat.zero_le _), (Nat.zero_le _)⟩ rfl hl.1 (Nat.le_of_ble_eq_true rfl) dX11_times_176 rfl (fun H locs hr hS => ?_)
    obtain ⟨rfl, rfl⟩ := Prod.mk.inj (Option.some.inj hs)
    exact hv_aret hx hb hrt (by first | exact Or.inl ⟨_, rfl⟩ | exact Or.inr ⟨_, rfl⟩) hlk hr hS dX11_times_179
  unfold zs_X11_times at hs
  refine lv_aload_n hx hb dX11_times_0 rfl (lv_at hl 0 rfl) ?_
  obtain ⟨_, ex1, hs⟩ := bi_inv hs
  obtain ⟨x2, ex2, hs⟩ := bi_inv hs
  refine hv_V1 (n := 0) [] [] hx hb hml hown hts hk hr hz hS (zm_X11_take l D z ex2) ex1 rfl tw_964 tw_966 ts_23 tw_11 tw_967 (by decide +kernel) (by decide) ⟨(Nat.zero_le _), (Nat.zero_le _)⟩ rfl hl.1 (Nat.le_of_ble_eq_true rfl) dX11_times_1 rfl (fun H locs hr hS => ?_)
  refine lv_astore_n (lv' := [(3, .ref x2.1), (0, .ref u0), (1, .ref u1), (2, .ref u2)]) hx hb dX11_times_4 rfl hl (by decide) rfl (fun ls hl => ?_)
  refine lv_aload_n hx hb dX11_times_5 rfl (lv_at hl 2 rfl) ?_
  obtain ⟨x3, ex3, hs⟩ := bi_inv hs
  refine hv_gI (C := RX10) (T := TX10) (N := 3) (ci := 10) hx hb hts inX10 hown hk hr rfl 1 (by decide) (hts _ tw_865) ex3 dX11_times_6 ?_
  refine lv_aload_n hx hb dX11_times_9 rfl (lv_at hl 3 rfl) ?_
  obtain ⟨x4, ex4, hs⟩ := bi_inv hs
  refine hv_gI (C := RX10) (T := TX10) (N := 3) (ci := 10) hx hb hts inX10 hown hk hr rfl 1 (by decide) (hts _ tw_865) ex4 dX11_times_10 ?_
  refine lv_iadd hx hb dX11_times_13 ?_
  refine lv_topi (fun x5 ex5 => ?_)
  replace hs := lt_inv hs x5 ex5
  refine lv_istore (lv' := [(4, .int x5), (3, .ref x2.1), (0, .ref u0), (1, .ref u1), (2, .ref u2)]) hx hb dX11_times_14 hl (by decide) rfl (fun ls hl => ?_)
  refine lv_iconst (v := 0) hx hb dX11_times_16 (by decide) ?_
  refine lv_istore (lv' := [(5, .int ((0 : Int32))), (4, .int x5), (3, .ref x2.1), (0, .ref u0), (1, .ref u1), (2, .ref u2)]) hx hb dX11_times_17 hl (by decide) rfl (fun ls hl => ?_)
  obtain ⟨r10, er10, hs⟩ := bi_inv hs
  refine iter_W (fun (q : AH × Int32) => ∀ (H : Heap) (locs : List Loc) (ls : Array Slot), hR D z q.1 H → va_S (hA z) s.heap H locs → lv_has ls 11 [(1, .ref u1), (2, .ref u2), (3, .ref x2.1), (4, .int x5), (5, .int q.2)] → W p l e ({ frames := 1, cells := 0, slots := 0, locals := 22 } : Room) s m ([.ref u0, .ref u1, .ref u2] : List Value).toArray below meth c H locs 0 0 (MQ below (hQ D z h' (some (.ref r))) ([.ref u0, .ref u1, .ref u2] : List Value).toArray s 0 0 (hA z)) (F0 m 19 ls [])) (fun (x : AH) => ∀ (H : Heap) (locs : List Loc) (ls : Array Slot), hR D z x H → va_S (hA z) s.heap H locs → lv_has ls 11 [(1, .ref u1), (2, .ref u2), (3, .ref x2.1), (4, .int x5)] → W p l e ({ frames := 1, cells := 0, slots := 0, locals := 22 } : Room) s m ([.ref u0, .ref u1, .ref u2] : List Value).toArray below meth c H locs 0 0 (MQ below (hQ D z h' (some (.ref r))) ([.ref u0, .ref u1, .ref u2] : List Value).toArray s 0 0 (hA z)) (F0 m 40 ls [])) ?_ FU _ r10 er10 ?_ H locs ls hr hS (lv_sub hl [4, 5, 2, 1, 0] rfl)
  · intro q o hs hcont hexit
    obtain ⟨g6, w5⟩ := q
    replace hs : zb_X11_times_19 u1 u2 x2.1 x5 g6 w5 = some o := hs
    intro H locs ls hr hS hl
    unfold zb_X11_times_19 at hs
    refine lv_iload hx hb dX11_times_19 (lv_at hl 4 rfl) ?_
    refine lv_iload hx hb dX11_times_21 (lv_at hl 3 rfl) ?_
    refine lv_icmp_ge (tgt := 40) hx hb dX11_times_23 (by decide) (fun c7 => ?_) (fun c7 => ?_)
    · rw [if_pos c7] at hs
      obtain rfl := Option.some.inj hs
      exact hexit _ rfl H locs ls hr hS (lv_sub hl [0, 1, 2, 3] rfl)
    · rw [if_neg c7] at hs
      refine lv_aload_n hx hb dX11_times_26 rfl (lv_at hl 2 rfl) ?_
      obtain ⟨x8, ex8, hs⟩ := bi_inv hs
      refine hv_gR (C := RX10) (T := TX10) (N := 3) (ci := 10) hx hb hts inX10 hown hk hr rfl 2 (by decide) (hts _ tw_867) ex8 dX11_times_27 ?_
      refine lv_iload hx hb dX11_times_30 (lv_at hl 4 rfl) ?_
      refine lv_iconst (v := 0) hx hb dX11_times_32 (by decide) ?_
      obtain ⟨g9, eg9, hs⟩ := bi_inv hs
      refine hv_sI hx hb hk hr hS eg9 dX11_times_33 (fun H locs hr hS => ?_)
      refine lv_iinc (v := w5 + (1 : Int32)) (lv' := [(5, .int (w5 + (1 : Int32))), (1, .ref u1), (2, .ref u2), (3, .ref x2.1), (4, .int x5)]) hx hb dX11_times_34 hl (k := 4) rfl (ii_v _ (by decide)) (by decide) rfl (fun ls hl => ?_)
      refine lv_goto (tgt := 19) hx hb dX11_times_37 (by decide) ?_
      obtain rfl := Option.some.inj hs
      exact hcont _ rfl H locs ls hr hS (lv_sub hl [1, 2, 3, 4, 0] rfl)
  · intro H locs ls hr hS hl
    refine lv_iconst (v := 0) hx hb dX11_times_40 (by decide) ?_
    refine lv_istore (lv' := [(5, .int ((0 : Int32))), (1, .ref u1), (2, .ref u2), (3, .ref x2.1), (4, .int x5)]) hx hb dX11_times_41 hl (by decide) rfl (fun ls hl => ?_)
    obtain ⟨r33, er33, hs⟩ := bi_inv hs
    refine iter_W (fun (q : AH × Int32) => ∀ (H : Heap) (locs : List Loc) (ls : Array Slot), hR D z q.1 H → va_S (hA z) s.heap H locs → lv_has ls 11 [(1, .ref u1), (2, .ref u2), (3, .ref x2.1), (4, .int x5), (5, .int q.2)] → W p l e ({ frames := 1, cells := 0, slots := 0, locals := 22 } : Room) s m ([.ref u0, .ref u1, .ref u2] : List Value).toArray below meth c H locs 0 0 (MQ below (hQ D z h' (some (.ref r))) ([.ref u0, .ref u1, .ref u2] : List Value).toArray s 0 0 (hA z)) (F0 m 43 ls [])) (fun (x : AH) => ∀ (H : Heap) (locs : List Loc) (ls : Array Slot), hR D z x H → va_S (hA z) s.heap H locs → lv_has ls 11 [(1, .ref u1), (2, .ref u2), (3, .ref x2.1), (4, .int x5)] → W p l e ({ frames := 1, cells := 0, slots := 0, locals := 22 } : Room) s m ([.ref u0, .ref u1, .ref u2] : List Value).toArray below meth c H locs 0 0 (MQ below (hQ D z h' (some (.ref r))) ([.ref u0, .ref u1, .ref u2] : List Value).toArray s 0 0 (hA z)) (F0 m 157 ls [])) ?_ FU _ r33 er33 ?_ H locs ls hr hS (lv_sub hl [1, 2, 3, 4, 0] rfl)
    · intro q o hs hcont hexit
      obtain ⟨g11, w5⟩ := q
      replace hs : zb_X11_times_43 u1 u2 x2.1 x5 g11 w5 = some o := hs
      intro H locs ls hr hS hl
      unfold zb_X11_times_43 at hs
      refine lv_iload hx hb dX11_times_43 (lv_at hl 4 rfl) ?_
      refine lv_aload_n hx hb dX11_times_45 rfl (lv_at hl 0 rfl) ?_
      obtain ⟨x12, ex12, hs⟩ := bi_inv hs
      refine hv_gI (C := RX10) (T := TX10) (N := 3) (ci := 10) hx hb hts inX10 hown hk hr rfl 1 (by decide) (hts _ tw_865) ex12 dX11_times_46 ?_
      refine lv_icmp_ge (tgt := 157) hx hb dX11_times_49 (by decide) (fun c13 => ?_) (fun c13 => ?_)
      · rw [if_pos c13] at hs
        obtain rfl := Option.some.inj hs
        exact hexit _ rfl H locs ls hr hS (lv_sub hl [0, 1, 2, 3] rfl)
      · rw [if_neg c13] at hs
        refine lv_lconst (v := 0) hx hb dX11_times_52 (by decide) ?_
        refine lv_lstore (lv' := [(6, .long ((0 : Int64))), (1, .ref u1), (2, .ref u2), (3, .ref x2.1), (4, .int x5), (5, .int w5)]) hx hb dX11_times_53 hl (by decide) rfl (fun ls hl => ?_)
        refine lv_iconst (v := 0) hx hb dX11_times_55 (by decide) ?_
        refine lv_istore (lv' := [(8, .int ((0 : Int32))), (6, .long ((0 : Int64))), (1, .ref u1), (2, .ref u2), (3, .ref x2.1), (4, .int x5), (5, .int w5)]) hx hb dX11_times_56 hl (by decide) rfl (fun ls hl => ?_)
        obtain ⟨r32, er32, hs⟩ := bi_inv hs
        refine iter_W (fun (q : AH × Int64 × Int32) => ∀ (H : Heap) (locs : List Loc) (ls : Array Slot), hR D z q.1 H → va_S (hA z) s.heap H locs → lv_has ls 11 [(1, .ref u1), (2, .ref u2), (3, .ref x2.1), (4, .int x5), (5, .int w5), (6, .long q.2.1), (8, .int q.2.2)] → W p l e ({ frames := 1, cells := 0, slots := 0, locals := 22 } : Room) s m ([.ref u0, .ref u1, .ref u2] : List Value).toArray below meth c H locs 0 0 (MQ below (hQ D z h' (some (.ref r))) ([.ref u0, .ref u1, .ref u2] : List Value).toArray s 0 0 (hA z)) (F0 m 58 ls [])) (fun (x : AH) => ∀ (H : Heap) (locs : List Loc) (ls : Array Slot), hR D z x H → va_S (hA z) s.heap H locs → lv_has ls 11 [(1, .ref u1), (2, .ref u2), (3, .ref x2.1), (4, .int x5), (5, .int w5)] → W p l e ({ frames := 1, cells := 0, slots := 0, locals := 22 } : Room) s m ([.ref u0, .ref u1, .ref u2] : List Value).toArray below meth c H locs 0 0 (MQ below (hQ D z h' (some (.ref r))) ([.ref u0, .ref u1, .ref u2] : List Value).toArray s 0 0 (hA z)) (F0 m 151 ls [])) ?_ FU _ r32 er32 ?_ H locs ls hr hS (lv_sub hl [2, 3, 4, 5, 6, 1, 0] rfl)
        · intro q o hs hcont hexit
          obtain ⟨g14, w6, w8⟩ := q
          replace hs : zb_X11_times_58 u1 u2 x2.1 x5 w5 g14 w6 w8 = some o := hs
          intro H locs ls hr hS hl
          have hJ118 : ∀ (g22 : AH) (y8_118 : Int32) (t0_118 : Int64) (t1_118 : Int64) (H : Heap) (locs : List Loc) (ls : Array Slot), zj_X11_times_118 u1 u2 x2.1 x5 w5 g22 y8_118 t0_118 t1_118 = some o → hR D z g22 H → va_S (hA z) s.heap H locs → lv_has ls 11 [(1, .ref u1), (2, .ref u2), (3, .ref x2.1), (4, .int x5), (5, .int w5), (8, .int y8_118)] → W p l e ({ frames := 1, cells := 0, slots := 0, locals := 22 } : Room) s m ([.ref u0, .ref u1, .ref u2] : List Value).toArray below meth c H locs 0 0 (MQ below (hQ D z h' (some (.ref r))) ([.ref u0, .ref u1, .ref u2] : List Value).toArray s 0 0 (hA z)) (F0 m 118 ls [.long t0_118, .long t1_118]) := by
            intro g22 y8_118 t0_118 t1_118 H locs ls hs hr hS hl
            unfold zj_X11_times_118 at hs
            refine lv_ladd hx hb dX11_times_118 ?_
            refine lv_topl (fun x23 ex23 => ?_)
            replace hs := lt_inv hs x23 ex23
            refine lv_lstore (lv' := [(9, .long x23), (1, .ref u1), (2, .ref u2), (3, .ref x2.1), (4, .int x5), (5, .int w5), (8, .int y8_118)]) hx hb dX11_times_119 hl (by decide) rfl (fun ls hl => ?_)
            refine lv_aload_n hx hb dX11_times_121 rfl (lv_at hl 3 rfl) ?_
            obtain ⟨x24, ex24, hs⟩ := bi_inv hs
            refine hv_gR (C := RX10) (T := TX10) (N := 3) (ci := 10) hx hb hts inX10 hown hk hr rfl 2 (by decide) (hts _ tw_867) ex24 dX11_times_122 ?_
            refine lv_iload hx hb dX11_times_125 (lv_at hl 5 rfl) ?_
            refine lv_iload hx hb dX11_times_127 (lv_at hl 6 rfl) ?_
            refine lv_iadd hx hb dX11_times_129 ?_
            refine lv_lload hx hb dX11_times_130 (lv_at hl 0 rfl) ?_
            refine lv_ldc2 hx hb hown (hts _ tw_968) dX11_times_132 ?_
            refine lv_land hx hb dX11_times_135 ?_
            refine lv_l2i hx hb dX11_times_136 rfl ?_
            obtain ⟨g25, eg25, hs⟩ := bi_inv hs
            refine hv_sI hx hb hk hr hS eg25 dX11_times_137 (fun H locs hr hS => ?_)
            refine lv_lload hx hb dX11_times_138 (lv_at hl 0 rfl) ?_
            refine lv_bipush (v := 16) hx hb dX11_times_140 (by decide) ?_
            refine lv_lshr hx hb dX11_times_142 rfl ?_
            refine lv_topl (fun x26 ex26 => ?_)
            replace hs := lt_inv hs x26 ex26
            refine lv_lstore (lv' := [(6, .long x26), (9, .long x23), (1, .ref u1), (2, .ref u2), (3, .ref x2.1), (4, .int x5), (5, .int w5), (8, .int y8_118)]) hx hb dX11_times_143 hl (by decide) rfl (fun ls hl => ?_)
            refine lv_iinc (v := y8_118 + (1 : Int32)) (lv' := [(8, .int (y8_118 + (1 : Int32))), (6, .long x26), (9, .long x23), (1, .ref u1), (2, .ref u2), (3, .ref x2.1), (4, .int x5), (5, .int w5)]) hx hb dX11_times_145 hl (k := 7) rfl (ii_v _ (by decide)) (by decide) rfl (fun ls hl => ?_)
            refine lv_goto (tgt := 58) hx hb dX11_times_148 (by decide) ?_
            obtain rfl := Option.some.inj hs
            exact hcont _ rfl H locs ls hr hS (lv_sub hl [3, 4, 5, 6, 7, 1, 0] rfl)
          have hJ74 : ∀ (g17 : AH) (y6_74 : Int64) (y8_74 : Int32) (H : Heap) (locs : List Loc) (ls : Array Slot), zj_X11_times_74 u1 u2 x2.1 x5 w5 g17 y6_74 y8_74 = some o → hR D z g17 H → va_S (hA z) s.heap H locs → lv_has ls 11 [(1, .ref u1), (2, .ref u2), (3, .ref x2.1), (4, .int x5), (5, .int w5), (6, .long y6_74), (8, .int y8_74)] → W p l e ({ frames := 1, cells := 0, slots := 0, locals := 22 } : Room) s m ([.ref u0, .ref u1, .ref u2] : List Value).toArray below meth c H locs 0 0 (MQ below (hQ D z h' (some (.ref r))) ([.ref u0, .ref u1, .ref u2] : List Value).toArray s 0 0 (hA z)) (F0 m 74 ls []) := by
            intro g17 y6_74 y8_74 H locs ls hs hr hS hl
            unfold zj_X11_times_74 at hs
            refine lv_aload_n hx hb dX11_times_74 rfl (lv_at hl 2 rfl) ?_
            obtain ⟨x18, ex18, hs⟩ := bi_inv hs
            refine hv_gR (C := RX10) (T := TX10) (N := 3) (ci := 10) hx hb hts inX10 hown hk hr rfl 2 (by decide) (hts _ tw_867) ex18 dX11_times_75 ?_
            refine lv_iload hx hb dX11_times_78 (lv_at hl 4 rfl) ?_
            refine lv_iload hx hb dX11_times_80 (lv_at hl 6 rfl) ?_
            refine lv_iadd hx hb dX11_times_82 ?_
            obtain ⟨x19, ex19, hs⟩ := bi_inv hs
            refine hv_aI hx hb hk hr ex19 dX11_times_83 ?_
            refine lv_i2l hx hb dX11_times_84 rfl ?_
            refine lv_lload hx hb dX11_times_85 (lv_at hl 5 rfl) ?_
            refine lv_ladd hx hb dX11_times_87 ?_
            refine lv_iload hx hb dX11_times_88 (lv_at hl 6 rfl) ?_
            refine lv_aload_n hx hb dX11_times_90 rfl (lv_at hl 1 rfl) ?_
            obtain ⟨x20, ex20, hs⟩ := bi_inv hs
            refine hv_gI (C := RX10) (T := TX10) (N := 3) (ci := 10) hx hb hts inX10 hown hk hr rfl 1 (by decide) (hts _ tw_865) ex20 dX11_times_91 ?_
            refine lv_icmp_ge (tgt := 117) hx hb dX11_times_94 (by decide) (fun c21 => ?_) (fun c21 => ?_)
            · rw [if_pos c21] at hs
              refine lv_lconst (v := 0) hx hb dX11_times_117 (by decide) ?_
              exact hJ118 g17 y8_74 ((0 : Int64)) (x19.toInt64 + y6_74) H locs ls hs hr hS (lv_sub hl [0, 1, 2, 3, 4, 6] rfl)
            · rw [if_neg c21] at hs
              refine lv_aload_n hx hb dX11_times_97 rfl (lv_at hl 0 rfl) ?_
              obtain ⟨x27, ex27, hs⟩ := bi_inv hs
              refine hv_gR (C := RX10) (T := TX10) (N := 3) (ci := 10) hx hb hts inX10 hown hk hr rfl 2 (by decide) (hts _ tw_867) ex27 dX11_times_98 ?_
              refine lv_iload hx hb dX11_times_101 (lv_at hl 4 rfl) ?_
              obtain ⟨x28, ex28, hs⟩ := bi_inv hs
              refine hv_aI hx hb hk hr ex28 dX11_times_103 ?_
              refine lv_i2l hx hb dX11_times_104 rfl ?_
              refine lv_aload_n hx hb dX11_times_105 rfl (lv_at hl 1 rfl) ?_
              obtain ⟨x29, ex29, hs⟩ := bi_inv hs
              refine hv_gR (C := RX10) (T := TX10) (N := 3) (ci := 10) hx hb hts inX10 hown hk hr rfl 2 (by decide) (hts _ tw_867) ex29 dX11_times_106 ?_
              refine lv_iload hx hb dX11_times_109 (lv_at hl 6 rfl) ?_
              obtain ⟨x30, ex30, hs⟩ := bi_inv hs
              refine hv_aI hx hb hk hr ex30 dX11_times_111 ?_
              refine lv_i2l hx hb dX11_times_112 rfl ?_
              refine lv_lmul hx hb dX11_times_113 ?_
              refine lv_goto (tgt := 118) hx hb dX11_times_114 (by decide) ?_
              exact hJ118 g17 y8_74 (x28.toInt64 * x30.toInt64) (x19.toInt64 + y6_74) H locs ls hs hr hS (lv_sub hl [0, 1, 2, 3, 4, 6] rfl)
          unfold zb_X11_times_58 at hs
          refine lv_iload hx hb dX11_times_58 (lv_at hl 6 rfl) ?_
          refine lv_aload_n hx hb dX11_times_60 rfl (lv_at hl 1 rfl) ?_
          obtain ⟨x15, ex15, hs⟩ := bi_inv hs
          refine hv_gI (C := RX10) (T := TX10) (N := 3) (ci := 10) hx hb hts inX10 hown hk hr rfl 1 (by decide) (hts _ tw_865) ex15 dX11_times_61 ?_
          refine lv_icmp_lt (tgt := 74) hx hb dX11_times_64 (by decide) (fun c16 => ?_) (fun c16 => ?_)
          · rw [if_pos c16] at hs
            exact hJ74 g14 w6 w8 H locs ls hs hr hS (lv_sub hl [0, 1, 2, 3, 4, 5, 6] rfl)
          · rw [if_neg c16] at hs
            refine lv_lload hx hb dX11_times_67 (lv_at hl 5 rfl) ?_
            refine lv_lconst (v := 0) hx hb dX11_times_69 (by decide) ?_
            refine hv_lc_le (tgt := 151) hx hb dX11_times_70 dX11_times_71 (by decide) (fun c31 => ?_) (fun c31 => ?_)
            · rw [if_pos c31] at hs
              obtain rfl := Option.some.inj hs
              exact hexit _ rfl H locs ls hr hS (lv_sub hl [0, 1, 2, 3, 4] rfl)
            · rw [if_neg c31] at hs
              exact hJ74 g14 w6 w8 H locs ls hs hr hS (lv_sub hl [0, 1, 2, 3, 4, 5, 6] rfl)
        · intro H locs ls hr hS hl
          refine lv_iinc (v := w5 + (1 : Int32)) (lv' := [(5, .int (w5 + (1 : Int32))), (1, .ref u1), (2, .ref u2), (3, .ref x2.1), (4, .int x5)]) hx hb dX11_times_151 hl (k := 4) rfl (ii_v _ (by decide)) (by decide) rfl (fun ls hl => ?_)
          refine lv_goto (tgt := 43) hx hb dX11_times_154 (by decide) ?_
          obtain rfl := Option.some.inj hs
          exact hcont _ rfl H locs ls hr hS (lv_sub hl [1, 2, 3, 4, 0] rfl)
    · intro H locs ls hr hS hl
      refine lv_aload_n hx hb dX11_times_157 rfl (lv_at hl 2 rfl) ?_
      refine lv_aload_n hx hb dX11_times_158 rfl (lv_at hl 0 rfl) ?_
      obtain ⟨x34, ex34, hs⟩ := bi_inv hs
      refine hv_gI (C := RX10) (T := TX10) (N := 3) (ci := 10) hx hb hts inX10 hown hk hr rfl 0 (by decide) (hts _ tw_863) ex34 dX11_times_159 ?_
      refine lv_aload_n hx hb dX11_times_162 rfl (lv_at hl 1 rfl) ?_
      obtain ⟨x35, ex35, hs⟩ := bi_inv hs
      refine hv_gI (C := RX10) (T := TX10) (N := 3) (ci := 10) hx hb hts inX10 hown hk hr rfl 0 (by decide) (hts _ tw_863) ex35 dX11_times_163 ?_
      refine lv_icmp_eq (tgt := 173) hx hb dX11_times_166 (by decide) (fun c36 => ?_) (fun c36 => ?_)
      · rw [if_pos c36] at hs
        refine lv_iconst (v := 0) hx hb dX11_times_173 (by decide) ?_
        exact hJ174 r33 x5 ((0 : Int32)) x2.1 H locs ls hs hr hS (lv_sub hl [3] rfl)
      · rw [if_neg c36] at hs
        refine lv_iconst (v := 1) hx hb dX11_times_169 (by decide) ?_
        refine lv_goto (tgt := 174) hx hb dX11_times_170 (by decide) ?_
        exact hJ174 r33 x5 ((1 : Int32)) x2.1 H locs ls hs hr hS (lv_sub hl [3] rfl)
theorem dX11_acted_0 : decode cX11_acted 0 = .ok (.iload_n 1, 1) := by decide +kernel
theorem dX11_acted_1 : decode cX11_acted 1 = .ok (.ifCond .ne 12, 3) := by decide +kernel
theorem dX11_acted_4 : decode cX11_acted 4 = .ok (.aload_n 0, 1) := by decide +kernel
theorem dX11_acted_5 : decode cX11_acted 5 = .ok (.aload_n 2, 1) := by decide +kernel
theorem dX11_acted_6 : decode cX11_acted 6 = .ok (.aload_n 3, 1) := by decide +kernel
theorem dX11_acted_7 : decode cX11_acted 7 = .ok (.invokevirtual 116, 3) := by decide +kernel
theorem dX11_acted_10 : decode cX11_acted 10 = .ok (.goto 23, 3) := by decide +kernel
theorem dX11_acted_13 : decode cX11_acted 13 = .ok (.iload_n 1, 1) := by decide +kernel
theorem dX11_acted_14 : decode cX11_acted 14 = .ok (.iconst 1, 1) := by decide +kernel
theorem dX11_acted_15 : decode cX11_acted 15 = .ok (.if_icmp .ne 12, 3) := by decide +kernel
theorem dX11_acted_18 : decode cX11_acted 18 = .ok (.aload_n 0, 1) := by decide +kernel
theorem dX11_acted_19 : decode cX11_acted 19 = .ok (.aload_n 2, 1) := by decide +kernel
theorem dX11_acted_20 : decode cX11_acted 20 = .ok (.aload_n 3, 1) := by decide +kernel
theorem dX11_acted_21 : decode cX11_acted 21 = .ok (.invokevirtual 119, 3) := by decide +kernel
theorem dX11_acted_24 : decode cX11_acted 24 = .ok (.goto 9, 3) := by decide +kernel
theorem dX11_acted_27 : decode cX11_acted 27 = .ok (.aload_n 0, 1) := by decide +kernel
theorem dX11_acted_28 : decode cX11_acted 28 = .ok (.aload_n 2, 1) := by decide +kernel
theorem dX11_acted_29 : decode cX11_acted 29 = .ok (.aload_n 3, 1) := by decide +kernel
theorem dX11_acted_30 : decode cX11_acted 30 = .ok (.invokevirtual 122, 3) := by decide +kernel
theorem dX11_acted_33 : decode cX11_acted 33 = .ok (.areturn, 1) := by decide +kernel
def zs_X11_acted (h : AH) (u0 : Nat) (u1 : Int32) (u2 : Nat) (u3 : Nat) : Option (Nat × AH) :=
  (if u1 = 0 then (chk h u0 11).bind fun _ => (zs_X11_sum_ h u0 u2 u3).bind fun x8 => some (x8.1, x8.2) else (if u1 = (1 : Int32) then (chk h u0 11).bind fun _ => (zs_X11_less h u0 u2 u3).bind fun x6 => some (x6.1, x6.2) else (chk h u0 11).bind fun _ => (zs_X11_times h u0 u2 u3).bind fun x4 => some (x4.1, x4.2)))
set_option maxRecDepth 100000 in
set_option maxHeartbeats 4000000 in
theorem zm_X11_acted (l : Launch) (D : hG) (z : Nat) {h : AH} {u0 : Nat} {u1 : Int32} {u2 : Nat} {u3 : Nat} {r : Nat} {h' : AH} (hs : zs_X11_acted h u0 u1 u2 u3 = some (r, h')) : hC l D z yX11_acted cX11_acted 4 (Option.some (Jvm.ClassFile.FieldType.object "WideWholesModel$Whole")) 5 135 0 0 [.ref u0, .int u1, .ref u2, .ref u3] h h' (some (.ref r)) := by
  refine hC_of (by decide) (Nat.le_of_ble_eq_true rfl) ?_
  intro p e s m below meth c hx hb hml hrt hlk hown hnm hts hk hr hz ls hl
  replace hown : s.vm.findClass RX11 = some m.cls := hown
  replace hl : lv_has ls 4 [(0, .ref u0), (1, .int u1), (2, .ref u2), (3, .ref u3)] := hl
  have hS : va_S (hA z) s.heap s.heap [] := va_S.rf
  suffices hgo : ∀ (H : Heap) (locs : List Loc), hR D z h H → va_S (hA z) s.heap H locs → W p l e ({ frames := 5, cells := 0, slots := 0, locals := 135 } : Room) s m ([.ref u0, .int u1, .ref u2, .ref u3] : List Value).toArray below meth c H locs 0 0 (MQ below (hQ D z h' (some (.ref r))) ([.ref u0, .int u1, .ref u2, .ref u3] : List Value).toArray s 0 0 (hA z)) (F0 m 0 ls []) from hgo _ _ hr hS
  clear hr hS
  intro H locs hr hS
  unfold zs_X11_acted at hs
  refine lv_iload_n hx hb dX11_acted_0 rfl (lv_at hl 1 rfl) ?_
  refine lv_if_ne (tgt := 13) hx hb dX11_acted_1 (by decide) (fun c1 => ?_) (fun c1 => ?_)
  · rw [if_neg c1] at hs
    refine lv_iload_n hx hb dX11_acted_13 rfl (lv_at hl 1 rfl) ?_
    refine lv_iconst (v := 1) hx hb dX11_acted_14 (by decide) ?_
    refine lv_icmp_ne (tgt := 27) hx hb dX11_acted_15 (by decide) (fun c2 => ?_) (fun c2 => ?_)
    · rw [if_neg c2] at hs
      refine lv_aload_n hx hb dX11_acted_27 rfl (lv_at hl 0 rfl) ?_
      refine lv_aload_n hx hb dX11_acted_28 rfl (lv_at hl 2 rfl) ?_
      refine lv_aload_n hx hb dX11_acted_29 rfl (lv_at hl 3 rfl) ?_
      obtain ⟨_, ex3, hs⟩ := bi_inv hs
      obtain ⟨x4, ex4, hs⟩ := bi_inv hs
      refine hv_V1 (n := 2) [.ref u2, .ref u3] [] hx hb hml hown hts hk hr hz hS (zm_X11_times l D z ex4) ex3 rfl tw_1003 tw_1005 ts_26 tw_11 tw_1006 (by decide +kernel) (by decide) ⟨(Nat.zero_le _), (Nat.zero_le _)⟩ rfl hl.1 (Nat.le_of_ble_eq_true rfl) dX11_acted_30 rfl (fun H locs hr hS => ?_)
      obtain ⟨rfl, rfl⟩ := Prod.mk.inj (Option.some.inj hs)
      exact hv_aret hx hb hrt (by first | exact Or.inl ⟨_, rfl⟩ | exact Or.inr ⟨_, rfl⟩) hlk hr hS dX11_acted_33
    · rw [if_pos c2] at hs
      refine lv_aload_n hx hb dX11_acted_18 rfl (lv_at hl 0 rfl) ?_
      refine lv_aload_n hx hb dX11_acted_19 rfl (lv_at hl 2 rfl) ?_
      refine lv_aload_n hx hb dX11_acted_20 rfl (lv_at hl 3 rfl) ?_
      obtain ⟨_, ex5, hs⟩ := bi_inv hs
      obtain ⟨x6, ex6, hs⟩ := bi_inv hs
      refine hv_V1 (n := 2) [.ref u2, .ref u3] [] hx hb hml hown hts hk hr hz hS (zm_X11_less l D z ex6) ex5 rfl tw_1099 tw_1101 ts_37 tw_11 tw_1102 (by decide +kernel) (by decide) ⟨(Nat.zero_le _), (Nat.zero_le _)⟩ rfl hl.1 (Nat.le_of_ble_eq_true rfl) dX11_acted_21 rfl (fun H locs hr hS => ?_)
      refine lv_goto (tgt := 33) hx hb dX11_acted_24 (by decide) ?_
      obtain ⟨rfl, rfl⟩ := Prod.mk.inj (Option.some.inj hs)
      exact hv_aret hx hb hrt (by first | exact Or.inl ⟨_, rfl⟩ | exact Or.inr ⟨_, rfl⟩) hlk hr hS dX11_acted_33
  · rw [if_pos c1] at hs
    refine lv_aload_n hx hb dX11_acted_4 rfl (lv_at hl 0 rfl) ?_
    refine lv_aload_n hx hb dX11_acted_5 rfl (lv_at hl 2 rfl) ?_
    refine lv_aload_n hx hb dX11_acted_6 rfl (lv_at hl 3 rfl) ?_
    obtain ⟨_, ex7, hs⟩ := bi_inv hs
    obtain ⟨x8, ex8, hs⟩ := bi_inv hs
    refine hv_V1 (n := 2) [.ref u2, .ref u3] [] hx hb hml hown hts hk hr hz hS (zm_X11_sum_ l D z ex8) ex7 rfl tw_1007 tw_1009 ts_27 tw_11 tw_1010 (by decide +kernel) (by decide) ⟨(Nat.zero_le _), (Nat.zero_le _)⟩ rfl hl.1 (Nat.le_of_ble_eq_true rfl) dX11_acted_7 rfl (fun H locs hr hS => ?_)
    refine lv_goto (tgt := 33) hx hb dX11_acted_10 (by decide) ?_
    obtain ⟨rfl, rfl⟩ := Prod.mk.inj (Option.some.inj hs)
    exact hv_aret hx hb hrt (by first | exact Or.inl ⟨_, rfl⟩ | exact Or.inr ⟨_, rfl⟩) hlk hr hS dX11_acted_33
theorem dX11_isSlot_0 : decode cX11_isSlot 0 = .ok (.aload_n 0, 1) := by decide +kernel
theorem dX11_isSlot_1 : decode cX11_isSlot 1 = .ok (.iconst 0, 1) := by decide +kernel
theorem dX11_isSlot_2 : decode cX11_isSlot 2 = .ok (.putfield 1, 3) := by decide +kernel
theorem dX11_isSlot_5 : decode cX11_isSlot 5 = .ok (.aload_n 0, 1) := by decide +kernel
theorem dX11_isSlot_6 : decode cX11_isSlot 6 = .ok (.iconst 0, 1) := by decide +kernel
theorem dX11_isSlot_7 : decode cX11_isSlot 7 = .ok (.putfield 7, 3) := by decide +kernel
theorem dX11_isSlot_10 : decode cX11_isSlot 10 = .ok (.iload_n 1, 1) := by decide +kernel
theorem dX11_isSlot_11 : decode cX11_isSlot 11 = .ok (.ifCond .lt 13, 3) := by decide +kernel
theorem dX11_isSlot_14 : decode cX11_isSlot 14 = .ok (.iload_n 1, 1) := by decide +kernel
theorem dX11_isSlot_15 : decode cX11_isSlot 15 = .ok (.bipush 24, 2) := by decide +kernel
theorem dX11_isSlot_17 : decode cX11_isSlot 17 = .ok (.if_icmp .ge 7, 3) := by decide +kernel
theorem dX11_isSlot_20 : decode cX11_isSlot 20 = .ok (.iconst 1, 1) := by decide +kernel
theorem dX11_isSlot_21 : decode cX11_isSlot 21 = .ok (.goto 4, 3) := by decide +kernel
theorem dX11_isSlot_24 : decode cX11_isSlot 24 = .ok (.iconst 0, 1) := by decide +kernel
theorem dX11_isSlot_25 : decode cX11_isSlot 25 = .ok (.ireturn, 1) := by decide +kernel
def zs_X11_isSlot (h : AH) (u0 : Nat) (u1 : Int32) : Option (Int32 × AH) :=
  (pV h u0 11 0 (.int ((0 : Int32)))).bind fun g1 => (pV g1 u0 11 2 (.int ((0 : Int32)))).bind fun g2 => (if u1 < 0 then some ((0 : Int32), g2) else (if (24 : Int32) ≤ u1 then some ((0 : Int32), g2) else some ((1 : Int32), g2)))
set_option maxRecDepth 100000 in
set_option maxHeartbeats 4000000 in
theorem zm_X11_isSlot (l : Launch) (D : hG) (z : Nat) {h : AH} {u0 : Nat} {u1 : Int32} {r : Int32} {h' : AH} (hs : zs_X11_isSlot h u0 u1 = some (r, h')) : hC l D z yX11_isSlot cX11_isSlot 2 (Option.some Jvm.ClassFile.FieldType.boolean) 0 0 0 0 [.ref u0, .int u1] h h' (some (.int r)) := by
  refine hC_of (by decide) (Nat.le_of_ble_eq_true rfl) ?_
  intro p e s m below meth c hx hb hml hrt hlk hown hnm hts hk hr hz ls hl
  replace hown : s.vm.findClass RX11 = some m.cls := hown
  replace hl : lv_has ls 2 [(0, .ref u0), (1, .int u1)] := hl
  have hS : va_S (hA z) s.heap s.heap [] := va_S.rf
  suffices hgo : ∀ (H : Heap) (locs : List Loc), hR D z h H → va_S (hA z) s.heap H locs → W p l e ({ frames := 0, cells := 0, slots := 0, locals := 0 } : Room) s m ([.ref u0, .int u1] : List Value).toArray below meth c H locs 0 0 (MQ below (hQ D z h' (some (.int r))) ([.ref u0, .int u1] : List Value).toArray s 0 0 (hA z)) (F0 m 0 ls []) from hgo _ _ hr hS
  clear hr hS
  intro H locs hr hS
  unfold zs_X11_isSlot at hs
  refine lv_aload_n hx hb dX11_isSlot_0 rfl (lv_at hl 0 rfl) ?_
  refine lv_iconst (v := 0) hx hb dX11_isSlot_1 (by decide) ?_
  obtain ⟨g1, eg1, hs⟩ := bi_inv hs
  refine hv_pV (C := RX11) (T := TX11) (N := 23) (ci := 11) hx hb hts inX11 tyX11 tyX11_ok nmX11 hown hk hr hS rfl 0 (by decide) (hts _ tw_882) rfl rfl rfl eg1 dX11_isSlot_2 (fun H locs hr hS => ?_)
  refine lv_aload_n hx hb dX11_isSlot_5 rfl (lv_at hl 0 rfl) ?_
  refine lv_iconst (v := 0) hx hb dX11_isSlot_6 (by decide) ?_
  obtain ⟨g2, eg2, hs⟩ := bi_inv hs
  refine hv_pV (C := RX11) (T := TX11) (N := 23) (ci := 11) hx hb hts inX11 tyX11 tyX11_ok nmX11 hown hk hr hS rfl 2 (by decide) (hts _ tw_884) rfl rfl rfl eg2 dX11_isSlot_7 (fun H locs hr hS => ?_)
  refine lv_iload_n hx hb dX11_isSlot_10 rfl (lv_at hl 1 rfl) ?_
  refine lv_if_lt (tgt := 24) hx hb dX11_isSlot_11 (by decide) (fun c3 => ?_) (fun c3 => ?_)
  · rw [if_pos c3] at hs
    refine lv_iconst (v := 0) hx hb dX11_isSlot_24 (by decide) ?_
    obtain ⟨rfl, rfl⟩ := Prod.mk.inj (Option.some.inj hs)
    exact hv_zret hx hb hrt hlk hr hS (by decide) dX11_isSlot_25
  · rw [if_neg c3] at hs
    refine lv_iload_n hx hb dX11_isSlot_14 rfl (lv_at hl 1 rfl) ?_
    refine lv_bipush (v := 24) hx hb dX11_isSlot_15 (by decide) ?_
    refine lv_icmp_ge (tgt := 24) hx hb dX11_isSlot_17 (by decide) (fun c4 => ?_) (fun c4 => ?_)
    · rw [if_pos c4] at hs
      refine lv_iconst (v := 0) hx hb dX11_isSlot_24 (by decide) ?_
      obtain ⟨rfl, rfl⟩ := Prod.mk.inj (Option.some.inj hs)
      exact hv_zret hx hb hrt hlk hr hS (by decide) dX11_isSlot_25
    · rw [if_neg c4] at hs
      refine lv_iconst (v := 1) hx hb dX11_isSlot_20 (by decide) ?_
      refine lv_goto (tgt := 25) hx hb dX11_isSlot_21 (by decide) ?_
      obtain ⟨rfl, rfl⟩ := Prod.mk.inj (Option.some.inj hs)
      exact hv_zret hx hb hrt hlk hr hS (by decide) dX11_isSlot_25
theorem dX11_fits_0 : decode cX11_fits 0 = .ok (.aload_n 0, 1) := by decide +kernel
theorem dX11_fits_1 : decode cX11_fits 1 = .ok (.invokevirtual 131, 3) := by decide +kernel
theorem dX11_fits_4 : decode cX11_fits 4 = .ok (.sipush 384, 3) := by decide +kernel
theorem dX11_fits_7 : decode cX11_fits 7 = .ok (.if_icmp .gt 7, 3) := by decide +kernel
theorem dX11_fits_10 : decode cX11_fits 10 = .ok (.iconst 1, 1) := by decide +kernel
theorem dX11_fits_11 : decode cX11_fits 11 = .ok (.goto 4, 3) := by decide +kernel
theorem dX11_fits_14 : decode cX11_fits 14 = .ok (.iconst 0, 1) := by decide +kernel
theorem dX11_fits_15 : decode cX11_fits 15 = .ok (.ireturn, 1) := by decide +kernel
def zs_X11_fits (h : AH) (u0 : Nat) : Option Int32 :=
  (chk h u0 10).bind fun _ => (zs_X10_bits h u0).bind fun x2 => (if (384 : Int32) < x2 then some ((0 : Int32)) else some ((1 : Int32)))
set_option maxRecDepth 100000 in
set_option maxHeartbeats 4000000 in
theorem zm_X11_fits (l : Launch) (D : hG) (z : Nat) {h : AH} {u0 : Nat} {r : Int32} (hs : zs_X11_fits h u0 = some r) : hC l D z yX11_fits cX11_fits 1 (Option.some Jvm.ClassFile.FieldType.boolean) 2 41 0 0 [.ref u0] h h (some (.int r)) := by
  refine hC_of (by decide) (Nat.le_of_ble_eq_true rfl) ?_
  intro p e s m below meth c hx hb hml hrt hlk hown hnm hts hk hr hz ls hl
  replace hown : s.vm.findClass RX11 = some m.cls := hown
  replace hl : lv_has ls 1 [(0, .ref u0)] := hl
  have hS : va_S (hA z) s.heap s.heap [] := va_S.rf
  suffices hgo : ∀ (H : Heap) (locs : List Loc), hR D z h H → va_S (hA z) s.heap H locs → W p l e ({ frames := 2, cells := 0, slots := 0, locals := 41 } : Room) s m ([.ref u0] : List Value).toArray below meth c H locs 0 0 (MQ below (hQ D z h (some (.int r))) ([.ref u0] : List Value).toArray s 0 0 (hA z)) (F0 m 0 ls []) from hgo _ _ hr hS
  clear hr hS
  intro H locs hr hS
  unfold zs_X11_fits at hs
  refine lv_aload_n hx hb dX11_fits_0 rfl (lv_at hl 0 rfl) ?_
  obtain ⟨_, ex1, hs⟩ := bi_inv hs
  obtain ⟨x2, ex2, hs⟩ := bi_inv hs
  refine hv_V1 (n := 0) [] [] hx hb hml hown hts hk hr hz hS (zm_X10_bits l D z ex2) ex1 rfl tw_980 tw_981 tw_982 tw_12 tw_983 (by decide +kernel) (by decide) ⟨(Nat.zero_le _), (Nat.zero_le _)⟩ rfl hl.1 (Nat.le_of_ble_eq_true rfl) dX11_fits_1 rfl (fun H locs hr hS => ?_)
  refine lv_sipush (v := 384) hx hb dX11_fits_4 (by decide) ?_
  refine lv_icmp_gt (tgt := 14) hx hb dX11_fits_7 (by decide) (fun c3 => ?_) (fun c3 => ?_)
  · rw [if_pos c3] at hs
    refine lv_iconst (v := 0) hx hb dX11_fits_14 (by decide) ?_
    obtain rfl := Option.some.inj hs
    exact hv_zret hx hb hrt hlk hr hS (by decide) dX11_fits_15
  · rw [if_neg c3] at hs
    refine lv_iconst (v := 1) hx hb dX11_fits_10 (by decide) ?_
    refine lv_goto (tgt := 15) hx hb dX11_fits_11 (by decide) ?_
    obtain rfl := Option.some.inj hs
    exact hv_zret hx hb hrt hlk hr hS (by decide) dX11_fits_15
theorem dX11_keep_0 : decode cX11_keep 0 = .ok (.aload_n 2, 1) := by decide +kernel
theorem dX11_keep_1 : decode cX11_keep 1 = .ok (.invokestatic 173, 3) := by decide +kernel
theorem dX11_keep_4 : decode cX11_keep 4 = .ok (.ifCond .ne 6, 3) := by decide +kernel
theorem dX11_keep_7 : decode cX11_keep 7 = .ok (.bipush (-5), 2) := by decide +kernel
theorem dX11_keep_9 : decode cX11_keep 9 = .ok (.ireturn, 1) := by decide +kernel
theorem dX11_keep_10 : decode cX11_keep 10 = .ok (.aload_n 0, 1) := by decide +kernel
theorem dX11_keep_11 : decode cX11_keep 11 = .ok (.getfield 142, 3) := by decide +kernel
theorem dX11_keep_14 : decode cX11_keep 14 = .ok (.iload_n 1, 1) := by decide +kernel
theorem dX11_keep_15 : decode cX11_keep 15 = .ok (.aaload, 1) := by decide +kernel
theorem dX11_keep_16 : decode cX11_keep 16 = .ok (.aload_n 2, 1) := by decide +kernel
theorem dX11_keep_17 : decode cX11_keep 17 = .ok (.invokevirtual 30, 3) := by decide +kernel
theorem dX11_keep_20 : decode cX11_keep 20 = .ok (.iconst 1, 1) := by decide +kernel
theorem dX11_keep_21 : decode cX11_keep 21 = .ok (.ireturn, 1) := by decide +kernel
def zs_X11_keep (h : AH) (u0 : Nat) (u1 : Int32) (u2 : Nat) : Option (Int32 × AH) :=
  (zs_X11_fits h u2).bind fun x1 => (if x1 = 0 then some ((-5 : Int32), h) else (gR h u0 11 9).bind fun x3 => (aR h x3 5 u1).bind fun x4 => (chk h x4 10).bind fun _ => (zs_X10_become h x4 u2).bind fun g6 => some ((1 : Int32), g6))
set_option maxRecDepth 100000 in
set_option maxHeartbeats 4000000 in
theorem zm_X11_keep (l : Launch) (D : hG) (z : Nat) {h : AH} {u0 : Nat} {u1 : Int32} {u2 : Nat} {r : Int32} {h' : AH} (hs : zs_X11_keep h u0 u1 u2 = some (r, h')) : hC l D z yX11_keep cX11_keep 3 (Option.some Jvm.ClassFile.FieldType.int) 3 69 0 0 [.ref u0, .int u1, .ref u2] h h' (some (.int r)) := by
  refine hC_of (by decide) (Nat.le_of_ble_eq_true rfl) ?_
  intro p e s m below meth c hx hb hml hrt hlk hown hnm hts hk hr hz ls hl
  replace hown : s.vm.findClass RX11 = some m.cls := hown
  replace hl : lv_has ls 3 [(0, .ref u0), (1, .int u1), (2, .ref u2)] := hl
  have hS : va_S (hA z) s.heap s.heap [] := va_S.rf
  suffices hgo : ∀ (H : Heap) (locs : List Loc), hR D z h H → va_S (hA z) s.heap H locs → W p l e ({ frames := 3, cells := 0, slots := 0, locals := 69 } : Room) s m ([.ref u0, .int u1, .ref u2] : List Value).toArray below meth c H locs 0 0 (MQ below (hQ D z h' (some (.int r))) ([.ref u0, .int u1, .ref u2] : List Value).toArray s 0 0 (hA z)) (F0 m 0 ls []) from hgo _ _ hr hS
  clear hr hS
  intro H locs hr hS
  unfold zs_X11_keep at hs
  refine lv_aload_n hx hb dX11_keep_0 rfl (lv_at hl 2 rfl) ?_
  obtain ⟨x1, ex1, hs⟩ := bi_inv hs
  refine hv_S1 (n := 1) [.ref u2] [] hx hb hml hown hts hk hr hz hS (zm_X11_fits l D z ex1) tw_977 tw_978 tw_11 tw_979 (by decide +kernel) (by decide) ⟨(Nat.zero_le _), (Nat.zero_le _)⟩ rfl hl.1 (Nat.le_of_ble_eq_true rfl) dX11_keep_1 rfl (fun H locs hr hS => ?_)
  refine lv_if_ne (tgt := 10) hx hb dX11_keep_4 (by decide) (fun c2 => ?_) (fun c2 => ?_)
  · rw [if_neg c2] at hs
    refine lv_aload_n hx hb dX11_keep_10 rfl (lv_at hl 0 rfl) ?_
    obtain ⟨x3, ex3, hs⟩ := bi_inv hs
    refine hv_gR (C := RX11) (T := TX11) (N := 23) (ci := 11) hx hb hts inX11 hown hk hr rfl 9 (by decide) (hts _ tw_891) ex3 dX11_keep_11 ?_
    refine lv_iload_n hx hb dX11_keep_14 rfl (lv_at hl 1 rfl) ?_
    obtain ⟨x4, ex4, hs⟩ := bi_inv hs
    refine hv_aR (kd := 5) hx hb hk hr rfl ex4 dX11_keep_15 ?_
    refine lv_aload_n hx hb dX11_keep_16 rfl (lv_at hl 2 rfl) ?_
    obtain ⟨_, ex5, hs⟩ := bi_inv hs
    obtain ⟨g6, eg6, hs⟩ := bi_inv hs
    refine hv_V0 (n := 1) [.ref u2] [] hx hb hml hown hts hk hr hz hS (zm_X10_become l D z eg6) ex5 rfl tw_875 tw_876 tw_877 tw_12 tw_878 (by decide +kernel) (by decide) ⟨(Nat.zero_le _), (Nat.zero_le _)⟩ rfl hl.1 (Nat.le_of_ble_eq_true rfl) dX11_keep_17 rfl (fun H locs hr hS => ?_)
    refine lv_iconst (v := 1) hx hb dX11_keep_20 (by decide) ?_
    obtain ⟨rfl, rfl⟩ := Prod.mk.inj (Option.some.inj hs)
    exact hv_iret hx hb hrt hlk hr hS dX11_keep_21
  · rw [if_pos c2] at hs
    refine lv_bipush (v := (-5)) hx hb dX11_keep_7 (by decide) ?_
    obtain ⟨rfl, rfl⟩ := Prod.mk.inj (Option.some.inj hs)
    exact hv_iret hx hb hrt hlk hr hS dX11_keep_9
theorem dX11_act_0 : decode cX11_act 0 = .ok (.aload_n 0, 1) := by decide +kernel
theorem dX11_act_1 : decode cX11_act 1 = .ok (.iload_n 2, 1) := by decide +kernel
theorem dX11_act_2 : decode cX11_act 2 = .ok (.invokevirtual 177, 3) := by decide +kernel
theorem dX11_act_5 : decode cX11_act 5 = .ok (.ifCond .eq 55, 3) := by decide +kernel
theorem dX11_act_8 : decode cX11_act 8 = .ok (.aload_n 0, 1) := by decide +kernel
theorem dX11_act_9 : decode cX11_act 9 = .ok (.iload_n 3, 1) := by decide +kernel
theorem dX11_act_10 : decode cX11_act 10 = .ok (.invokevirtual 177, 3) := by decide +kernel
theorem dX11_act_13 : decode cX11_act 13 = .ok (.ifCond .eq 47, 3) := by decide +kernel
theorem dX11_act_16 : decode cX11_act 16 = .ok (.aload_n 0, 1) := by decide +kernel
theorem dX11_act_17 : decode cX11_act 17 = .ok (.iload 4, 2) := by decide +kernel
theorem dX11_act_19 : decode cX11_act 19 = .ok (.invokevirtual 177, 3) := by decide +kernel
theorem dX11_act_22 : decode cX11_act 22 = .ok (.ifCond .eq 38, 3) := by decide +kernel
theorem dX11_act_25 : decode cX11_act 25 = .ok (.iload_n 1, 1) := by decide +kernel
theorem dX11_act_26 : decode cX11_act 26 = .ok (.ifCond .lt 34, 3) := by decide +kernel
theorem dX11_act_29 : decode cX11_act 29 = .ok (.iload_n 1, 1) := by decide +kernel
theorem dX11_act_30 : decode cX11_act 30 = .ok (.iconst 2, 1) := by decide +kernel
theorem dX11_act_31 : decode cX11_act 31 = .ok (.if_icmp .gt 29, 3) := by decide +kernel
theorem dX11_act_34 : decode cX11_act 34 = .ok (.aload_n 0, 1) := by decide +kernel
theorem dX11_act_35 : decode cX11_act 35 = .ok (.iload 4, 2) := by decide +kernel
theorem dX11_act_37 : decode cX11_act 37 = .ok (.aload_n 0, 1) := by decide +kernel
theorem dX11_act_38 : decode cX11_act 38 = .ok (.iload_n 1, 1) := by decide +kernel
theorem dX11_act_39 : decode cX11_act 39 = .ok (.aload_n 0, 1) := by decide +kernel
theorem dX11_act_40 : decode cX11_act 40 = .ok (.getfield 142, 3) := by decide +kernel
theorem dX11_act_43 : decode cX11_act 43 = .ok (.iload_n 2, 1) := by decide +kernel
theorem dX11_act_44 : decode cX11_act 44 = .ok (.aaload, 1) := by decide +kernel
theorem dX11_act_45 : decode cX11_act 45 = .ok (.aload_n 0, 1) := by decide +kernel
theorem dX11_act_46 : decode cX11_act 46 = .ok (.getfield 142, 3) := by decide +kernel
theorem dX11_act_49 : decode cX11_act 49 = .ok (.iload_n 3, 1) := by decide +kernel
theorem dX11_act_50 : decode cX11_act 50 = .ok (.aaload, 1) := by decide +kernel
theorem dX11_act_51 : decode cX11_act 51 = .ok (.invokevirtual 203, 3) := by decide +kernel
theorem dX11_act_54 : decode cX11_act 54 = .ok (.invokevirtual 180, 3) := by decide +kernel
theorem dX11_act_57 : decode cX11_act 57 = .ok (.goto 4, 3) := by decide +kernel
theorem dX11_act_60 : decode cX11_act 60 = .ok (.iconst (-1), 1) := by decide +kernel
theorem dX11_act_61 : decode cX11_act 61 = .ok (.ireturn, 1) := by decide +kernel
def zs_X11_act (h : AH) (u0 : Nat) (u1 : Int32) (u2 : Int32) (u3 : Int32) (u4 : Int32) : Option (Int32 × AH) :=
  (chk h u0 11).bind fun _ => (zs_X11_isSlot h u0 u2).bind fun x2 => (if x2.1 = 0 then some ((-1 : Int32), x2.2) else (chk x2.2 u0 11).bind fun _ => (zs_X11_isSlot x2.2 u0 u3).bind fun x5 => (if x5.1 = 0 then some ((-1 : Int32), x5.2) else (chk x5.2 u0 11).bind fun _ => (zs_X11_isSlot x5.2 u0 u4).bind fun x8 => (if x8.1 = 0 then some ((-1 : Int32), x8.2) else (if u1 < 0 then some ((-1 : Int32), x8.2) else (if (2 : Int32) < u1 then some ((-1 : Int32), x8.2) else (gR x8.2 u0 11 9).bind fun x12 => (aR x8.2 x12 5 u2).bind fun x13 => (gR x8.2 u0 11 9).bind fun x14 => (aR x8.2 x14 5 u3).bind fun x15 => (chk x8.2 u0 11).bind fun _ => (zs_X11_acted x8.2 u0 u1 x13 x15).bind fun x17 => (chk x17.2 u0 11).bind fun _ => (zs_X11_keep x17.2 u0 u4 x17.1).bind fun x19 => some (x19.1, x19.2))))))
set_option maxRecDepth 100000 in
set_option maxHeartbeats 4000000 in
theorem zm_X11_act (l : Launch) (D : hG) (z : Nat) {h : AH} {u0 : Nat} {u1 : Int32} {u2 : Int32} {u3 : Int32} {u4 : Int32} {r : Int32} {h' : AH} (hs : zs_X11_act h u0 u1 u2 u3 u4 = some (r, h')) : hC l D z yX11_act cX11_act 5 (Option.some Jvm.ClassFile.FieldType.int) 6 158 0 0 [.ref u0, .int u1, .int u2, .int u3, .int u4] h h' (some (.int r)) := by
  refine hC_of (by decide) (Nat.le_of_ble_eq_true rfl) ?_
  intro p e s m below meth c hx hb hml hrt hlk hown hnm hts hk hr hz ls hl
  replace hown : s.vm.findClass RX11 = some m.cls := hown
  replace hl : lv_has ls 5 [(0, .ref u0), (1, .int u1), (2, .int u2), (3, .int u3), (4, .int u4)] := hl
  have hS : va_S (hA z) s.heap s.heap [] := va_S.rf
  suffices hgo : ∀ (H : Heap) (locs : List Loc), hR D z h H → va_S (hA z) s.heap H locs → W p l e ({ frames := 6, cells := 0, slots := 0, locals := 158 } : Room) s m ([.ref u0, .int u1, .int u2, .int u3, .int u4] : List Value).toArray below meth c H locs 0 0 (MQ below (hQ D z h' (some (.int r))) ([.ref u0, .int u1, .int u2, .int u3, .int u4] : List Value).toArray s 0 0 (hA z)) (F0 m 0 ls []) from hgo _ _ hr hS
  clear hr hS
  intro H locs hr hS
  unfold zs_X11_act at hs
  refine lv_aload_n hx hb dX11_act_0 rfl (lv_at hl 0 rfl) ?_
  refine lv_iload_n hx hb dX11_act_1 rfl (lv_at hl 2 rfl) ?_
  obtain ⟨_, ex1, hs⟩ := bi_inv hs
  obtain ⟨x2, ex2, hs⟩ := bi_inv hs
  refine hv_V1 (n := 1) [.int u2] [] hx hb hml hown hts hk hr hz hS (zm_X11_isSlot l D z ex2) ex1 rfl tw_956 tw_958 ts_21 tw_11 tw_959 (by decide +kernel) (by decide) ⟨(Nat.zero_le _), (Nat.zero_le _)⟩ rfl hl.1 (Nat.le_of_ble_eq_true rfl) dX11_act_2 rfl (fun H locs hr hS => ?_)
  refine lv_if_eq (tgt := 60) hx hb dX11_act_5 (by decide) (fun c3 => ?_) (fun c3 => ?_)
  · rw [if_pos c3] at hs
    refine lv_iconst (v := (-1)) hx hb dX11_act_60 (by decide) ?_
    obtain ⟨rfl, rfl⟩ := Prod.mk.inj (Option.some.inj hs)
    exact hv_iret hx hb hrt hlk hr hS dX11_act_61
  · rw [if_neg c3] at hs
    refine lv_aload_n hx hb dX11_act_8 rfl (lv_at hl 0 rfl) ?_
    refine lv_iload_n hx hb dX11_act_9 rfl (lv_at hl 3 rfl) ?_
    obtain ⟨_, ex4, hs⟩ := bi_inv hs
    obtain ⟨x5, ex5, hs⟩ := bi_inv hs
    refine hv_V1 (n := 1) [.int u3] [] hx hb hml hown hts hk hr hz hS (zm_X11_isSlot l D z ex5) ex4 rfl tw_956 tw_958 ts_21 tw_11 tw_959 (by decide +kernel) (by decide) ⟨(Nat.zero_le _), (Nat.zero_le _)⟩ rfl hl.1 (Nat.le_of_ble_eq_true rfl) dX11_act_10 rfl (fun H locs hr hS => ?_)
    refine lv_if_eq (tgt := 60) hx hb dX11_act_13 (by decide) (fun c6 => ?_) (fun c6 => ?_)
    · rw [if_pos c6] at hs
      refine lv_iconst (v := (-1)) hx hb dX11_act_60 (by decide) ?_
      obtain ⟨rfl, rfl⟩ := Prod.mk.inj (Option.some.inj hs)
      exact hv_iret hx hb hrt hlk hr hS dX11_act_61
    · rw [if_neg c6] at hs
      refine lv_aload_n hx hb dX11_act_16 rfl (lv_at hl 0 rfl) ?_
      refine lv_iload hx hb dX11_act_17 (lv_at hl 4 rfl) ?_
      obtain ⟨_, ex7, hs⟩ := bi_inv hs
      obtain ⟨x8, ex8, hs⟩ := bi_inv hs
      refine hv_V1 (n := 1) [.int u4] [] hx hb hml hown hts hk hr hz hS (zm_X11_isSlot l D z ex8) ex7 rfl tw_956 tw_958 ts_21 tw_11 tw_959 (by decide +kernel) (by decide) ⟨(Nat.zero_le _), (Nat.zero_le _)⟩ rfl hl.1 (Nat.le_of_ble_eq_true rfl) dX11_act_19 rfl (fun H locs hr hS => ?_)
      refine lv_if_eq (tgt := 60) hx hb dX11_act_22 (by decide) (fun c9 => ?_) (fun c9 => ?_)
      · rw [if_pos c9] at hs
        refine lv_iconst (v := (-1)) hx hb dX11_act_60 (by decide) ?_
        obtain ⟨rfl, rfl⟩ := Prod.mk.inj (Option.some.inj hs)
        exact hv_iret hx hb hrt hlk hr hS dX11_act_61
      · rw [if_neg c9] at hs
        refine lv_iload_n hx hb dX11_act_25 rfl (lv_at hl 1 rfl) ?_
        refine lv_if_lt (tgt := 60) hx hb dX11_act_26 (by decide) (fun c10 => ?_) (fun c10 => ?_)
        · rw [if_pos c10] at hs
          refine lv_iconst (v := (-1)) hx hb dX11_act_60 (by decide) ?_
          obtain ⟨rfl, rfl⟩ := Prod.mk.inj (Option.some.inj hs)
          exact hv_iret hx hb hrt hlk hr hS dX11_act_61
        · rw [if_neg c10] at hs
          refine lv_iload_n hx hb dX11_act_29 rfl (lv_at hl 1 rfl) ?_
          refine lv_iconst (v := 2) hx hb dX11_act_30 (by decide) ?_
          refine lv_icmp_gt (tgt := 60) hx hb dX11_act_31 (by decide) (fun c11 => ?_) (fun c11 => ?_)
          · rw [if_pos c11] at hs
            refine lv_iconst (v := (-1)) hx hb dX11_act_60 (by decide) ?_
            obtain ⟨rfl, rfl⟩ := Prod.mk.inj (Option.some.inj hs)
            exact hv_iret hx hb hrt hlk hr hS dX11_act_61
          · rw [if_neg c11] at hs
            refine lv_aload_n hx hb dX11_act_34 rfl (lv_at hl 0 rfl) ?_
            refine lv_iload hx hb dX11_act_35 (lv_at hl 4 rfl) ?_
            refine lv_aload_n hx hb dX11_act_37 rfl (lv_at hl 0 rfl) ?_
            refine lv_iload_n hx hb dX11_act_38 rfl (lv_at hl 1 rfl) ?_
            refine lv_aload_n hx hb dX11_act_39 rfl (lv_at hl 0 rfl) ?_
            obtain ⟨x12, ex12, hs⟩ := bi_inv hs
            refine hv_gR (C := RX11) (T := TX11) (N := 23) (ci := 11) hx hb hts inX11 hown hk hr rfl 9 (by decide) (hts _ tw_891) ex12 dX11_act_40 ?_
            refine lv_iload_n hx hb dX11_act_43 rfl (lv_at hl 2 rfl) ?_
            obtain ⟨x13, ex13, hs⟩ := bi_inv hs
            refine hv_aR (kd := 5) hx hb hk hr rfl ex13 dX11_act_44 ?_
            refine lv_aload_n hx hb dX11_act_45 rfl (lv_at hl 0 rfl) ?_
            obtain ⟨x14, ex14, hs⟩ := bi_inv hs
            refine hv_gR (C := RX11) (T := TX11) (N := 23) (ci := 11) hx hb hts inX11 hown hk hr rfl 9 (by decide) (hts _ tw_891) ex14 dX11_act_46 ?_
            refine lv_iload_n hx hb dX11_act_49 rfl (lv_at hl 3 rfl) ?_
            obtain ⟨x15, ex15, hs⟩ := bi_inv hs
            refine hv_aR (kd := 5) hx hb hk hr rfl ex15 dX11_act_50 ?_
            obtain ⟨_, ex16, hs⟩ := bi_inv hs
            obtain ⟨x17, ex17, hs⟩ := bi_inv hs
            refine hv_V1 (n := 3) [.int u1, .ref x13, .ref x15] [.int u4, .ref u0] hx hb hml hown hts hk hr hz hS (zm_X11_acted l D z ex17) ex16 rfl tw_1095 tw_1097 ts_36 tw_11 tw_1098 (by decide +kernel) (by decide) ⟨(Nat.zero_le _), (Nat.zero_le _)⟩ rfl hl.1 (Nat.le_of_ble_eq_true rfl) dX11_act_51 rfl (fun H locs hr hS => ?_)
            obtain ⟨_, ex18, hs⟩ := bi_inv hs
            obtain ⟨x19, ex19, hs⟩ := bi_inv hs
            refine hv_V1 (n := 2) [.int u4, .ref x17.1] [] hx hb hml hown hts hk hr hz hS (zm_X11_keep l D z ex19) ex18 rfl tw_973 tw_975 ts_24 tw_11 tw_976 (by decide +kernel) (by decide) ⟨(Nat.zero_le _), (Nat.zero_le _)⟩ rfl hl.1 (Nat.le_of_ble_eq_true rfl) dX11_act_54 rfl (fun H locs hr hS => ?_)
            refine lv_goto (tgt := 61) hx hb dX11_act_57 (by decide) ?_
            obtain ⟨rfl, rfl⟩ := Prod.mk.inj (Option.some.inj hs)
            exact hv_iret hx hb hrt hlk hr hS dX11_act_61
theorem dX11_isRatio_0 : decode cX11_isRatio 0 = .ok (.aload_n 0, 1) := by decide +kernel
theorem dX11_isRatio_1 : decode cX11_isRatio 1 = .ok (.iconst 0, 1) := by decide +kernel
theorem dX11_isRatio_2 : decode cX11_isRatio 2 = .ok (.putfield 1, 3) := by decide +kernel
theorem dX11_isRatio_5 : decode cX11_isRatio 5 = .ok (.aload_n 0, 1) := by decide +kernel
theorem dX11_isRatio_6 : decode cX11_isRatio 6 = .ok (.iconst 0, 1) := by decide +kernel
theorem dX11_isRatio_7 : decode cX11_isRatio 7 = .ok (.putfield 7, 3) := by decide +kernel
theorem dX11_isRatio_10 : decode cX11_isRatio 10 = .ok (.iload_n 1, 1) := by decide +kernel
theorem dX11_isRatio_11 : decode cX11_isRatio 11 = .ok (.ifCond .lt 13, 3) := by decide +kernel
theorem dX11_isRatio_14 : decode cX11_isRatio 14 = .ok (.iload_n 1, 1) := by decide +kernel
theorem dX11_isRatio_15 : decode cX11_isRatio 15 = .ok (.bipush 12, 2) := by decide +kernel
theorem dX11_isRatio_17 : decode cX11_isRatio 17 = .ok (.if_icmp .ge 7, 3) := by decide +kernel
theorem dX11_isRatio_20 : decode cX11_isRatio 20 = .ok (.iconst 1, 1) := by decide +kernel
theorem dX11_isRatio_21 : decode cX11_isRatio 21 = .ok (.goto 4, 3) := by decide +kernel
theorem dX11_isRatio_24 : decode cX11_isRatio 24 = .ok (.iconst 0, 1) := by decide +kernel
theorem dX11_isRatio_25 : decode cX11_isRatio 25 = .ok (.ireturn, 1) := by decide +kernel
def zs_X11_isRatio (h : AH) (u0 : Nat) (u1 : Int32) : Option (Int32 × AH) :=
  (pV h u0 11 0 (.int ((0 : Int32)))).bind fun g1 => (pV g1 u0 11 2 (.int ((0 : Int32)))).bind fun g2 => (if u1 < 0 then some ((0 : Int32), g2) else (if (12 : Int32) ≤ u1 then some ((0 : Int32), g2) else some ((1 : Int32), g2)))
set_option maxRecDepth 100000 in
set_option maxHeartbeats 4000000 in
theorem zm_X11_isRatio (l : Launch) (D : hG) (z : Nat) {h : AH} {u0 : Nat} {u1 : Int32} {r : Int32} {h' : AH} (hs : zs_X11_isRatio h u0 u1 = some (r, h')) : hC l D z yX11_isRatio cX11_isRatio 2 (Option.some Jvm.ClassFile.FieldType.boolean) 0 0 0 0 [.ref u0, .int u1] h h' (some (.int r)) := by
  refine hC_of (by decide) (Nat.le_of_ble_eq_true rfl) ?_
  intro p e s m below meth c hx hb hml hrt hlk hown hnm hts hk hr hz ls hl
  replace hown : s.vm.findClass RX11 = some m.cls := hown
  replace hl : lv_has ls 2 [(0, .ref u0), (1, .int u1)] := hl
  have hS : va_S (hA z) s.heap s.heap [] := va_S.rf
  suffices hgo : ∀ (H : Heap) (locs : List Loc), hR D z h H → va_S (hA z) s.heap H locs → W p l e ({ frames := 0, cells := 0, slots := 0, locals := 0 } : Room) s m ([.ref u0, .int u1] : List Value).toArray below meth c H locs 0 0 (MQ below (hQ D z h' (some (.int r))) ([.ref u0, .int u1] : List Value).toArray s 0 0 (hA z)) (F0 m 0 ls []) from hgo _ _ hr hS
  clear hr hS
  intro H locs hr hS
  unfold zs_X11_isRatio at hs
  refine lv_aload_n hx hb dX11_isRatio_0 rfl (lv_at hl 0 rfl) ?_
  refine lv_iconst (v := 0) hx hb dX11_isRatio_1 (by decide) ?_
  obtain ⟨g1, eg1, hs⟩ := bi_inv hs
  refine hv_pV (C := RX11) (T := TX11) (N := 23) (ci := 11) hx hb hts inX11 tyX11 tyX11_ok nmX11 hown hk hr hS rfl 0 (by decide) (hts _ tw_882) rfl rfl rfl eg1 dX11_isRatio_2 (fun H locs hr hS => ?_)
  refine lv_aload_n hx hb dX11_isRatio_5 rfl (lv_at hl 0 rfl) ?_
  refine lv_iconst (v := 0) hx hb dX11_isRatio_6 (by decide) ?_
  obtain ⟨g2, eg2, hs⟩ := bi_inv hs
  refine hv_pV (C := RX11) (T := TX11) (N := 23) (ci := 11) hx hb hts inX11 tyX11 tyX11_ok nmX11 hown hk hr hS rfl 2 (by decide) (hts _ tw_884) rfl rfl rfl eg2 dX11_isRatio_7 (fun H locs hr hS => ?_)
  refine lv_iload_n hx hb dX11_isRatio_10 rfl (lv_at hl 1 rfl) ?_
  refine lv_if_lt (tgt := 24) hx hb dX11_isRatio_11 (by decide) (fun c3 => ?_) (fun c3 => ?_)
  · rw [if_pos c3] at hs
    refine lv_iconst (v := 0) hx hb dX11_isRatio_24 (by decide) ?_
    obtain ⟨rfl, rfl⟩ := Prod.mk.inj (Option.some.inj hs)
    exact hv_zret hx hb hrt hlk hr hS (by decide) dX11_isRatio_25
  · rw [if_neg c3] at hs
    refine lv_iload_n hx hb dX11_isRatio_14 rfl (lv_at hl 1 rfl) ?_
    refine lv_bipush (v := 12) hx hb dX11_isRatio_15 (by decide) ?_
    refine lv_icmp_ge (tgt := 24) hx hb dX11_isRatio_17 (by decide) (fun c4 => ?_) (fun c4 => ?_)
    · rw [if_pos c4] at hs
      refine lv_iconst (v := 0) hx hb dX11_isRatio_24 (by decide) ?_
      obtain ⟨rfl, rfl⟩ := Prod.mk.inj (Option.some.inj hs)
      exact hv_zret hx hb hrt hlk hr hS (by decide) dX11_isRatio_25
    · rw [if_neg c4] at hs
      refine lv_iconst (v := 1) hx hb dX11_isRatio_20 (by decide) ?_
      refine lv_goto (tgt := 25) hx hb dX11_isRatio_21 (by decide) ?_
      obtain ⟨rfl, rfl⟩ := Prod.mk.inj (Option.some.inj hs)
      exact hv_zret hx hb hrt hlk hr hS (by decide) dX11_isRatio_25
theorem dX11_moved_0 : decode cX11_moved 0 = .ok (.iconst 0, 1) := by decide +kernel
theorem dX11_moved_1 : decode cX11_moved 1 = .ok (.aload_n 1, 1) := by decide +kernel
theorem dX11_moved_2 : decode cX11_moved 2 = .ok (.getfield 42, 3) := by decide +kernel
theorem dX11_moved_5 : decode cX11_moved 5 = .ok (.iload_n 2, 1) := by decide +kernel
theorem dX11_moved_6 : decode cX11_moved 6 = .ok (.bipush 16, 2) := by decide +kernel
theorem dX11_moved_8 : decode cX11_moved 8 = .ok (.idiv, 1) := by decide +kernel
theorem dX11_moved_9 : decode cX11_moved 9 = .ok (.iadd, 1) := by decide +kernel
theorem dX11_moved_10 : decode cX11_moved 10 = .ok (.iconst 2, 1) := by decide +kernel
theorem dX11_moved_11 : decode cX11_moved 11 = .ok (.iadd, 1) := by decide +kernel
theorem dX11_moved_12 : decode cX11_moved 12 = .ok (.invokestatic 53, 3) := by decide +kernel
theorem dX11_moved_15 : decode cX11_moved 15 = .ok (.istore_n 3, 1) := by decide +kernel
theorem dX11_moved_16 : decode cX11_moved 16 = .ok (.aload_n 0, 1) := by decide +kernel
theorem dX11_moved_17 : decode cX11_moved 17 = .ok (.invokevirtual 14, 3) := by decide +kernel
theorem dX11_moved_20 : decode cX11_moved 20 = .ok (.astore 4, 2) := by decide +kernel
theorem dX11_moved_22 : decode cX11_moved 22 = .ok (.iconst 0, 1) := by decide +kernel
theorem dX11_moved_23 : decode cX11_moved 23 = .ok (.istore 5, 2) := by decide +kernel
theorem dX11_moved_25 : decode cX11_moved 25 = .ok (.iload 5, 2) := by decide +kernel
theorem dX11_moved_27 : decode cX11_moved 27 = .ok (.iload_n 3, 1) := by decide +kernel
theorem dX11_moved_28 : decode cX11_moved 28 = .ok (.if_icmp .ge 18, 3) := by decide +kernel
theorem dX11_moved_31 : decode cX11_moved 31 = .ok (.aload 4, 2) := by decide +kernel
theorem dX11_moved_33 : decode cX11_moved 33 = .ok (.getfield 18, 3) := by decide +kernel
theorem dX11_moved_36 : decode cX11_moved 36 = .ok (.iload 5, 2) := by decide +kernel
theorem dX11_moved_38 : decode cX11_moved 38 = .ok (.iconst 0, 1) := by decide +kernel
theorem dX11_moved_39 : decode cX11_moved 39 = .ok (.iastore, 1) := by decide +kernel
theorem dX11_moved_40 : decode cX11_moved 40 = .ok (.iinc 5 1, 3) := by decide +kernel
theorem dX11_moved_43 : decode cX11_moved 43 = .ok (.goto (-18), 3) := by decide +kernel
theorem dX11_moved_46 : decode cX11_moved 46 = .ok (.iconst 0, 1) := by decide +kernel
theorem dX11_moved_47 : decode cX11_moved 47 = .ok (.istore 5, 2) := by decide +kernel
theorem dX11_moved_49 : decode cX11_moved 49 = .ok (.iload 5, 2) := by decide +kernel
theorem dX11_moved_51 : decode cX11_moved 51 = .ok (.bipush 16, 2) := by decide +kernel
theorem dX11_moved_53 : decode cX11_moved 53 = .ok (.aload_n 1, 1) := by decide +kernel
theorem dX11_moved_54 : decode cX11_moved 54 = .ok (.getfield 42, 3) := by decide +kernel
theorem dX11_moved_57 : decode cX11_moved 57 = .ok (.imul, 1) := by decide +kernel
theorem dX11_moved_58 : decode cX11_moved 58 = .ok (.if_icmp .ge 50, 3) := by decide +kernel
theorem dX11_moved_61 : decode cX11_moved 61 = .ok (.iload 5, 2) := by decide +kernel
theorem dX11_moved_63 : decode cX11_moved 63 = .ok (.iload_n 2, 1) := by decide +kernel
theorem dX11_moved_64 : decode cX11_moved 64 = .ok (.iadd, 1) := by decide +kernel
theorem dX11_moved_65 : decode cX11_moved 65 = .ok (.istore 6, 2) := by decide +kernel
theorem dX11_moved_67 : decode cX11_moved 67 = .ok (.aload_n 1, 1) := by decide +kernel
theorem dX11_moved_68 : decode cX11_moved 68 = .ok (.iload 5, 2) := by decide +kernel
theorem dX11_moved_70 : decode cX11_moved 70 = .ok (.invokevirtual 70, 3) := by decide +kernel
theorem dX11_moved_73 : decode cX11_moved 73 = .ok (.ifCond .eq 29, 3) := by decide +kernel
theorem dX11_moved_76 : decode cX11_moved 76 = .ok (.iload 6, 2) := by decide +kernel
theorem dX11_moved_78 : decode cX11_moved 78 = .ok (.ifCond .lt 24, 3) := by decide +kernel
theorem dX11_moved_81 : decode cX11_moved 81 = .ok (.aload 4, 2) := by decide +kernel
theorem dX11_moved_83 : decode cX11_moved 83 = .ok (.getfield 18, 3) := by decide +kernel
theorem dX11_moved_86 : decode cX11_moved 86 = .ok (.iload 6, 2) := by decide +kernel
theorem dX11_moved_88 : decode cX11_moved 88 = .ok (.bipush 16, 2) := by decide +kernel
theorem dX11_moved_90 : decode cX11_moved 90 = .ok (.idiv, 1) := by decide +kernel
theorem dX11_moved_91 : decode cX11_moved 91 = .ok (.dup2, 1) := by decide +kernel
theorem dX11_moved_92 : decode cX11_moved 92 = .ok (.iaload, 1) := by decide +kernel
theorem dX11_moved_93 : decode cX11_moved 93 = .ok (.iconst 1, 1) := by decide +kernel
theorem dX11_moved_94 : decode cX11_moved 94 = .ok (.iload 6, 2) := by decide +kernel
theorem dX11_moved_96 : decode cX11_moved 96 = .ok (.bipush 16, 2) := by decide +kernel
theorem dX11_moved_98 : decode cX11_moved 98 = .ok (.irem, 1) := by decide +kernel
theorem dX11_moved_99 : decode cX11_moved 99 = .ok (.ishl, 1) := by decide +kernel
theorem dX11_moved_100 : decode cX11_moved 100 = .ok (.ior, 1) := by decide +kernel
theorem dX11_moved_101 : decode cX11_moved 101 = .ok (.iastore, 1) := by decide +kernel
theorem dX11_moved_102 : decode cX11_moved 102 = .ok (.iinc 5 1, 3) := by decide +kernel
theorem dX11_moved_105 : decode cX11_moved 105 = .ok (.goto (-56), 3) := by decide +kernel
theorem dX11_moved_108 : decode cX11_moved 108 = .ok (.aload 4, 2) := by decide +kernel
theorem dX11_moved_110 : decode cX11_moved 110 = .ok (.aload_n 1, 1) := by decide +kernel
theorem dX11_moved_111 : decode cX11_moved 111 = .ok (.getfield 38, 3) := by decide +kernel
theorem dX11_moved_114 : decode cX11_moved 114 = .ok (.iload_n 3, 1) := by decide +kernel
theorem dX11_moved_115 : decode cX11_moved 115 = .ok (.invokevirtual 26, 3) := by decide +kernel
theorem dX11_moved_118 : decode cX11_moved 118 = .ok (.areturn, 1) := by decide +kernel
def zb_X11_moved_25 (w1 : Nat) (w2 : Int32) (w3 : Int32) (w4 : Nat) (g5 : AH) (w5 : Int32) : Option ((AH × Int32) ⊕ (AH)) :=
  (if w3 ≤ w5 then some (Sum.inr g5) else (gR g5 w4 10 2).bind fun x7 => (sI g5 x7 0 w5 ((0 : Int32))).bind fun g8 => some (Sum.inl ((g8, w5 + (1 : Int32)))))
def zb_X11_moved_49 (w1 : Nat) (w2 : Int32) (w3 : Int32) (w4 : Nat) (g10 : AH) (w5 : Int32) : Option ((AH × Int32) ⊕ (AH)) :=
  (gI g10 w1 10 1).bind fun x11 => (if ((16 : Int32)) * x11 ≤ w5 then some (Sum.inr g10) else lt_ (w5 + w2) fun x13 => (chk g10 w1 10).bind fun _ => (zs_X10_bit g10 w1 w5).bind fun x15 => (if x15 = 0 then some (Sum.inl ((g10, w5 + (1 : Int32)))) else (if x13 < 0 then some (Sum.inl ((g10, w5 + (1 : Int32)))) else (gR g10 w4 10 2).bind fun x18 => (aI g10 x18 0 (x13 / ((16 : Int32)))).bind fun x19 => (sI g10 x18 0 (x13 / ((16 : Int32))) (x19 ||| (((1 : Int32)) <<< ((x13 - x13 / ((16 : Int32)) * ((16 : Int32))) &&& 31)))).bind fun g20 => some (Sum.inl ((g20, w5 + (1 : Int32)))))))
def zs_X11_moved (h : AH) (u0 : Nat) (u1 : Nat) (u2 : Int32) : Option (Nat × AH) :=
  (gI h u1 10 1).bind fun x1 => lt_ (if (0 : Int32) < (x1 + (u2 / ((16 : Int32)))) + ((2 : Int32)) then (x1 + (u2 / ((16 : Int32)))) + ((2 : Int32)) else (0 : Int32)) fun x2 => (chk h u0 11).bind fun _ => (zs_X11_take h u0).bind fun x4 => (iter (fun q : AH × Int32 => zb_X11_moved_25 u1 u2 x2 x4.1 q.1 q.2) FU ((x4.2, (0 : Int32)))).bind fun r9 => (iter (fun q : AH × Int32 => zb_X11_moved_49 u1 u2 x2 x4.1 q.1 q.2) FU ((r9, (0 : Int32)))).bind fun r21 => (gI r21 u1 10 0).bind fun x22 => (chk r21 x4.1 10).bind fun _ => (zs_X10_of r21 x4.1 x22 x2).bind fun x24 => some (x24.1, x24.2)
set_option maxRecDepth 100000 in
set_option maxHeartbeats 4000000 in
theorem zm_X11_moved (l : Launch) (D : hG) (z : Nat) {h : AH} {u0 : Nat} {u1 : Nat} {u2 : Int32} {r : Nat} {h' : AH} (hs : zs_X11_moved h u0 u1 u2 = some (r, h')) : hC l D z yX11_moved cX11_moved 7 (Option.some (Jvm.ClassFile.FieldType.object "WideWholesModel$Whole")) 1 22 0 0 [.ref u0, .ref u1, .int u2] h h' (some (.ref r)) := by
  refine hC_of (by decide) (Nat.le_of_ble_eq_true rfl) ?_
  intro p e s m below meth c hx hb hml hrt hlk hown hnm hts hk hr hz ls hl
  replace hown : s.vm.findClass RX11 = some m.cls := hown
  replace hl : lv_has ls 7 [(0, .ref u0), (1, .ref u1), (2, .int u2)] := hl
  have hS : va_S (hA z) s.heap s.heap [] := va_S.rf
  suffices hgo : ∀ (H : Heap) (locs : List Loc), hR D z h H → va_S (hA z) s.heap H locs → W p l e ({ frames := 1, cells := 0, slots := 0, locals := 22 } : Room) s m ([.ref u0, .ref u1, .int u2] : List Value).toArray below meth c H locs 0 0 (MQ below (hQ D z h' (some (.ref r))) ([.ref u0, .ref u1, .int u2] : List Value).toArray s 0 0 (hA z)) (F0 m 0 ls []) from hgo _ _ hr hS
  clear hr hS
  intro H locs hr hS
  unfold zs_X11_moved at hs
  refine lv_iconst (v := 0) hx hb dX11_moved_0 (by decide) ?_
  refine lv_aload_n hx hb dX11_moved_1 rfl (lv_at hl 1 rfl) ?_
  obtain ⟨x1, ex1, hs⟩ := bi_inv hs
  refine hv_gI (C := RX10) (T := TX10) (N := 3) (ci := 10) hx hb hts inX10 hown hk hr rfl 1 (by decide) (hts _ tw_865) ex1 dX11_moved_2 ?_
  refine lv_iload_n hx hb dX11_moved_5 rfl (lv_at hl 2 rfl) ?_
  refine lv_bipush (v := 16) hx hb dX11_moved_6 (by decide) ?_
  refine lv_idiv hx hb dX11_moved_8 (by decide) ?_
  refine lv_iadd hx hb dX11_moved_9 ?_
  refine lv_iconst (v := 2) hx hb dX11_moved_10 (by decide) ?_
  refine lv_iadd hx hb dX11_moved_11 ?_
  refine va_mmax hx hb (hml.trans hl.1.symm) hown (hts _ tw_1027) (hts _ tw_460) (hts _ tw_15) (hts _ tw_461) (by decide) (Nat.le_of_ble_eq_true rfl) (Nat.zero_le _) (Nat.zero_le _) dX11_moved_12 ?_
  refine lv_topi (fun x2 ex2 => ?_)
  replace hs := lt_inv hs x2 ex2
  refine lv_istore_n (lv' := [(3, .int x2), (0, .ref u0), (1, .ref u1), (2, .int u2)]) hx hb dX11_moved_15 rfl hl (by decide) rfl (fun ls hl => ?_)
  refine lv_aload_n hx hb dX11_moved_16 rfl (lv_at hl 1 rfl) ?_
  obtain ⟨_, ex3, hs⟩ := bi_inv hs
  obtain ⟨x4, ex4, hs⟩ := bi_inv hs
  refine hv_V1 (n := 0) [] [] hx hb hml hown hts hk hr hz hS (zm_X11_take l D z ex4) ex3 rfl tw_964 tw_966 ts_23 tw_11 tw_967 (by decide +kernel) (by decide) ⟨(Nat.zero_le _), (Nat.zero_le _)⟩ rfl hl.1 (Nat.le_of_ble_eq_true rfl) dX11_moved_17 rfl (fun H locs hr hS => ?_)
  refine lv_astore (lv' := [(4, .ref x4.1), (3, .int x2), (0, .ref u0), (1, .ref u1), (2, .int u2)]) hx hb dX11_moved_20 hl (by decide) rfl (fun ls hl => ?_)
  refine lv_iconst (v := 0) hx hb dX11_moved_22 (by decide) ?_
  refine lv_istore (lv' := [(5, .int ((0 : Int32))), (4, .ref x4.1), (3, .int x2), (0, .ref u0), (1, .ref u1), (2, .int u2)]) hx hb dX11_moved_23 hl (by decide) rfl (fun ls hl => ?_)
  obtain ⟨r9, er9, hs⟩ := bi_inv hs
  refine iter_W (fun (q : AH × Int32) => ∀ (H : Heap) (locs : List Loc) (ls : Array Slot), hR D z q.1 H → va_S (hA z) s.heap H locs → lv_has ls 7 [(1, .ref u1), (2, .int u2), (3, .int x2), (4, .ref x4.1), (5, .int q.2)] → W p l e ({ frames := 1, cells := 0, slots := 0, locals := 22 } : Room) s m ([.ref u0, .ref u1, .int u2] : List Value).toArray below meth c H locs 0 0 (MQ below (hQ D z h' (some (.ref r))) ([.ref u0, .ref u1, .int u2] : List Value).toArray s 0 0 (hA z)) (F0 m 25 ls [])) (fun (x : AH) => ∀ (H : Heap) (locs : List Loc) (ls : Array Slot), hR D z x H → va_S (hA z) s.heap H locs → lv_has ls 7 [(1, .ref u1), (2, .int u2), (3, .int x2), (4, .ref x4.1)] → W p l e ({ frames := 1, cells := 0, slots := 0, locals := 22 } : Room) s m ([.ref u0, .ref u1, .int u2] : List Value).toArray below meth c H locs 0 0 (MQ below (hQ D z h' (some (.ref r))) ([.ref u0, .ref u1, .int u2] : List Value).toArray s 0 0 (hA z)) (F0 m 46 ls [])) ?_ FU _ r9 er9 ?_ H locs ls hr hS (lv_sub hl [4, 5, 2, 1, 0] rfl)
  · intro q o hs hcont hexit
    obtain ⟨g5, w5⟩ := q
    replace hs : zb_X11_moved_25 u1 u2 x2 x4.1 g5 w5 = some o := hs
    intro H locs ls hr hS hl
    unfold zb_X11_moved_25 at hs
    refine lv_iload hx hb dX11_moved_25 (lv_at hl 4 rfl) ?_
    refine lv_iload_n hx hb dX11_moved_27 rfl (lv_at hl 2 rfl) ?_
    refine lv_icmp_ge (tgt := 46) hx hb dX11_moved_28 (by decide) (fun c6 => ?_) (fun c6 => ?_)
    · rw [if_pos c6] at hs
      obtain rfl := Option.some.inj hs
      exact hexit _ rfl H locs ls hr hS (lv_sub hl [0, 1, 2, 3] rfl)
    · rw [if_neg c6] at hs
      refine lv_aload hx hb dX11_moved_31 (lv_at hl 3 rfl) ?_
      obtain ⟨x7, ex7, hs⟩ := bi_inv hs
      refine hv_gR (C := RX10) (T := TX10) (N := 3) (ci := 10) hx hb hts inX10 hown hk hr rfl 2 (by decide) (hts _ tw_867) ex7 dX11_moved_33 ?_
      refine lv_iload hx hb dX11_moved_36 (lv_at hl 4 rfl) ?_
      refine lv_iconst (v := 0) hx hb dX11_moved_38 (by decide) ?_
      obtain ⟨g8, eg8, hs⟩ := bi_inv hs
      refine hv_sI hx hb hk hr hS eg8 dX11_moved_39 (fun H locs hr hS => ?_)
      refine lv_iinc (v := w5 + (1 : Int32)) (lv' := [(5, .int (w5 + (1 : Int32))), (1, .ref u1), (2, .int u2), (3, .int x2), (4, .ref x4.1)]) hx hb dX11_moved_40 hl (k := 4) rfl (ii_v _ (by decide)) (by decide) rfl (fun ls hl => ?_)
      refine lv_goto (tgt := 25) hx hb dX11_moved_43 (by decide) ?_
      obtain rfl := Option.some.inj hs
      exact hcont _ rfl H locs ls hr hS (lv_sub hl [1, 2, 3, 4, 0] rfl)
  · intro H locs ls hr hS hl
    refine lv_iconst (v := 0) hx hb dX11_moved_46 (by decide) ?_
    refine lv_istore (lv' := [(5, .int ((0 : Int32))), (1, .ref u1), (2, .int u2), (3, .int x2), (4, .ref x4.1)]) hx hb dX11_moved_47 hl (by decide) rfl (fun ls hl => ?_)
    obtain ⟨r21, er21, hs⟩ := bi_inv hs
    refine iter_W (fun (q : AH × Int32) => ∀ (H : Heap) (locs : List Loc) (ls : Array Slot), hR D z q.1 H → va_S (hA z) s.heap H locs → lv_has ls 7 [(1, .ref u1), (2, .int u2), (3, .int x2), (4, .ref x4.1), (5, .int q.2)] → W p l e ({ frames := 1, cells := 0, slots := 0, locals := 22 } : Room) s m ([.ref u0, .ref u1, .int u2] : List Value).toArray below meth c H locs 0 0 (MQ below (hQ D z h' (some (.ref r))) ([.ref u0, .ref u1, .int u2] : List Value).toArray s 0 0 (hA z)) (F0 m 49 ls [])) (fun (x : AH) => ∀ (H : Heap) (locs : List Loc) (ls : Array Slot), hR D z x H → va_S (hA z) s.heap H locs → lv_has ls 7 [(1, .ref u1), (3, .int x2), (4, .ref x4.1)] → W p l e ({ frames := 1, cells := 0, slots := 0, locals := 22 } : Room) s m ([.ref u0, .ref u1, .int u2] : List Value).toArray below meth c H locs 0 0 (MQ below (hQ D z h' (some (.ref r))) ([.ref u0, .ref u1, .int u2] : List Value).toArray s 0 0 (hA z)) (F0 m 108 ls [])) ?_ FU _ r21 er21 ?_ H locs ls hr hS (lv_sub hl [1, 2, 3, 4, 0] rfl)
    · intro q o hs hcont hexit
      obtain ⟨g10, w5⟩ := q
      replace hs : zb_X11_moved_49 u1 u2 x2 x4.1 g10 w5 = some o := hs
      intro H locs ls hr hS hl
      unfold zb_X11_moved_49 at hs
      refine lv_iload hx hb dX11_moved_49 (lv_at hl 4 rfl) ?_
      refine lv_bipush (v := 16) hx hb dX11_moved_51 (by decide) ?_
      refine lv_aload_n hx hb dX11_moved_53 rfl (lv_at hl 0 rfl) ?_
      obtain ⟨x11, ex11, hs⟩ := bi_inv hs
      refine hv_gI (C := RX10) (T := TX10) (N := 3) (ci := 10) hx hb hts inX10 hown hk hr rfl 1 (by decide) (hts _ tw_865) ex11 dX11_moved_54 ?_
      refine lv_imul hx hb dX11_moved_57 ?_
      refine lv_icmp_ge (tgt := 108) hx hb dX11_moved_58 (by decide) (fun c12 => ?_) (fun c12 => ?_)
      · rw [if_pos c12] at hs
        obtain rfl := Option.some.inj hs
        exact hexit _ rfl H locs ls hr hS (lv_sub hl [0, 2, 3] rfl)
      · rw [if_neg c12] at hs
        refine lv_iload hx hb dX11_moved_61 (lv_at hl 4 rfl) ?_
        refine lv_iload_n hx hb dX11_moved_63 rfl (lv_at hl 1 rfl) ?_
        refine lv_iadd hx hb dX11_moved_64 ?_
        refine lv_topi (fun x13 ex13 => ?_)
        replace hs := lt_inv hs x13 ex13
        refine lv_istore (lv' := [(6, .int x13), (1, .ref u1), (2, .int u2), (3, .int x2), (4, .ref x4.1), (5, .int w5)]) hx hb dX11_moved_65 hl (by decide) rfl (fun ls hl => ?_)
        refine lv_aload_n hx hb dX11_moved_67 rfl (lv_at hl 1 rfl) ?_
        refine lv_iload hx hb dX11_moved_68 (lv_at hl 5 rfl) ?_
        obtain ⟨_, ex14, hs⟩ := bi_inv hs
        obtain ⟨x15, ex15, hs⟩ := bi_inv hs
        refine hv_V1 (n := 1) [.int w5] [] hx hb hml hown hts hk hr hz hS (zm_X10_bit l D z ex15) ex14 rfl tw_1053 tw_1054 tw_1055 tw_12 tw_1056 (by decide +kernel) (by decide) ⟨(Nat.zero_le _), (Nat.zero_le _)⟩ rfl hl.1 (Nat.le_of_ble_eq_true rfl) dX11_moved_70 rfl (fun H locs hr hS => ?_)
        refine lv_if_eq (tgt := 102) hx hb dX11_moved_73 (by decide) (fun c16 => ?_) (fun c16 => ?_)
        · rw [if_pos c16] at hs
          refine lv_iinc (v := w5 + (1 : Int32)) (lv' := [(5, .int (w5 + (1 : Int32))), (6, .int x13), (1, .ref u1), (2, .int u2), (3, .int x2), (4, .ref x4.1)]) hx hb dX11_moved_102 hl (k := 5) rfl (ii_v _ (by decide)) (by decide) rfl (fun ls hl => ?_)
          refine lv_goto (tgt := 49) hx hb dX11_moved_105 (by decide) ?_
          obtain rfl := Option.some.inj hs
          exact hcont _ rfl H locs ls hr hS (lv_sub hl [2, 3, 4, 5, 0] rfl)
        · rw [if_neg c16] at hs
          refine lv_iload hx hb dX11_moved_76 (lv_at hl 0 rfl) ?_
          refine lv_if_lt (tgt := 102) hx hb dX11_moved_78 (by decide) (fun c17 => ?_) (fun c17 => ?_)
          · rw [if_pos c17] at hs
            refine lv_iinc (v := w5 + (1 : Int32)) (lv' := [(5, .int (w5 + (1 : Int32))), (6, .int x13), (1, .ref u1), (2, .int u2), (3, .int x2), (4, .ref x4.1)]) hx hb dX11_moved_102 hl (k := 5) rfl (ii_v _ (by decide)) (by decide) rfl (fun ls hl => ?_)
            refine lv_goto (tgt := 49) hx hb dX11_moved_105 (by decide) ?_
            obtain rfl := Option.some.inj hs
            exact hcont _ rfl H locs ls hr hS (lv_sub hl [2, 3, 4, 5, 0] rfl)
          · rw [if_neg c17] at hs
            refine lv_aload hx hb dX11_moved_81 (lv_at hl 4 rfl) ?_
            obtain ⟨x18, ex18, hs⟩ := bi_inv hs
            refine hv_gR (C := RX10) (T := TX10) (N := 3) (ci := 10) hx hb hts inX10 hown hk hr rfl 2 (by decide) (hts _ tw_867) ex18 dX11_moved_83 ?_
            refine lv_iload hx hb dX11_moved_86 (lv_at hl 0 rfl) ?_
            refine lv_bipush (v := 16) hx hb dX11_moved_88 (by decide) ?_
            refine lv_idiv hx hb dX11_moved_90 (by decide) ?_
            refine lv_dup2_11 hx hb dX11_moved_91 rfl rfl ?_
            obtain ⟨x19, ex19, hs⟩ := bi_inv hs
            refine hv_aI hx hb hk hr ex19 dX11_moved_92 ?_
            refine lv_iconst (v := 1) hx hb dX11_moved_93 (by decide) ?_
            refine lv_iload hx hb dX11_moved_94 (lv_at hl 0 rfl) ?_
            refine lv_bipush (v := 16) hx hb dX11_moved_96 (by decide) ?_
            refine lv_irem hx hb dX11_moved_98 (by decide) ?_
            refine lv_ishl hx hb dX11_moved_99 ?_
            refine lv_ior hx hb dX11_moved_100 ?_
            obtain ⟨g20, eg20, hs⟩ := bi_inv hs
            refine hv_sI hx hb hk hr hS eg20 dX11_moved_101 (fun H locs hr hS => ?_)
            refine lv_iinc (v := w5 + (1 : Int32)) (lv' := [(5, .int (w5 + (1 : Int32))), (6, .int x13), (1, .ref u1), (2, .int u2), (3, .int x2), (4, .ref x4.1)]) hx hb dX11_moved_102 hl (k := 5) rfl (ii_v _ (by decide)) (by decide) rfl (fun ls hl => ?_)
            refine lv_goto (tgt := 49) hx hb dX11_moved_105 (by decide) ?_
            obtain rfl := Option.some.inj hs
            exact hcont _ rfl H locs ls hr hS (lv_sub hl [2, 3, 4, 5, 0] rfl)
    · intro H locs ls hr hS hl
      refine lv_aload hx hb dX11_moved_108 (lv_at hl 2 rfl) ?_
      refine lv_aload_n hx hb dX11_moved_110 rfl (lv_at hl 0 rfl) ?_
      obtain ⟨x22, ex22, hs⟩ := bi_inv hs
      refine hv_gI (C := RX10) (T := TX10) (N := 3) (ci := 10) hx hb hts inX10 hown hk hr rfl 0 (by decide) (hts _ tw_863) ex22 dX11_moved_111 ?_
      refine lv_iload_n hx hb dX11_moved_114 rfl (lv_at hl 1 rfl) ?_
      obtain ⟨_, ex23, hs⟩ := bi_inv hs
      obtain ⟨x24, ex24, hs⟩ := bi_inv hs
      refine hv_V1 (n := 2) [.int x22, .int x2] [] hx hb hml hown hts hk hr hz hS (zm_X10_of l D z ex24) ex23 rfl tw_969 tw_970 tw_971 tw_12 tw_972 (by decide +kernel) (by decide) ⟨(Nat.zero_le _), (Nat.zero_le _)⟩ rfl hl.1 (Nat.le_of_ble_eq_true rfl) dX11_moved_115 rfl (fun H locs hr hS => ?_)
      obtain ⟨rfl, rfl⟩ := Prod.mk.inj (Option.some.inj hs)
      exact hv_aret hx hb hrt (by first | exact Or.inl ⟨_, rfl⟩ | exact Or.inr ⟨_, rfl⟩) hlk hr hS dX11_moved_118
theorem dX11_divideLong_0 : decode cX11_divideLong 0 = .ok (.aload_n 2, 1) := by decide +kernel
theorem dX11_divideLong_1 : decode cX11_divideLong 1 = .ok (.getfield 18, 3) := by decide +kernel
theorem dX11_divideLong_4 : decode cX11_divideLong 4 = .ok (.aload_n 2, 1) := by decide +kernel
theorem dX11_divideLong_5 : decode cX11_divideLong 5 = .ok (.getfield 42, 3) := by decide +kernel
theorem dX11_divideLong_8 : decode cX11_divideLong 8 = .ok (.iconst 1, 1) := by decide +kernel
theorem dX11_divideLong_9 : decode cX11_divideLong 9 = .ok (.isub, 1) := by decide +kernel
theorem dX11_divideLong_10 : decode cX11_divideLong 10 = .ok (.iaload, 1) := by decide +kernel
theorem dX11_divideLong_11 : decode cX11_divideLong 11 = .ok (.invokestatic 94, 3) := by decide +kernel
theorem dX11_divideLong_14 : decode cX11_divideLong 14 = .ok (.bipush 16, 2) := by decide +kernel
theorem dX11_divideLong_16 : decode cX11_divideLong 16 = .ok (.isub, 1) := by decide +kernel
theorem dX11_divideLong_17 : decode cX11_divideLong 17 = .ok (.istore_n 3, 1) := by decide +kernel
theorem dX11_divideLong_18 : decode cX11_divideLong 18 = .ok (.aload_n 0, 1) := by decide +kernel
theorem dX11_divideLong_19 : decode cX11_divideLong 19 = .ok (.aload_n 2, 1) := by decide +kernel
theorem dX11_divideLong_20 : decode cX11_divideLong 20 = .ok (.iload_n 3, 1) := by decide +kernel
theorem dX11_divideLong_21 : decode cX11_divideLong 21 = .ok (.invokevirtual 100, 3) := by decide +kernel
theorem dX11_divideLong_24 : decode cX11_divideLong 24 = .ok (.astore 4, 2) := by decide +kernel
theorem dX11_divideLong_26 : decode cX11_divideLong 26 = .ok (.aload_n 0, 1) := by decide +kernel
theorem dX11_divideLong_27 : decode cX11_divideLong 27 = .ok (.aload_n 1, 1) := by decide +kernel
theorem dX11_divideLong_28 : decode cX11_divideLong 28 = .ok (.iload_n 3, 1) := by decide +kernel
theorem dX11_divideLong_29 : decode cX11_divideLong 29 = .ok (.invokevirtual 100, 3) := by decide +kernel
theorem dX11_divideLong_32 : decode cX11_divideLong 32 = .ok (.astore 5, 2) := by decide +kernel
theorem dX11_divideLong_34 : decode cX11_divideLong 34 = .ok (.aload 4, 2) := by decide +kernel
theorem dX11_divideLong_36 : decode cX11_divideLong 36 = .ok (.getfield 42, 3) := by decide +kernel
theorem dX11_divideLong_39 : decode cX11_divideLong 39 = .ok (.istore 6, 2) := by decide +kernel
theorem dX11_divideLong_41 : decode cX11_divideLong 41 = .ok (.aload_n 1, 1) := by decide +kernel
theorem dX11_divideLong_42 : decode cX11_divideLong 42 = .ok (.getfield 42, 3) := by decide +kernel
theorem dX11_divideLong_45 : decode cX11_divideLong 45 = .ok (.istore 7, 2) := by decide +kernel
theorem dX11_divideLong_47 : decode cX11_divideLong 47 = .ok (.aload 5, 2) := by decide +kernel
theorem dX11_divideLong_49 : decode cX11_divideLong 49 = .ok (.getfield 42, 3) := by decide +kernel
theorem dX11_divideLong_52 : decode cX11_divideLong 52 = .ok (.istore 8, 2) := by decide +kernel
theorem dX11_divideLong_54 : decode cX11_divideLong 54 = .ok (.iload 8, 2) := by decide +kernel
theorem dX11_divideLong_56 : decode cX11_divideLong 56 = .ok (.iload 7, 2) := by decide +kernel
theorem dX11_divideLong_58 : decode cX11_divideLong 58 = .ok (.if_icmp .gt 18, 3) := by decide +kernel
theorem dX11_divideLong_61 : decode cX11_divideLong 61 = .ok (.aload 5, 2) := by decide +kernel
theorem dX11_divideLong_63 : decode cX11_divideLong 63 = .ok (.getfield 18, 3) := by decide +kernel
theorem dX11_divideLong_66 : decode cX11_divideLong 66 = .ok (.iload 8, 2) := by decide +kernel
theorem dX11_divideLong_68 : decode cX11_divideLong 68 = .ok (.iconst 0, 1) := by decide +kernel
theorem dX11_divideLong_69 : decode cX11_divideLong 69 = .ok (.iastore, 1) := by decide +kernel
theorem dX11_divideLong_70 : decode cX11_divideLong 70 = .ok (.iinc 8 1, 3) := by decide +kernel
theorem dX11_divideLong_73 : decode cX11_divideLong 73 = .ok (.goto (-19), 3) := by decide +kernel
theorem dX11_divideLong_76 : decode cX11_divideLong 76 = .ok (.aload_n 0, 1) := by decide +kernel
theorem dX11_divideLong_77 : decode cX11_divideLong 77 = .ok (.invokevirtual 14, 3) := by decide +kernel
theorem dX11_divideLong_80 : decode cX11_divideLong 80 = .ok (.astore 8, 2) := by decide +kernel
theorem dX11_divideLong_82 : decode cX11_divideLong 82 = .ok (.iload 7, 2) := by decide +kernel
theorem dX11_divideLong_84 : decode cX11_divideLong 84 = .ok (.iload 6, 2) := by decide +kernel
theorem dX11_divideLong_86 : decode cX11_divideLong 86 = .ok (.isub, 1) := by decide +kernel
theorem dX11_divideLong_87 : decode cX11_divideLong 87 = .ok (.istore 9, 2) := by decide +kernel
theorem dX11_divideLong_89 : decode cX11_divideLong 89 = .ok (.iload 9, 2) := by decide +kernel
theorem dX11_divideLong_91 : decode cX11_divideLong 91 = .ok (.ifCond .lt 342, 3) := by decide +kernel
theorem dX11_divideLong_94 : decode cX11_divideLong 94 = .ok (.aload 5, 2) := by decide +kernel
theorem dX11_divideLong_96 : decode cX11_divideLong 96 = .ok (.getfield 18, 3) := by decide +kernel
theorem dX11_divideLong_99 : decode cX11_divideLong 99 = .ok (.iload 9, 2) := by decide +kernel
theorem dX11_divideLong_101 : decode cX11_divideLong 101 = .ok (.iload 6, 2) := by decide +kernel
theorem dX11_divideLong_103 : decode cX11_divideLong 103 = .ok (.iadd, 1) := by decide +kernel
theorem dX11_divideLong_104 : decode cX11_divideLong 104 = .ok (.iaload, 1) := by decide +kernel
theorem dX11_divideLong_105 : decode cX11_divideLong 105 = .ok (.i2l, 1) := by decide +kernel
theorem dX11_divideLong_106 : decode cX11_divideLong 106 = .ok (.bipush 16, 2) := by decide +kernel
theorem dX11_divideLong_108 : decode cX11_divideLong 108 = .ok (.lshl, 1) := by decide +kernel
theorem dX11_divideLong_109 : decode cX11_divideLong 109 = .ok (.aload 5, 2) := by decide +kernel
theorem dX11_divideLong_111 : decode cX11_divideLong 111 = .ok (.getfield 18, 3) := by decide +kernel
theorem dX11_divideLong_114 : decode cX11_divideLong 114 = .ok (.iload 9, 2) := by decide +kernel
theorem dX11_divideLong_116 : decode cX11_divideLong 116 = .ok (.iload 6, 2) := by decide +kernel
theorem dX11_divideLong_118 : decode cX11_divideLong 118 = .ok (.iadd, 1) := by decide +kernel
theorem dX11_divideLong_119 : decode cX11_divideLong 119 = .ok (.iconst 1, 1) := by decide +kernel
theorem dX11_divideLong_120 : decode cX11_divideLong 120 = .ok (.isub, 1) := by decide +kernel
theorem dX11_divideLong_121 : decode cX11_divideLong 121 = .ok (.iaload, 1) := by decide +kernel
theorem dX11_divideLong_122 : decode cX11_divideLong 122 = .ok (.i2l, 1) := by decide +kernel
theorem dX11_divideLong_123 : decode cX11_divideLong 123 = .ok (.lor, 1) := by decide +kernel
theorem dX11_divideLong_124 : decode cX11_divideLong 124 = .ok (.lstore 10, 2) := by decide +kernel
theorem dX11_divideLong_126 : decode cX11_divideLong 126 = .ok (.ldc2_w 24, 3) := by decide +kernel
theorem dX11_divideLong_129 : decode cX11_divideLong 129 = .ok (.lload 10, 2) := by decide +kernel
theorem dX11_divideLong_131 : decode cX11_divideLong 131 = .ok (.aload 4, 2) := by decide +kernel
theorem dX11_divideLong_133 : decode cX11_divideLong 133 = .ok (.getfield 18, 3) := by decide +kernel
theorem dX11_divideLong_136 : decode cX11_divideLong 136 = .ok (.iload 6, 2) := by decide +kernel
theorem dX11_divideLong_138 : decode cX11_divideLong 138 = .ok (.iconst 1, 1) := by decide +kernel
theorem dX11_divideLong_139 : decode cX11_divideLong 139 = .ok (.isub, 1) := by decide +kernel
theorem dX11_divideLong_140 : decode cX11_divideLong 140 = .ok (.iaload, 1) := by decide +kernel
theorem dX11_divideLong_141 : decode cX11_divideLong 141 = .ok (.i2l, 1) := by decide +kernel
theorem dX11_divideLong_142 : decode cX11_divideLong 142 = .ok (.ldiv, 1) := by decide +kernel
theorem dX11_divideLong_143 : decode cX11_divideLong 143 = .ok (.invokestatic 104, 3) := by decide +kernel
theorem dX11_divideLong_146 : decode cX11_divideLong 146 = .ok (.lstore 12, 2) := by decide +kernel
theorem dX11_divideLong_148 : decode cX11_divideLong 148 = .ok (.lload 10, 2) := by decide +kernel
theorem dX11_divideLong_150 : decode cX11_divideLong 150 = .ok (.lload 12, 2) := by decide +kernel
theorem dX11_divideLong_152 : decode cX11_divideLong 152 = .ok (.aload 4, 2) := by decide +kernel
theorem dX11_divideLong_154 : decode cX11_divideLong 154 = .ok (.getfield 18, 3) := by decide +kernel
theorem dX11_divideLong_157 : decode cX11_divideLong 157 = .ok (.iload 6, 2) := by decide +kernel
theorem dX11_divideLong_159 : decode cX11_divideLong 159 = .ok (.iconst 1, 1) := by decide +kernel
theorem dX11_divideLong_160 : decode cX11_divideLong 160 = .ok (.isub, 1) := by decide +kernel
theorem dX11_divideLong_161 : decode cX11_divideLong 161 = .ok (.iaload, 1) := by decide +kernel
theorem dX11_divideLong_162 : decode cX11_divideLong 162 = .ok (.i2l, 1) := by decide +kernel
theorem dX11_divideLong_163 : decode cX11_divideLong 163 = .ok (.lmul, 1) := by decide +kernel
theorem dX11_divideLong_164 : decode cX11_divideLong 164 = .ok (.lsub, 1) := by decide +kernel
theorem dX11_divideLong_165 : decode cX11_divideLong 165 = .ok (.lstore 14, 2) := by decide +kernel
theorem dX11_divideLong_167 : decode cX11_divideLong 167 = .ok (.lload 14, 2) := by decide +kernel
theorem dX11_divideLong_169 : decode cX11_divideLong 169 = .ok (.ldc2_w 108, 3) := by decide +kernel
theorem dX11_divideLong_172 : decode cX11_divideLong 172 = .ok (.lcmp, 1) := by decide +kernel
theorem dX11_divideLong_173 : decode cX11_divideLong 173 = .ok (.ifCond .ge 66, 3) := by decide +kernel
theorem dX11_divideLong_176 : decode cX11_divideLong 176 = .ok (.lload 12, 2) := by decide +kernel
theorem dX11_divideLong_178 : decode cX11_divideLong 178 = .ok (.aload 4, 2) := by decide +kernel
theorem dX11_divideLong_180 : decode cX11_divideLong 180 = .ok (.getfield 18, 3) := by decide +kernel
theorem dX11_divideLong_183 : decode cX11_divideLong 183 = .ok (.iload 6, 2) := by decide +kernel
theorem dX11_divideLong_185 : decode cX11_divideLong 185 = .ok (.iconst 2, 1) := by decide +kernel
theorem dX11_divideLong_186 : decode cX11_divideLong 186 = .ok (.isub, 1) := by decide +kernel
theorem dX11_divideLong_187 : decode cX11_divideLong 187 = .ok (.iaload, 1) := by decide +kernel
theorem dX11_divideLong_188 : decode cX11_divideLong 188 = .ok (.i2l, 1) := by decide +kernel
theorem dX11_divideLong_189 : decode cX11_divideLong 189 = .ok (.lmul, 1) := by decide +kernel
theorem dX11_divideLong_190 : decode cX11_divideLong 190 = .ok (.lload 14, 2) := by decide +kernel
theorem dX11_divideLong_192 : decode cX11_divideLong 192 = .ok (.bipush 16, 2) := by decide +kernel
theorem dX11_divideLong_194 : decode cX11_divideLong 194 = .ok (.lshl, 1) := by decide +kernel
theorem dX11_divideLong_195 : decode cX11_divideLong 195 = .ok (.aload 5, 2) := by decide +kernel
theorem dX11_divideLong_197 : decode cX11_divideLong 197 = .ok (.getfield 18, 3) := by decide +kernel
theorem dX11_divideLong_200 : decode cX11_divideLong 200 = .ok (.iload 9, 2) := by decide +kernel
theorem dX11_divideLong_202 : decode cX11_divideLong 202 = .ok (.iload 6, 2) := by decide +kernel
theorem dX11_divideLong_204 : decode cX11_divideLong 204 = .ok (.iadd, 1) := by decide +kernel
theorem dX11_divideLong_205 : decode cX11_divideLong 205 = .ok (.iconst 2, 1) := by decide +kernel
theorem dX11_divideLong_206 : decode cX11_divideLong 206 = .ok (.isub, 1) := by decide +kernel
theorem dX11_divideLong_207 : decode cX11_divideLong 207 = .ok (.iaload, 1) := by decide +kernel
theorem dX11_divideLong_208 : decode cX11_divideLong 208 = .ok (.i2l, 1) := by decide +kernel
theorem dX11_divideLong_209 : decode cX11_divideLong 209 = .ok (.lor, 1) := by decide +kernel
theorem dX11_divideLong_210 : decode cX11_divideLong 210 = .ok (.lcmp, 1) := by decide +kernel
theorem dX11_divideLong_211 : decode cX11_divideLong 211 = .ok (.ifCond .le 28, 3) := by decide +kernel
theorem dX11_divideLong_214 : decode cX11_divideLong 214 = .ok (.lload 12, 2) := by decide +kernel
theorem dX11_divideLong_216 : decode cX11_divideLong 216 = .ok (.lconst 1, 1) := by decide +kernel
theorem dX11_divideLong_217 : decode cX11_divideLong 217 = .ok (.lsub, 1) := by decide +kernel
theorem dX11_divideLong_218 : decode cX11_divideLong 218 = .ok (.lstore 12, 2) := by decide +kernel
theorem dX11_divideLong_220 : decode cX11_divideLong 220 = .ok (.lload 14, 2) := by decide +kernel
theorem dX11_divideLong_222 : decode cX11_divideLong 222 = .ok (.aload 4, 2) := by decide +kernel
theorem dX11_divideLong_224 : decode cX11_divideLong 224 = .ok (.getfield 18, 3) := by decide +kernel
theorem dX11_divideLong_227 : decode cX11_divideLong 227 = .ok (.iload 6, 2) := by decide +kernel
theorem dX11_divideLong_229 : decode cX11_divideLong 229 = .ok (.iconst 1, 1) := by decide +kernel
theorem dX11_divideLong_230 : decode cX11_divideLong 230 = .ok (.isub, 1) := by decide +kernel
theorem dX11_divideLong_231 : decode cX11_divideLong 231 = .ok (.iaload, 1) := by decide +kernel
theorem dX11_divideLong_232 : decode cX11_divideLong 232 = .ok (.i2l, 1) := by decide +kernel
theorem dX11_divideLong_233 : decode cX11_divideLong 233 = .ok (.ladd, 1) := by decide +kernel
theorem dX11_divideLong_234 : decode cX11_divideLong 234 = .ok (.lstore 14, 2) := by decide +kernel
theorem dX11_divideLong_236 : decode cX11_divideLong 236 = .ok (.goto (-69), 3) := by decide +kernel
theorem dX11_divideLong_239 : decode cX11_divideLong 239 = .ok (.lconst 0, 1) := by decide +kernel
theorem dX11_divideLong_240 : decode cX11_divideLong 240 = .ok (.lstore 16, 2) := by decide +kernel
theorem dX11_divideLong_242 : decode cX11_divideLong 242 = .ok (.iconst 0, 1) := by decide +kernel
theorem dX11_divideLong_243 : decode cX11_divideLong 243 = .ok (.istore 18, 2) := by decide +kernel
theorem dX11_divideLong_245 : decode cX11_divideLong 245 = .ok (.iload 18, 2) := by decide +kernel
theorem dX11_divideLong_247 : decode cX11_divideLong 247 = .ok (.iload 6, 2) := by decide +kernel
theorem dX11_divideLong_249 : decode cX11_divideLong 249 = .ok (.if_icmp .gt 76, 3) := by decide +kernel
theorem dX11_divideLong_252 : decode cX11_divideLong 252 = .ok (.aload 5, 2) := by decide +kernel
theorem dX11_divideLong_254 : decode cX11_divideLong 254 = .ok (.getfield 18, 3) := by decide +kernel
theorem dX11_divideLong_257 : decode cX11_divideLong 257 = .ok (.iload 9, 2) := by decide +kernel
theorem dX11_divideLong_259 : decode cX11_divideLong 259 = .ok (.iload 18, 2) := by decide +kernel
theorem dX11_divideLong_261 : decode cX11_divideLong 261 = .ok (.iadd, 1) := by decide +kernel
theorem dX11_divideLong_262 : decode cX11_divideLong 262 = .ok (.iaload, 1) := by decide +kernel
theorem dX11_divideLong_263 : decode cX11_divideLong 263 = .ok (.i2l, 1) := by decide +kernel
theorem dX11_divideLong_264 : decode cX11_divideLong 264 = .ok (.lload 16, 2) := by decide +kernel
theorem dX11_divideLong_266 : decode cX11_divideLong 266 = .ok (.lsub, 1) := by decide +kernel
theorem dX11_divideLong_267 : decode cX11_divideLong 267 = .ok (.iload 18, 2) := by decide +kernel
theorem dX11_divideLong_269 : decode cX11_divideLong 269 = .ok (.iload 6, 2) := by decide +kernel
theorem dX11_divideLong_271 : decode cX11_divideLong 271 = .ok (.if_icmp .ge 18, 3) := by decide +kernel
theorem dX11_divideLong_274 : decode cX11_divideLong 274 = .ok (.lload 12, 2) := by decide +kernel
theorem dX11_divideLong_276 : decode cX11_divideLong 276 = .ok (.aload 4, 2) := by decide +kernel
theorem dX11_divideLong_278 : decode cX11_divideLong 278 = .ok (.getfield 18, 3) := by decide +kernel
theorem dX11_divideLong_281 : decode cX11_divideLong 281 = .ok (.iload 18, 2) := by decide +kernel
theorem dX11_divideLong_283 : decode cX11_divideLong 283 = .ok (.iaload, 1) := by decide +kernel
theorem dX11_divideLong_284 : decode cX11_divideLong 284 = .ok (.i2l, 1) := by decide +kernel
theorem dX11_divideLong_285 : decode cX11_divideLong 285 = .ok (.lmul, 1) := by decide +kernel
theorem dX11_divideLong_286 : decode cX11_divideLong 286 = .ok (.goto 4, 3) := by decide +kernel
theorem dX11_divideLong_289 : decode cX11_divideLong 289 = .ok (.lconst 0, 1) := by decide +kernel
theorem dX11_divideLong_290 : decode cX11_divideLong 290 = .ok (.lsub, 1) := by decide +kernel
theorem dX11_divideLong_291 : decode cX11_divideLong 291 = .ok (.lstore 19, 2) := by decide +kernel
theorem dX11_divideLong_293 : decode cX11_divideLong 293 = .ok (.aload 5, 2) := by decide +kernel
theorem dX11_divideLong_295 : decode cX11_divideLong 295 = .ok (.getfield 18, 3) := by decide +kernel
theorem dX11_divideLong_298 : decode cX11_divideLong 298 = .ok (.iload 9, 2) := by decide +kernel
theorem dX11_divideLong_300 : decode cX11_divideLong 300 = .ok (.iload 18, 2) := by decide +kernel
theorem dX11_divideLong_302 : decode cX11_divideLong 302 = .ok (.iadd, 1) := by decide +kernel
theorem dX11_divideLong_303 : decode cX11_divideLong 303 = .ok (.lload 19, 2) := by decide +kernel
theorem dX11_divideLong_305 : decode cX11_divideLong 305 = .ok (.ldc2_w 24, 3) := by decide +kernel
theorem dX11_divideLong_308 : decode cX11_divideLong 308 = .ok (.land, 1) := by decide +kernel
theorem dX11_divideLong_309 : decode cX11_divideLong 309 = .ok (.l2i, 1) := by decide +kernel
theorem dX11_divideLong_310 : decode cX11_divideLong 310 = .ok (.iastore, 1) := by decide +kernel
theorem dX11_divideLong_311 : decode cX11_divideLong 311 = .ok (.lload 19, 2) := by decide +kernel
theorem dX11_divideLong_313 : decode cX11_divideLong 313 = .ok (.bipush 16, 2) := by decide +kernel
theorem dX11_divideLong_315 : decode cX11_divideLong 315 = .ok (.lshr, 1) := by decide +kernel
theorem dX11_divideLong_316 : decode cX11_divideLong 316 = .ok (.lneg, 1) := by decide +kernel
theorem dX11_divideLong_317 : decode cX11_divideLong 317 = .ok (.lstore 16, 2) := by decide +kernel
theorem dX11_divideLong_319 : decode cX11_divideLong 319 = .ok (.iinc 18 1, 3) := by decide +kernel
theorem dX11_divideLong_322 : decode cX11_divideLong 322 = .ok (.goto (-77), 3) := by decide +kernel
theorem dX11_divideLong_325 : decode cX11_divideLong 325 = .ok (.lload 16, 2) := by decide +kernel
theorem dX11_divideLong_327 : decode cX11_divideLong 327 = .ok (.lconst 0, 1) := by decide +kernel
theorem dX11_divideLong_328 : decode cX11_divideLong 328 = .ok (.lcmp, 1) := by decide +kernel
theorem dX11_divideLong_329 : decode cX11_divideLong 329 = .ok (.ifCond .eq 87, 3) := by decide +kernel
theorem dX11_divideLong_332 : decode cX11_divideLong 332 = .ok (.lload 12, 2) := by decide +kernel
theorem dX11_divideLong_334 : decode cX11_divideLong 334 = .ok (.lconst 1, 1) := by decide +kernel
theorem dX11_divideLong_335 : decode cX11_divideLong 335 = .ok (.lsub, 1) := by decide +kernel
theorem dX11_divideLong_336 : decode cX11_divideLong 336 = .ok (.lstore 12, 2) := by decide +kernel
theorem dX11_divideLong_338 : decode cX11_divideLong 338 = .ok (.iconst 0, 1) := by decide +kernel
theorem dX11_divideLong_339 : decode cX11_divideLong 339 = .ok (.istore 18, 2) := by decide +kernel
theorem dX11_divideLong_341 : decode cX11_divideLong 341 = .ok (.iconst 0, 1) := by decide +kernel
theorem dX11_divideLong_342 : decode cX11_divideLong 342 = .ok (.istore 19, 2) := by decide +kernel
theorem dX11_divideLong_344 : decode cX11_divideLong 344 = .ok (.iload 19, 2) := by decide +kernel
theorem dX11_divideLong_346 : decode cX11_divideLong 346 = .ok (.iload 6, 2) := by decide +kernel
theorem dX11_divideLong_348 : decode cX11_divideLong 348 = .ok (.if_icmp .gt 68, 3) := by decide +kernel
theorem dX11_divideLong_351 : decode cX11_divideLong 351 = .ok (.aload 5, 2) := by decide +kernel
theorem dX11_divideLong_353 : decode cX11_divideLong 353 = .ok (.getfield 18, 3) := by decide +kernel
theorem dX11_divideLong_356 : decode cX11_divideLong 356 = .ok (.iload 9, 2) := by decide +kernel
theorem dX11_divideLong_358 : decode cX11_divideLong 358 = .ok (.iload 19, 2) := by decide +kernel
theorem dX11_divideLong_360 : decode cX11_divideLong 360 = .ok (.iadd, 1) := by decide +kernel
theorem dX11_divideLong_361 : decode cX11_divideLong 361 = .ok (.iaload, 1) := by decide +kernel
theorem dX11_divideLong_362 : decode cX11_divideLong 362 = .ok (.iload 18, 2) := by decide +kernel
theorem dX11_divideLong_364 : decode cX11_divideLong 364 = .ok (.iadd, 1) := by decide +kernel
theorem dX11_divideLong_365 : decode cX11_divideLong 365 = .ok (.iload 19, 2) := by decide +kernel
theorem dX11_divideLong_367 : decode cX11_divideLong 367 = .ok (.iload 6, 2) := by decide +kernel
theorem dX11_divideLong_369 : decode cX11_divideLong 369 = .ok (.if_icmp .ge 14, 3) := by decide +kernel
theorem dX11_divideLong_372 : decode cX11_divideLong 372 = .ok (.aload 4, 2) := by decide +kernel
theorem dX11_divideLong_374 : decode cX11_divideLong 374 = .ok (.getfield 18, 3) := by decide +kernel
theorem dX11_divideLong_377 : decode cX11_divideLong 377 = .ok (.iload 19, 2) := by decide +kernel
theorem dX11_divideLong_379 : decode cX11_divideLong 379 = .ok (.iaload, 1) := by decide +kernel
theorem dX11_divideLong_380 : decode cX11_divideLong 380 = .ok (.goto 4, 3) := by decide +kernel
theorem dX11_divideLong_383 : decode cX11_divideLong 383 = .ok (.iconst 0, 1) := by decide +kernel
theorem dX11_divideLong_384 : decode cX11_divideLong 384 = .ok (.iadd, 1) := by decide +kernel
theorem dX11_divideLong_385 : decode cX11_divideLong 385 = .ok (.istore 20, 2) := by decide +kernel
theorem dX11_divideLong_387 : decode cX11_divideLong 387 = .ok (.aload 5, 2) := by decide +kernel
theorem dX11_divideLong_389 : decode cX11_divideLong 389 = .ok (.getfield 18, 3) := by decide +kernel
theorem dX11_divideLong_392 : decode cX11_divideLong 392 = .ok (.iload 9, 2) := by decide +kernel
theorem dX11_divideLong_394 : decode cX11_divideLong 394 = .ok (.iload 19, 2) := by decide +kernel
theorem dX11_divideLong_396 : decode cX11_divideLong 396 = .ok (.iadd, 1) := by decide +kernel
theorem dX11_divideLong_397 : decode cX11_divideLong 397 = .ok (.iload 20, 2) := by decide +kernel
theorem dX11_divideLong_399 : decode cX11_divideLong 399 = .ok (.ldc 59, 2) := by decide +kernel
theorem dX11_divideLong_401 : decode cX11_divideLong 401 = .ok (.iand, 1) := by decide +kernel
theorem dX11_divideLong_402 : decode cX11_divideLong 402 = .ok (.iastore, 1) := by decide +kernel
theorem dX11_divideLong_403 : decode cX11_divideLong 403 = .ok (.iload 20, 2) := by decide +kernel
theorem dX11_divideLong_405 : decode cX11_divideLong 405 = .ok (.bipush 16, 2) := by decide +kernel
theorem dX11_divideLong_407 : decode cX11_divideLong 407 = .ok (.ishr, 1) := by decide +kernel
theorem dX11_divideLong_408 : decode cX11_divideLong 408 = .ok (.istore 18, 2) := by decide +kernel
theorem dX11_divideLong_410 : decode cX11_divideLong 410 = .ok (.iinc 19 1, 3) := by decide +kernel
theorem dX11_divideLong_413 : decode cX11_divideLong 413 = .ok (.goto (-69), 3) := by decide +kernel
theorem dX11_divideLong_416 : decode cX11_divideLong 416 = .ok (.aload 8, 2) := by decide +kernel
theorem dX11_divideLong_418 : decode cX11_divideLong 418 = .ok (.getfield 18, 3) := by decide +kernel
theorem dX11_divideLong_421 : decode cX11_divideLong 421 = .ok (.iload 9, 2) := by decide +kernel
theorem dX11_divideLong_423 : decode cX11_divideLong 423 = .ok (.lload 12, 2) := by decide +kernel
theorem dX11_divideLong_425 : decode cX11_divideLong 425 = .ok (.l2i, 1) := by decide +kernel
theorem dX11_divideLong_426 : decode cX11_divideLong 426 = .ok (.iastore, 1) := by decide +kernel
theorem dX11_divideLong_427 : decode cX11_divideLong 427 = .ok (.iinc 9 (-1), 3) := by decide +kernel
theorem dX11_divideLong_430 : decode cX11_divideLong 430 = .ok (.goto (-341), 3) := by decide +kernel
theorem dX11_divideLong_433 : decode cX11_divideLong 433 = .ok (.aload_n 0, 1) := by decide +kernel
theorem dX11_divideLong_434 : decode cX11_divideLong 434 = .ok (.aload 8, 2) := by decide +kernel
theorem dX11_divideLong_436 : decode cX11_divideLong 436 = .ok (.iconst 0, 1) := by decide +kernel
theorem dX11_divideLong_437 : decode cX11_divideLong 437 = .ok (.iload 7, 2) := by decide +kernel
theorem dX11_divideLong_439 : decode cX11_divideLong 439 = .ok (.iload 6, 2) := by decide +kernel
theorem dX11_divideLong_441 : decode cX11_divideLong 441 = .ok (.isub, 1) := by decide +kernel
theorem dX11_divideLong_442 : decode cX11_divideLong 442 = .ok (.iconst 1, 1) := by decide +kernel
theorem dX11_divideLong_443 : decode cX11_divideLong 443 = .ok (.iadd, 1) := by decide +kernel
theorem dX11_divideLong_444 : decode cX11_divideLong 444 = .ok (.invokevirtual 26, 3) := by decide +kernel
theorem dX11_divideLong_447 : decode cX11_divideLong 447 = .ok (.putfield 78, 3) := by decide +kernel
theorem dX11_divideLong_450 : decode cX11_divideLong 450 = .ok (.aload_n 0, 1) := by decide +kernel
theorem dX11_divideLong_451 : decode cX11_divideLong 451 = .ok (.aload_n 0, 1) := by decide +kernel
theorem dX11_divideLong_452 : decode cX11_divideLong 452 = .ok (.aload 5, 2) := by decide +kernel
theorem dX11_divideLong_454 : decode cX11_divideLong 454 = .ok (.iconst 0, 1) := by decide +kernel
theorem dX11_divideLong_455 : decode cX11_divideLong 455 = .ok (.iload 7, 2) := by decide +kernel
theorem dX11_divideLong_457 : decode cX11_divideLong 457 = .ok (.iconst 1, 1) := by decide +kernel
theorem dX11_divideLong_458 : decode cX11_divideLong 458 = .ok (.iadd, 1) := by decide +kernel
theorem dX11_divideLong_459 : decode cX11_divideLong 459 = .ok (.invokevirtual 26, 3) := by decide +kernel
theorem dX11_divideLong_462 : decode cX11_divideLong 462 = .ok (.iload_n 3, 1) := by decide +kernel
theorem dX11_divideLong_463 : decode cX11_divideLong 463 = .ok (.ineg, 1) := by decide +kernel
theorem dX11_divideLong_464 : decode cX11_divideLong 464 = .ok (.invokevirtual 100, 3) := by decide +kernel
theorem dX11_divideLong_467 : decode cX11_divideLong 467 = .ok (.putfield 84, 3) := by decide +kernel
theorem dX11_divideLong_470 : decode cX11_divideLong 470 = .ok (.return_, 1) := by decide +kernel
def zb_X11_divideLong_54 (w0 : Nat) (w3 : Int32) (w4 : Nat) (w5 : Nat) (w6 : Int32) (w7 : Int32) (g13 : AH) (w8 : Int32) : Option ((AH × Int32) ⊕ (AH)) :=
  (if w7 < w8 then some (Sum.inr g13) else (gR g13 w5 10 2).bind fun x15 => (sI g13 x15 0 w8 ((0 : Int32))).bind fun g16 => some (Sum.inl ((g16, w8 + (1 : Int32)))))
def zb_X11_divideLong_167 (h : AH) (w0 : Nat) (w3 : Int32) (w4 : Nat) (w5 : Nat) (w6 : Int32) (w7 : Int32) (w8 : Nat) (w9 : Int32) (w12 : Int64) (w14 : Int64) : Option ((Int64 × Int64) ⊕ (Int64)) :=
  (if (65536 : Int64) ≤ w14 then some (Sum.inr w12) else (gR h w4 10 2).bind fun x36 => (aI h x36 0 (w6 - ((2 : Int32)))).bind fun x37 => (gR h w5 10 2).bind fun x38 => (aI h x38 0 ((w9 + w6) - ((2 : Int32)))).bind fun x39 => (if w12 * x37.toInt64 ≤ (w14 <<< (((16 : Int32)).toInt64 &&& 63)) ||| x39.toInt64 then some (Sum.inr w12) else lt_ (w12 - ((1 : Int64))) fun x41 => (gR h w4 10 2).bind fun x42 => (aI h x42 0 (w6 - ((1 : Int32)))).bind fun x43 => lt_ (w14 + x43.toInt64) fun x44 => some (Sum.inl ((x41, x44)))))
def zj_X11_divideLong_290 (w0 : Nat) (w3 : Int32) (w4 : Nat) (w5 : Nat) (w6 : Int32) (w7 : Int32) (w8 : Nat) (w9 : Int32) (w12 : Int64) (g51 : AH) (y18_290 : Int32) (t0_290 : Int64) (t1_290 : Int64) : Option ((AH × Int64 × Int32) ⊕ ((AH × Int64))) :=
  lt_ (t1_290 - t0_290) fun x52 => (gR g51 w5 10 2).bind fun x53 => (sI g51 x53 0 (w9 + y18_290) ((x52 &&& ((65535 : Int64))).toInt32)).bind fun g54 => lt_ (-(x52 >>> (((16 : Int32)).toInt64 &&& 63))) fun x55 => some (Sum.inl ((g54, x55, y18_290 + (1 : Int32))))
def zb_X11_divideLong_245 (w0 : Nat) (w3 : Int32) (w4 : Nat) (w5 : Nat) (w6 : Int32) (w7 : Int32) (w8 : Nat) (w9 : Int32) (w12 : Int64) (g46 : AH) (w16 : Int64) (w18 : Int32) : Option ((AH × Int64 × Int32) ⊕ ((AH × Int64))) :=
  (if w6 < w18 then some (Sum.inr ((g46, w16))) else (gR g46 w5 10 2).bind fun x48 => (aI g46 x48 0 (w9 + w18)).bind fun x49 => (if w6 ≤ w18 then zj_X11_divideLong_290 w0 w3 w4 w5 w6 w7 w8 w9 w12 g46 w18 ((0 : Int64)) (x49.toInt64 - w16) else (gR g46 w4 10 2).bind fun x56 => (aI g46 x56 0 w18).bind fun x57 => zj_X11_divideLong_290 w0 w3 w4 w5 w6 w7 w8 w9 w12 g46 w18 (w12 * x57.toInt64) (x49.toInt64 - w16)))
def zj_X11_divideLong_416 (w0 : Nat) (w3 : Int32) (w4 : Nat) (w5 : Nat) (w6 : Int32) (w7 : Int32) (w8 : Nat) (g60 : AH) (y9_416 : Int32) (y12_416 : Int64) : Option ((AH × Int32) ⊕ (AH)) :=
  (gR g60 w8 10 2).bind fun x61 => (sI g60 x61 0 y9_416 y12_416.toInt32).bind fun g62 => some (Sum.inl ((g62, y9_416 + (-1 : Int32))))
def zj_X11_divideLong_384 (w0 : Nat) (w3 : Int32) (w4 : Nat) (w5 : Nat) (w6 : Int32) (w7 : Int32) (w8 : Nat) (w9 : Int32) (w12 : Int64) (g69 : AH) (y19_384 : Int32) (t0_384 : Int32) (t1_384 : Int32) : Option ((AH × Int32 × Int32) ⊕ (AH)) :=
  lt_ (t1_384 + t0_384) fun x70 => (gR g69 w5 10 2).bind fun x71 => (sI g69 x71 0 (w9 + y19_384) (x70 &&& ((65535 : Int32)))).bind fun g72 => lt_ (x70 >>> (((16 : Int32)) &&& 31)) fun x73 => some (Sum.inl ((g72, x73, y19_384 + (1 : Int32))))
def zb_X11_divideLong_344 (w0 : Nat) (w3 : Int32) (w4 : Nat) (w5 : Nat) (w6 : Int32) (w7 : Int32) (w8 : Nat) (w9 : Int32) (w12 : Int64) (g64 : AH) (w18 : Int32) (w19 : Int32) : Option ((AH × Int32 × Int32) ⊕ (AH)) :=
  (if w6 < w19 then some (Sum.inr g64) else (gR g64 w5 10 2).bind fun x66 => (aI g64 x66 0 (w9 + w19)).bind fun x67 => (if w6 ≤ w19 then zj_X11_divideLong_384 w0 w3 w4 w5 w6 w7 w8 w9 w12 g64 w19 ((0 : Int32)) (x67 + w18) else (gR g64 w4 10 2).bind fun x74 => (aI g64 x74 0 w19).bind fun x75 => zj_X11_divideLong_384 w0 w3 w4 w5 w6 w7 w8 w9 w12 g64 w19 x75 (x67 + w18)))
def zb_X11_divideLong_89 (w0 : Nat) (w3 : Int32) (w4 : Nat) (w5 : Nat) (w6 : Int32) (w7 : Int32) (w8 : Nat) (g21 : AH) (w9 : Int32) : Option ((AH × Int32) ⊕ (AH)) :=
  (if w9 < 0 then some (Sum.inr g21) else (gR g21 w5 10 2).bind fun x23 => (aI g21 x23 0 (w9 + w6)).bind fun x24 => (gR g21 w5 10 2).bind fun x25 => (aI g21 x25 0 ((w9 + w6) - ((1 : Int32)))).bind fun x26 => lt_ ((x24.toInt64 <<< (((16 : Int32)).toInt64 &&& 63)) ||| x26.toInt64) fun x27 => (gR g21 w4 10 2).bind fun x28 => (aI g21 x28 0 (w6 - ((1 : Int32)))).bind fun x29 => (nzl x29.toInt64).bind fun _ => lt_ (if x27 / x29.toInt64 < (65535 : Int64) then x27 / x29.toInt64 else (65535 : Int64)) fun x31 => (gR g21 w4 10 2).bind fun x32 => (aI g21 x32 0 (w6 - ((1 : Int32)))).bind fun x33 => lt_ (x27 - (x31 * x33.toInt64)) fun x34 => (iter (fun q : Int64 × Int64 => zb_X11_divideLong_167 g21 w0 w3 w4 w5 w6 w7 w8 w9 q.1 q.2) FU ((x31, x34))).bind fun r45 => (iter (fun q : AH × Int64 × Int32 => zb_X11_divideLong_245 w0 w3 w4 w5 w6 w7 w8 w9 r45 q.1 q.2.1 q.2.2) FU ((g21, (0 : Int64), (0 : Int32)))).bind fun r58 => (if r58.2 = (0 : Int64) then zj_X11_divideLong_416 w0 w3 w4 w5 w6 w7 w8 r58.1 w9 r45 else lt_ (r45 - ((1 : Int64))) fun x63 => (iter (fun q : AH × Int32 × Int32 => zb_X11_divideLong_344 w0 w3 w4 w5 w6 w7 w8 w9 x63 q.1 q.2.1 q.2.2) FU ((r58.1, (0 : Int32), (0 : Int32)))).bind fun r76 => zj_X11_divideLong_416 w0 w3 w4 w5 w6 w7 w8 r76 w9 x63))
def zs_X11_divideLong (h : AH) (u0 : Nat) (u1 : Nat) (u2 : Nat) : Option AH :=
  (gR h u2 10 2).bind fun x1 => (gI h u2 10 1).bind fun x2 => (aI h x1 0 (x2 - ((1 : Int32)))).bind fun x3 => (zs_J6_numberOfLeadingZeros_0f7a4 h x3).bind fun x4 => lt_ (x4 - ((16 : Int32))) fun x5 => (chk h u0 11).bind fun _ => (zs_X11_moved h u0 u2 x5).bind fun x7 => (chk x7.2 u0 11).bind fun _ => (zs_X11_moved x7.2 u0 u1 x5).bind fun x9 => (gI x9.2 x7.1 10 1).bind fun x10 => (gI x9.2 u1 10 1).bind fun x11 => (gI x9.2 x9.1 10 1).bind fun x12 => (iter (fun q : AH × Int32 => zb_X11_divideLong_54 u0 x5 x7.1 x9.1 x10 x11 q.1 q.2) FU ((x9.2, x12))).bind fun r17 => (chk r17 u0 11).bind fun _ => (zs_X11_take r17 u0).bind fun x19 => lt_ (x11 - x10) fun x20 => (iter (fun q : AH × Int32 => zb_X11_divideLong_89 u0 x5 x7.1 x9.1 x10 x11 x19.1 q.1 q.2) FU ((x19.2, x20))).bind fun r77 => (chk r77 x19.1 10).bind fun _ => (zs_X10_of r77 x19.1 ((0 : Int32)) ((x11 - x10) + ((1 : Int32)))).bind fun x79 => (pV x79.2 u0 11 5 (.ref x79.1)).bind fun g80 => (chk g80 x9.1 10).bind fun _ => (zs_X10_of g80 x9.1 ((0 : Int32)) (x11 + ((1 : Int32)))).bind fun x82 => (chk x82.2 u0 11).bind fun _ => (zs_X11_moved x82.2 u0 x82.1 (-x5)).bind fun x84 => (pV x84.2 u0 11 6 (.ref x84.1)).bind fun g85 => some g85
set_option maxRecDepth 100000 in
set_option maxHeartbeats 4000000 in
theorem zm_X11_divideLong (l : Launch) (D : hG) (z : Nat) {h : AH} {u0 : Nat} {u1 : Nat} {u2 : Nat} {h' : AH} (hs : zs_X11_divideLong h u0 u1 u2 = some h') : hC l D z yX11_divideLong cX11_divideLong 21 (Option.none : Option Jvm.ClassFile.FieldType) 2 48 0 0 [.ref u0, .ref u1, .ref u2] h h' none := by
  refine hC_of (by decide) (Nat.le_of_ble_eq_true rfl) ?_
  intro p e s m below meth c hx hb hml hrt hlk hown hnm hts hk hr hz ls hl
  replace hown : s.vm.findClass RX11 = some m.cls := hown
  replace hl : lv_has ls 21 [(0, .ref u0), (1, .ref u1), (2, .ref u2)] := hl
  have hS : va_S (hA z) s.heap s.heap [] := va_S.rf
  suffices hgo : ∀ (H : Heap) (locs : List Loc), hR D z h H → va_S (hA z) s.heap H locs → W p l e ({ frames := 2, cells := 0, slots := 0, locals := 48 } : Room) s m ([.ref u0, .ref u1, .ref u2] : List Value).toArray below meth c H locs 0 0 (MQ below (hQ D z h' none) ([.ref u0, .ref u1, .ref u2] : List Value).toArray s 0 0 (hA z)) (F0 m 0 ls []) from hgo _ _ hr hS
  clear hr hS
  intro H locs hr hS
  unfold zs_X11_divideLong at hs
  refine lv_aload_n hx hb dX11_divideLong_0 rfl (lv_at hl 2 rfl) ?_
  obtain ⟨x1, ex1, hs⟩ := bi_inv hs
  refine hv_gR (C := RX10) (T := TX10) (N := 3) (ci := 10) hx hb hts inX10 hown hk hr rfl 2 (by decide) (hts _ tw_867) ex1 dX11_divideLong_1 ?_
  refine lv_aload_n hx hb dX11_divideLong_4 rfl (lv_at hl 2 rfl) ?_
  obtain ⟨x2, ex2, hs⟩ := bi_inv hs
  refine hv_gI (C := RX10) (T := TX10) (N := 3) (ci := 10) hx hb hts inX10 hown hk hr rfl 1 (by decide) (hts _ tw_865) ex2 dX11_divideLong_5 ?_
  refine lv_iconst (v := 1) hx hb dX11_divideLong_8 (by decide) ?_
  refine lv_isub hx hb dX11_divideLong_9 ?_
  obtain ⟨x3, ex3, hs⟩ := bi_inv hs
  refine hv_aI hx hb hk hr ex3 dX11_divideLong_10 ?_
  obtain ⟨x4, ex4, hs⟩ := bi_inv hs
  refine hv_S1 (n := 1) [.int x3] [] hx hb hml hown hts hk hr hz hS (zm_J6_numberOfLeadingZeros_0f7a4 l D z ex4) tw_1048 tw_985 tw_14 tw_986 (by decide +kernel) (by decide) ⟨(Nat.zero_le _), (Nat.zero_le _)⟩ rfl hl.1 (Nat.le_of_ble_eq_true rfl) dX11_divideLong_11 rfl (fun H locs hr hS => ?_)
  refine lv_bipush (v := 16) hx hb dX11_divideLong_14 (by decide) ?_
  refine lv_isub hx hb dX11_divideLong_16 ?_
  refine lv_topi (fun x5 ex5 => ?_)
  replace hs := lt_inv hs x5 ex5
  refine lv_istore_n (lv' := [(3, .int x5), (0, .ref u0), (1, .ref u1), (2, .ref u2)]) hx hb dX11_divideLong_17 rfl hl (by decide) rfl (fun ls hl => ?_)
  refine lv_aload_n hx hb dX11_divideLong_18 rfl (lv_at hl 1 rfl) ?_
  refine lv_aload_n hx hb dX11_divideLong_19 rfl (lv_at hl 3 rfl) ?_
  refine lv_iload_n hx hb dX11_divideLong_20 rfl (lv_at hl 0 rfl) ?_
  obtain ⟨_, ex6, hs⟩ := bi_inv hs
  obtain ⟨x7, ex7, hs⟩ := bi_inv hs
  refine hv_V1 (n := 2) [.ref u2, .int x5] [] hx hb hml hown hts hk hr hz hS (zm_X11_moved l D z ex7) ex6 rfl tw_1049 tw_1051 ts_34 tw_11 tw_1052 (by decide +kernel) (by decide) ⟨(Nat.zero_le _), (Nat.zero_le _)⟩ rfl hl.1 (Nat.le_of_ble_eq_true rfl) dX11_divideLong_21 rfl (fun H locs hr hS => ?_)
  refine lv_astore (lv' := [(4, .ref x7.1), (3, .int x5), (0, .ref u0), (1, .ref u1), (2, .ref u2)]) hx hb dX11_divideLong_24 hl (by decide) rfl (fun ls hl => ?_)
  refine lv_aload_n hx hb dX11_divideLong_26 rfl (lv_at hl 2 rfl) ?_
  refine lv_aload_n hx hb dX11_divideLong_27 rfl (lv_at hl 3 rfl) ?_
  refine lv_iload_n hx hb dX11_divideLong_28 rfl (lv_at hl 1 rfl) ?_
  obtain ⟨_, ex8, hs⟩ := bi_inv hs
  obtain ⟨x9, ex9, hs⟩ := bi_inv hs
  refine hv_V1 (n := 2) [.ref u1, .int x5] [] hx hb hml hown hts hk hr hz hS (zm_X11_moved l D z ex9) ex8 rfl tw_1049 tw_1051 ts_34 tw_11 tw_1052 (by decide +kernel) (by decide) ⟨(Nat.zero_le _), (Nat.zero_le _)⟩ rfl hl.1 (Nat.le_of_ble_eq_true rfl) dX11_divideLong_29 rfl (fun H locs hr hS => ?_)
  refine lv_astore (lv' := [(5, .ref x9.1), (4, .ref x7.1), (3, .int x5), (0, .ref u0), (1, .ref u1), (2, .ref u2)]) hx hb dX11_divideLong_32 hl (by decide) rfl (fun ls hl => ?_)
  refine lv_aload hx hb dX11_divideLong_34 (lv_at hl 1 rfl) ?_
  obtain ⟨x10, ex10, hs⟩ := bi_inv hs
  refine hv_gI (C := RX10) (T := TX10) (N := 3) (ci := 10) hx hb hts inX10 hown hk hr rfl 1 (by decide) (hts _ tw_865) ex10 dX11_divideLong_36 ?_
  refine lv_istore (lv' := [(6, .int x10), (5, .ref x9.1), (4, .ref x7.1), (3, .int x5), (0, .ref u0), (1, .ref u1), (2, .ref u2)]) hx hb dX11_divideLong_39 hl (by decide) rfl (fun ls hl => ?_)
  refine lv_aload_n hx hb dX11_divideLong_41 rfl (lv_at hl 5 rfl) ?_
  obtain ⟨x11, ex11, hs⟩ := bi_inv hs
  refine hv_gI (C := RX10) (T := TX10) (N := 3) (ci := 10) hx hb hts inX10 hown hk hr rfl 1 (by decide) (hts _ tw_865) ex11 dX11_divideLong_42 ?_
  refine lv_istore (lv' := [(7, .int x11), (6, .int x10), (5, .ref x9.1), (4, .ref x7.1), (3, .int x5), (0, .ref u0), (1, .ref u1), (2, .ref u2)]) hx hb dX11_divideLong_45 hl (by decide) rfl (fun ls hl => ?_)
  refine lv_aload hx hb dX11_divideLong_47 (lv_at hl 2 rfl) ?_
  obtain ⟨x12, ex12, hs⟩ := bi_inv hs
  refine hv_gI (C := RX10) (T := TX10) (N := 3) (ci := 10) hx hb hts inX10 hown hk hr rfl 1 (by decide) (hts _ tw_865) ex12 dX11_divideLong_49 ?_
  refine lv_istore (lv' := [(8, .int x12), (7, .int x11), (6, .int x10), (5, .ref x9.1), (4, .ref x7.1), (3, .int x5), (0, .ref u0), (1, .ref u1), (2, .ref u2)]) hx hb dX11_divideLong_52 hl (by decide) rfl (fun ls hl => ?_)
  obtain ⟨r17, er17, hs⟩ := bi_inv hs
  refine iter_W (fun (q : AH × Int32) => ∀ (H : Heap) (locs : List Loc) (ls : Array Slot), hR D z q.1 H → va_S (hA z) s.heap H locs → lv_has ls 21 [(0, .ref u0), (3, .int x5), (4, .ref x7.1), (5, .ref x9.1), (6, .int x10), (7, .int x11), (8, .int q.2)] → W p l e ({ frames := 2, cells := 0, slots := 0, locals := 48 } : Room) s m ([.ref u0, .ref u1, .ref u2] : List Value).toArray below meth c H locs 0 0 (MQ below (hQ D z h' none) ([.ref u0, .ref u1, .ref u2] : List Value).toArray s 0 0 (hA z)) (F0 m 54 ls [])) (fun (x : AH) => ∀ (H : Heap) (locs : List Loc) (ls : Array Slot), hR D z x H → va_S (hA z) s.heap H locs → lv_has ls 21 [(0, .ref u0), (3, .int x5), (4, .ref x7.1), (5, .ref x9.1), (6, .int x10), (7, .int x11)] → W p l e ({ frames := 2, cells := 0, slots := 0, locals := 48 } : Room) s m ([.ref u0, .ref u1, .ref u2] : List Value).toArray below meth c H locs 0 0 (MQ below (hQ D z h' none) ([.ref u0, .ref u1, .ref u2] : List Value).toArray s 0 0 (hA z)) (F0 m 76 ls [])) ?_ FU _ r17 er17 ?_ H locs ls hr hS (lv_sub hl [6, 5, 4, 3, 2, 1, 0] rfl)
  · intro q o hs hcont hexit
    obtain ⟨g13, w8⟩ := q
    replace hs : zb_X11_divideLong_54 u0 x5 x7.1 x9.1 x10 x11 g13 w8 = some o := hs
    intro H locs ls hr hS hl
    unfold zb_X11_divideLong_54 at hs
    refine lv_iload hx hb dX11_divideLong_54 (lv_at hl 6 rfl) ?_
    refine lv_iload hx hb dX11_divideLong_56 (lv_at hl 5 rfl) ?_
    refine lv_icmp_gt (tgt := 76) hx hb dX11_divideLong_58 (by decide) (fun c14 => ?_) (fun c14 => ?_)
    · rw [if_pos c14] at hs
      obtain rfl := Option.some.inj hs
      exact hexit _ rfl H locs ls hr hS (lv_sub hl [0, 1, 2, 3, 4, 5] rfl)
    · rw [if_neg c14] at hs
      refine lv_aload hx hb dX11_divideLong_61 (lv_at hl 3 rfl) ?_
      obtain ⟨x15, ex15, hs⟩ := bi_inv hs
      refine hv_gR (C := RX10) (T := TX10) (N := 3) (ci := 10) hx hb hts inX10 hown hk hr rfl 2 (by decide) (hts _ tw_867) ex15 dX11_divideLong_63 ?_
      refine lv_iload hx hb dX11_divideLong_66 (lv_at hl 6 rfl) ?_
      refine lv_iconst (v := 0) hx hb dX11_divideLong_68 (by decide) ?_
      obtain ⟨g16, eg16, hs⟩ := bi_inv hs
      refine hv_sI hx hb hk hr hS eg16 dX11_divideLong_69 (fun H locs hr hS => ?_)
      refine lv_iinc (v := w8 + (1 : Int32)) (lv' := [(8, .int (w8 + (1 : Int32))), (0, .ref u0), (3, .int x5), (4, .ref x7.1), (5, .ref x9.1), (6, .int x10), (7, .int x11)]) hx hb dX11_divideLong_70 hl (k := 6) rfl (ii_v _ (by decide)) (by decide) rfl (fun ls hl => ?_)
      refine lv_goto (tgt := 54) hx hb dX11_divideLong_73 (by decide) ?_
      obtain rfl := Option.some.inj hs
      exact hcont _ rfl H locs ls hr hS (lv_sub hl [1, 2, 3, 4, 5, 6, 0] rfl)
  · intro H locs ls hr hS hl
    refine lv_aload_n hx hb dX11_divideLong_76 rfl (lv_at hl 0 rfl) ?_
    obtain ⟨_, ex18, hs⟩ := bi_inv hs
    obtain ⟨x19, ex19, hs⟩ := bi_inv hs
    refine hv_V1 (n := 0) [] [] hx hb hml hown hts hk hr hz hS (zm_X11_take l D z ex19) ex18 rfl tw_964 tw_966 ts_23 tw_11 tw_967 (by decide +kernel) (by decide) ⟨(Nat.zero_le _), (Nat.zero_le _)⟩ rfl hl.1 (Nat.le_of_ble_eq_true rfl) dX11_divideLong_77 rfl (fun H locs hr hS => ?_)
    refine lv_astore (lv' := [(8, .ref x19.1), (0, .ref u0), (3, .int x5), (4, .ref x7.1), (5, .ref x9.1), (6, .int x10), (7, .int x11)]) hx hb dX11_divideLong_80 hl (by decide) rfl (fun ls hl => ?_)
    refine lv_iload hx hb dX11_divideLong_82 (lv_at hl 6 rfl) ?_
    refine lv_iload hx hb dX11_divideLong_84 (lv_at hl 5 rfl) ?_
    refine lv_isub hx hb dX11_divideLong_86 ?_
    refine lv_topi (fun x20 ex20 => ?_)
    replace hs := lt_inv hs x20 ex20
    refine lv_istore (lv' := [(9, .int x20), (8, .ref x19.1), (0, .ref u0), (3, .int x5), (4, .ref x7.1), (5, .ref x9.1), (6, .int x10), (7, .int x11)]) hx hb dX11_divideLong_87 hl (by decide) rfl (fun ls hl => ?_)
    obtain ⟨r77, er77, hs⟩ := bi_inv hs
    refine iter_W (fun (q : AH × Int32) => ∀ (H : Heap) (locs : List Loc) (ls : Array Slot), hR D z q.1 H → va_S (hA z) s.heap H locs → lv_has ls 21 [(0, .ref u0), (3, .int x5), (4, .ref x7.1), (5, .ref x9.1), (6, .int x10), (7, .int x11), (8, .ref x19.1), (9, .int q.2)] → W p l e ({ frames := 2, cells := 0, slots := 0, locals := 48 } : Room) s m ([.ref u0, .ref u1, .ref u2] : List Value).toArray below meth c H locs 0 0 (MQ below (hQ D z h' none) ([.ref u0, .ref u1, .ref u2] : List Value).toArray s 0 0 (hA z)) (F0 m 89 ls [])) (fun (x : AH) => ∀ (H : Heap) (locs : List Loc) (ls : Array Slot), hR D z x H → va_S (hA z) s.heap H locs → lv_has ls 21 [(0, .ref u0), (3, .int x5), (5, .ref x9.1), (6, .int x10), (7, .int x11), (8, .ref x19.1)] → W p l e ({ frames := 2, cells := 0, slots := 0, locals := 48 } : Room) s m ([.ref u0, .ref u1, .ref u2] : List Value).toArray below meth c H locs 0 0 (MQ below (hQ D z h' none) ([.ref u0, .ref u1, .ref u2] : List Value).toArray s 0 0 (hA z)) (F0 m 433 ls [])) ?_ FU _ r77 er77 ?_ H locs ls hr hS (lv_sub hl [2, 3, 4, 5, 6, 7, 1, 0] rfl)
    · intro q o hs hcont hexit
      obtain ⟨g21, w9⟩ := q
      replace hs : zb_X11_divideLong_89 u0 x5 x7.1 x9.1 x10 x11 x19.1 g21 w9 = some o := hs
      intro H locs ls hr hS hl
      have hJ416 : ∀ (g60 : AH) (y9_416 : Int32) (y12_416 : Int64) (H : Heap) (locs : List Loc) (ls : Array Slot), zj_X11_divideLong_416 u0 x5 x7.1 x9.1 x10 x11 x19.1 g60 y9_416 y12_416 = some o → hR D z g60 H → va_S (hA z) s.heap H locs → lv_has ls 21 [(0, .ref u0), (3, .int x5), (4, .ref x7.1), (5, .ref x9.1), (6, .int x10), (7, .int x11), (8, .ref x19.1), (9, .int y9_416), (12, .long y12_416)] → W p l e ({ frames := 2, cells := 0, slots := 0, locals := 48 } : Room) s m ([.ref u0, .ref u1, .ref u2] : List Value).toArray below meth c H locs 0 0 (MQ below (hQ D z h' none) ([.ref u0, .ref u1, .ref u2] : List Value).toArray s 0 0 (hA z)) (F0 m 416 ls []) := by
        intro g60 y9_416 y12_416 H locs ls hs hr hS hl
        unfold zj_X11_divideLong_416 at hs
        refine lv_aload hx hb dX11_divideLong_416 (lv_at hl 6 rfl) ?_
        obtain ⟨x61, ex61, hs⟩ := bi_inv hs
        refine hv_gR (C := RX10) (T := TX10) (N := 3) (ci := 10) hx hb hts inX10 hown hk hr rfl 2 (by decide) (hts _ tw_867) ex61 dX11_divideLong_418 ?_
        refine lv_iload hx hb dX11_divideLong_421 (lv_at hl 7 rfl) ?_
        refine lv_lload hx hb dX11_divideLong_423 (lv_at hl 8 rfl) ?_
        refine lv_l2i hx hb dX11_divideLong_425 rfl ?_
        obtain ⟨g62, eg62, hs⟩ := bi_inv hs
        refine hv_sI hx hb hk hr hS eg62 dX11_divideLong_426 (fun H locs hr hS => ?_)
        refine lv_iinc (v := y9_416 + (-1 : Int32)) (lv' := [(9, .int (y9_416 + (-1 : Int32))), (0, .ref u0), (3, .int x5), (4, .ref x7.1), (5, .ref x9.1), (6, .int x10), (7, .int x11), (8, .ref x19.1), (12, .long y12_416)]) hx hb dX11_divideLong_427 hl (k := 7) rfl (ii_v _ (by decide)) (by decide) rfl (fun ls hl => ?_)
        refine lv_goto (tgt := 89) hx hb dX11_divideLong_430 (by decide) ?_
        obtain rfl := Option.some.inj hs
        exact hcont _ rfl H locs ls hr hS (lv_sub hl [1, 2, 3, 4, 5, 6, 7, 0] rfl)
      unfold zb_X11_divideLong_89 at hs
      refine lv_iload hx hb dX11_divideLong_89 (lv_at hl 7 rfl) ?_
      refine lv_if_lt (tgt := 433) hx hb dX11_divideLong_91 (by decide) (fun c22 => ?_) (fun c22 => ?_)
      · rw [if_pos c22] at hs
        obtain rfl := Option.some.inj hs
        exact hexit _ rfl H locs ls hr hS (lv_sub hl [0, 1, 3, 4, 5, 6] rfl)
      · rw [if_neg c22] at hs
        refine lv_aload hx hb dX11_divideLong_94 (lv_at hl 3 rfl) ?_
        obtain ⟨x23, ex23, hs⟩ := bi_inv hs
        refine hv_gR (C := RX10) (T := TX10) (N := 3) (ci := 10) hx hb hts inX10 hown hk hr rfl 2 (by decide) (hts _ tw_867) ex23 dX11_divideLong_96 ?_
        refine lv_iload hx hb dX11_divideLong_99 (lv_at hl 7 rfl) ?_
        refine lv_iload hx hb dX11_divideLong_101 (lv_at hl 4 rfl) ?_
        refine lv_iadd hx hb dX11_divideLong_103 ?_
        obtain ⟨x24, ex24, hs⟩ := bi_inv hs
        refine hv_aI hx hb hk hr ex24 dX11_divideLong_104 ?_
        refine lv_i2l hx hb dX11_divideLong_105 rfl ?_
        refine lv_bipush (v := 16) hx hb dX11_divideLong_106 (by decide) ?_
        refine lv_lshl hx hb dX11_divideLong_108 rfl ?_
        refine lv_aload hx hb dX11_divideLong_109 (lv_at hl 3 rfl) ?_
        obtain ⟨x25, ex25, hs⟩ := bi_inv hs
        refine hv_gR (C := RX10) (T := TX10) (N := 3) (ci := 10) hx hb hts inX10 hown hk hr rfl 2 (by decide) (hts _ tw_867) ex25 dX11_divideLong_111 ?_
        refine lv_iload hx hb dX11_divideLong_114 (lv_at hl 7 rfl) ?_
        refine lv_iload hx hb dX11_divideLong_116 (lv_at hl 4 rfl) ?_
        refine lv_iadd hx hb dX11_divideLong_118 ?_
        refine lv_iconst (v := 1) hx hb dX11_divideLong_119 (by decide) ?_
        refine lv_isub hx hb dX11_divideLong_120 ?_
        obtain ⟨x26, ex26, hs⟩ := bi_inv hs
        refine hv_aI hx hb hk hr ex26 dX11_divideLong_121 ?_
        refine lv_i2l hx hb dX11_divideLong_122 rfl ?_
        refine lv_lor hx hb dX11_divideLong_123 ?_
        refine lv_topl (fun x27 ex27 => ?_)
        replace hs := lt_inv hs x27 ex27
        refine lv_lstore (lv' := [(10, .long x27), (0, .ref u0), (3, .int x5), (4, .ref x7.1), (5, .ref x9.1), (6, .int x10), (7, .int x11), (8, .ref x19.1), (9, .int w9)]) hx hb dX11_divideLong_124 hl (by decide) rfl (fun ls hl => ?_)
        refine lv_ldc2 hx hb hown (hts _ tw_968) dX11_divideLong_126 ?_
        refine lv_lload hx hb dX11_divideLong_129 (lv_at hl 0 rfl) ?_
        refine lv_aload hx hb dX11_divideLong_131 (lv_at hl 3 rfl) ?_
        obtain ⟨x28, ex28, hs⟩ := bi_inv hs
        refine hv_gR (C := RX10) (T := TX10) (N := 3) (ci := 10) hx hb hts inX10 hown hk hr rfl 2 (by decide) (hts _ tw_867) ex28 dX11_divideLong_133 ?_
        refine lv_iload hx hb dX11_divideLong_136 (lv_at hl 5 rfl) ?_
        refine lv_iconst (v := 1) hx hb dX11_divideLong_138 (by decide) ?_
        refine lv_isub hx hb dX11_divideLong_139 ?_
        obtain ⟨x29, ex29, hs⟩ := bi_inv hs
        refine hv_aI hx hb hk hr ex29 dX11_divideLong_140 ?_
        refine lv_i2l hx hb dX11_divideLong_141 rfl ?_
        obtain ⟨_, ex30, hs⟩ := bi_inv hs
        refine lv_ldiv hx hb dX11_divideLong_142 (nzl_inv ex30) ?_
        refine va_mmin_long hx hb (hml.trans hl.1.symm) hown (hts _ tw_1057) (hts _ tw_1058) (hts _ tw_15) (hts _ tw_1059) (by decide) (Nat.le_of_ble_eq_true rfl) (Nat.zero_le _) (Nat.zero_le _) dX11_divideLong_143 ?_
        refine lv_topl (fun x31 ex31 => ?_)
        replace hs := lt_inv hs x31 ex31
        refine lv_lstore (lv' := [(12, .long x31), (10, .long x27), (0, .ref u0), (3, .int x5), (4, .ref x7.1), (5, .ref x9.1), (6, .int x10), (7, .int x11), (8, .ref x19.1), (9, .int w9)]) hx hb dX11_divideLong_146 hl (by decide) rfl (fun ls hl => ?_)
        refine lv_lload hx hb dX11_divideLong_148 (lv_at hl 1 rfl) ?_
        refine lv_lload hx hb dX11_divideLong_150 (lv_at hl 0 rfl) ?_
        refine lv_aload hx hb dX11_divideLong_152 (lv_at hl 4 rfl) ?_
        obtain ⟨x32, ex32, hs⟩ := bi_inv hs
        refine hv_gR (C := RX10) (T := TX10) (N := 3) (ci := 10) hx hb hts inX10 hown hk hr rfl 2 (by decide) (hts _ tw_867) ex32 dX11_divideLong_154 ?_
        refine lv_iload hx hb dX11_divideLong_157 (lv_at hl 6 rfl) ?_
        refine lv_iconst (v := 1) hx hb dX11_divideLong_159 (by decide) ?_
        refine lv_isub hx hb dX11_divideLong_160 ?_
        obtain ⟨x33, ex33, hs⟩ := bi_inv hs
        refine hv_aI hx hb hk hr ex33 dX11_divideLong_161 ?_
        refine lv_i2l hx hb dX11_divideLong_162 rfl ?_
        refine lv_lmul hx hb dX11_divideLong_163 ?_
        refine lv_lsub hx hb dX11_divideLong_164 ?_
        refine lv_topl (fun x34 ex34 => ?_)
        replace hs := lt_inv hs x34 ex34
        refine lv_lstore (lv' := [(14, .long x34), (12, .long x31), (10, .long x27), (0, .ref u0), (3, .int x5), (4, .ref x7.1), (5, .ref x9.1), (6, .int x10), (7, .int x11), (8, .ref x19.1), (9, .int w9)]) hx hb dX11_divideLong_165 hl (by decide) rfl (fun ls hl => ?_)
        obtain ⟨r45, er45, hs⟩ := bi_inv hs
        refine iter_W (fun (q : Int64 × Int64) => ∀ (H : Heap) (locs : List Loc) (ls : Array Slot), hR D z g21 H → va_S (hA z) s.heap H locs → lv_has ls 21 [(0, .ref u0), (3, .int x5), (4, .ref x7.1), (5, .ref x9.1), (6, .int x10), (7, .int x11), (8, .ref x19.1), (9, .int w9), (12, .long q.1), (14, .long q.2)] → W p l e ({ frames := 2, cells := 0, slots := 0, locals := 48 } : Room) s m ([.ref u0, .ref u1, .ref u2] : List Value).toArray below meth c H locs 0 0 (MQ below (hQ D z h' none) ([.ref u0, .ref u1, .ref u2] : List Value).toArray s 0 0 (hA z)) (F0 m 167 ls [])) (fun (x : Int64) => ∀ (H : Heap) (locs : List Loc) (ls : Array Slot), hR D z g21 H → va_S (hA z) s.heap H locs → lv_has ls 21 [(0, .ref u0), (3, .int x5), (4, .ref x7.1), (5, .ref x9.1), (6, .int x10), (7, .int x11), (8, .ref x19.1), (9, .int w9), (12, .long x)] → W p l e ({ frames := 2, cells := 0, slots := 0, locals := 48 } : Room) s m ([.ref u0, .ref u1, .ref u2] : List Value).toArray below meth c H locs 0 0 (MQ below (hQ D z h' none) ([.ref u0, .ref u1, .ref u2] : List Value).toArray s 0 0 (hA z)) (F0 m 239 ls [])) ?_ FU _ r45 er45 ?_ H locs ls hr hS (lv_sub hl [3, 4, 5, 6, 7, 8, 9, 10, 1, 0] rfl)
        · intro q o hs hcont hexit
          obtain ⟨w12, w14⟩ := q
          replace hs : zb_X11_divideLong_167 g21 u0 x5 x7.1 x9.1 x10 x11 x19.1 w9 w12 w14 = some o := hs
          intro H locs ls hr hS hl
          unfold zb_X11_divideLong_167 at hs
          refine lv_lload hx hb dX11_divideLong_167 (lv_at hl 9 rfl) ?_
          refine lv_ldc2 hx hb hown (hts _ tw_1060) dX11_divideLong_169 ?_
          refine hv_lc_ge (tgt := 239) hx hb dX11_divideLong_172 dX11_divideLong_173 (by decide) (fun c35 => ?_) (fun c35 => ?_)
          · rw [if_pos c35] at hs
            obtain rfl := Option.some.inj hs
            exact hexit _ rfl H locs ls hr hS (lv_sub hl [0, 1, 2, 3, 4, 5, 6, 7, 8] rfl)
          · rw [if_neg c35] at hs
            refine lv_lload hx hb dX11_divideLong_176 (lv_at hl 8 rfl) ?_
            refine lv_aload hx hb dX11_divideLong_178 (lv_at hl 2 rfl) ?_
            obtain ⟨x36, ex36, hs⟩ := bi_inv hs
            refine hv_gR (C := RX10) (T := TX10) (N := 3) (ci := 10) hx hb hts inX10 hown hk hr rfl 2 (by decide) (hts _ tw_867) ex36 dX11_divideLong_180 ?_
            refine lv_iload hx hb dX11_divideLong_183 (lv_at hl 4 rfl) ?_
            refine lv_iconst (v := 2) hx hb dX11_divideLong_185 (by decide) ?_
            refine lv_isub hx hb dX11_divideLong_186 ?_
            obtain ⟨x37, ex37, hs⟩ := bi_inv hs
            refine hv_aI hx hb hk hr ex37 dX11_divideLong_187 ?_
            refine lv_i2l hx hb dX11_divideLong_188 rfl ?_
            refine lv_lmul hx hb dX11_divideLong_189 ?_
            refine lv_lload hx hb dX11_divideLong_190 (lv_at hl 9 rfl) ?_
            refine lv_bipush (v := 16) hx hb dX11_divideLong_192 (by decide) ?_
            refine lv_lshl hx hb dX11_divideLong_194 rfl ?_
            refine lv_aload hx hb dX11_divideLong_195 (lv_at hl 3 rfl) ?_
            obtain ⟨x38, ex38, hs⟩ := bi_inv hs
            refine hv_gR (C := RX10) (T := TX10) (N := 3) (ci := 10) hx hb hts inX10 hown hk hr rfl 2 (by decide) (hts _ tw_867) ex38 dX11_divideLong_197 ?_
            refine lv_iload hx hb dX11_divideLong_200 (lv_at hl 7 rfl) ?_
            refine lv_iload hx hb dX11_divideLong_202 (lv_at hl 4 rfl) ?_
            refine lv_iadd hx hb dX11_divideLong_204 ?_
            refine lv_iconst (v := 2) hx hb dX11_divideLong_205 (by decide) ?_
            refine lv_isub hx hb dX11_divideLong_206 ?_
            obtain ⟨x39, ex39, hs⟩ := bi_inv hs
            refine hv_aI hx hb hk hr ex39 dX11_divideLong_207 ?_
            refine lv_i2l hx hb dX11_divideLong_208 rfl ?_
            refine lv_lor hx hb dX11_divideLong_209 ?_
            refine hv_lc_le (tgt := 239) hx hb dX11_divideLong_210 dX11_divideLong_211 (by decide) (fun c40 => ?_) (fun c40 => ?_)
            · rw [if_pos c40] at hs
              obtain rfl := Option.some.inj hs
              exact hexit _ rfl H locs ls hr hS (lv_sub hl [0, 1, 2, 3, 4, 5, 6, 7, 8] rfl)
            · rw [if_neg c40] at hs
              refine lv_lload hx hb dX11_divideLong_214 (lv_at hl 8 rfl) ?_
              refine lv_lconst (v := 1) hx hb dX11_divideLong_216 (by decide) ?_
              refine lv_lsub hx hb dX11_divideLong_217 ?_
              refine lv_topl (fun x41 ex41 => ?_)
              replace hs := lt_inv hs x41 ex41
              refine lv_lstore (lv' := [(12, .long x41), (0, .ref u0), (3, .int x5), (4, .ref x7.1), (5, .ref x9.1), (6, .int x10), (7, .int x11), (8, .ref x19.1), (9, .int w9), (14, .long w14)]) hx hb dX11_divideLong_218 hl (by decide) rfl (fun ls hl => ?_)
              refine lv_lload hx hb dX11_divideLong_220 (lv_at hl 9 rfl) ?_
              refine lv_aload hx hb dX11_divideLong_222 (lv_at hl 3 rfl) ?_
              obtain ⟨x42, ex42, hs⟩ := bi_inv hs
              refine hv_gR (C := RX10) (T := TX10) (N := 3) (ci := 10) hx hb hts inX10 hown hk hr rfl 2 (by decide) (hts _ tw_867) ex42 dX11_divideLong_224 ?_
              refine lv_iload hx hb dX11_divideLong_227 (lv_at hl 5 rfl) ?_
              refine lv_iconst (v := 1) hx hb dX11_divideLong_229 (by decide) ?_
              refine lv_isub hx hb dX11_divideLong_230 ?_
              obtain ⟨x43, ex43, hs⟩ := bi_inv hs
              refine hv_aI hx hb hk hr ex43 dX11_divideLong_231 ?_
              refine lv_i2l hx hb dX11_divideLong_232 rfl ?_
              refine lv_ladd hx hb dX11_divideLong_233 ?_
              refine lv_topl (fun x44 ex44 => ?_)
              replace hs := lt_inv hs x44 ex44
              refine lv_lstore (lv' := [(14, .long x44), (12, .long x41), (0, .ref u0), (3, .int x5), (4, .ref x7.1), (5, .ref x9.1), (6, .int x10), (7, .int x11), (8, .ref x19.1), (9, .int w9)]) hx hb dX11_divideLong_234 hl (by decide) rfl (fun ls hl => ?_)
              refine lv_goto (tgt := 167) hx hb dX11_divideLong_236 (by decide) ?_
              obtain rfl := Option.some.inj hs
              exact hcont _ rfl H locs ls hr hS (lv_sub hl [2, 3, 4, 5, 6, 7, 8, 9, 1, 0] rfl)
        · intro H locs ls hr hS hl
          refine lv_lconst (v := 0) hx hb dX11_divideLong_239 (by decide) ?_
          refine lv_lstore (lv' := [(16, .long ((0 : Int64))), (0, .ref u0), (3, .int x5), (4, .ref x7.1), (5, .ref x9.1), (6, .int x10), (7, .int x11), (8, .ref x19.1), (9, .int w9), (12, .long r45)]) hx hb dX11_divideLong_240 hl (by decide) rfl (fun ls hl => ?_)
          refine lv_iconst (v := 0) hx hb dX11_divideLong_242 (by decide) ?_
          refine lv_istore (lv' := [(18, .int ((0 : Int32))), (16, .long ((0 : Int64))), (0, .ref u0), (3, .int x5), (4, .ref x7.1), (5, .ref x9.1), (6, .int x10), (7, .int x11), (8, .ref x19.1), (9, .int w9), (12, .long r45)]) hx hb dX11_divideLong_243 hl (by decide) rfl (fun ls hl => ?_)
          obtain ⟨r58, er58, hs⟩ := bi_inv hs
          refine iter_W (fun (q : AH × Int64 × Int32) => ∀ (H : Heap) (locs : List Loc) (ls : Array Slot), hR D z q.1 H → va_S (hA z) s.heap H locs → lv_has ls 21 [(0, .ref u0), (3, .int x5), (4, .ref x7.1), (5, .ref x9.1), (6, .int x10), (7, .int x11), (8, .ref x19.1), (9, .int w9), (12, .long r45), (16, .long q.2.1), (18, .int q.2.2)] → W p l e ({ frames := 2, cells := 0, slots := 0, locals := 48 } : Room) s m ([.ref u0, .ref u1, .ref u2] : List Value).toArray below meth c H locs 0 0 (MQ below (hQ D z h' none) ([.ref u0, .ref u1, .ref u2] : List Value).toArray s 0 0 (hA z)) (F0 m 245 ls [])) (fun (x : (AH × Int64)) => ∀ (H : Heap) (locs : List Loc) (ls : Array Slot), hR D z x.1 H → va_S (hA z) s.heap H locs → lv_has ls 21 [(0, .ref u0), (3, .int x5), (4, .ref x7.1), (5, .ref x9.1), (6, .int x10), (7, .int x11), (8, .ref x19.1), (9, .int w9), (12, .long r45), (16, .long x.2)] → W p l e ({ frames := 2, cells := 0, slots := 0, locals := 48 } : Room) s m ([.ref u0, .ref u1, .ref u2] : List Value).toArray below meth c H locs 0 0 (MQ below (hQ D z h' none) ([.ref u0, .ref u1, .ref u2] : List Value).toArray s 0 0 (hA z)) (F0 m 325 ls [])) ?_ FU _ r58 er58 ?_ H locs ls hr hS (lv_sub hl [2, 3, 4, 5, 6, 7, 8, 9, 10, 1, 0] rfl)
          · intro q o hs hcont hexit
            obtain ⟨g46, w16, w18⟩ := q
            replace hs : zb_X11_divideLong_245 u0 x5 x7.1 x9.1 x10 x11 x19.1 w9 r45 g46 w16 w18 = some o := hs
            intro H locs ls hr hS hl
            have hJ290 : ∀ (g51 : AH) (y18_290 : Int32) (t0_290 : Int64) (t1_290 : Int64) (H : Heap) (locs : List Loc) (ls : Array Slot), zj_X11_divideLong_290 u0 x5 x7.1 x9.1 x10 x11 x19.1 w9 r45 g51 y18_290 t0_290 t1_290 = some o → hR D z g51 H → va_S (hA z) s.heap H locs → lv_has ls 21 [(0, .ref u0), (3, .int x5), (4, .ref x7.1), (5, .ref x9.1), (6, .int x10), (7, .int x11), (8, .ref x19.1), (9, .int w9), (12, .long r45), (18, .int y18_290)] → W p l e ({ frames := 2, cells := 0, slots := 0, locals := 48 } : Room) s m ([.ref u0, .ref u1, .ref u2] : List Value).toArray below meth c H locs 0 0 (MQ below (hQ D z h' none) ([.ref u0, .ref u1, .ref u2] : List Value).toArray s 0 0 (hA z)) (F0 m 290 ls [.long t0_290, .long t1_290]) := by
              intro g51 y18_290 t0_290 t1_290 H locs ls hs hr hS hl
              unfold zj_X11_divideLong_290 at hs
              refine lv_lsub hx hb dX11_divideLong_290 ?_
              refine lv_topl (fun x52 ex52 => ?_)
              replace hs := lt_inv hs x52 ex52
              refine lv_lstore (lv' := [(19, .long x52), (0, .ref u0), (3, .int x5), (4, .ref x7.1), (5, .ref x9.1), (6, .int x10), (7, .int x11), (8, .ref x19.1), (9, .int w9), (12, .long r45), (18, .int y18_290)]) hx hb dX11_divideLong_291 hl (by decide) rfl (fun ls hl => ?_)
              refine lv_aload hx hb dX11_divideLong_293 (lv_at hl 4 rfl) ?_
              obtain ⟨x53, ex53, hs⟩ := bi_inv hs
              refine hv_gR (C := RX10) (T := TX10) (N := 3) (ci := 10) hx hb hts inX10 hown hk hr rfl 2 (by decide) (hts _ tw_867) ex53 dX11_divideLong_295 ?_
              refine lv_iload hx hb dX11_divideLong_298 (lv_at hl 8 rfl) ?_
              refine lv_iload hx hb dX11_divideLong_300 (lv_at hl 10 rfl) ?_
              refine lv_iadd hx hb dX11_divideLong_302 ?_
              refine lv_lload hx hb dX11_divideLong_303 (lv_at hl 0 rfl) ?_
              refine lv_ldc2 hx hb hown (hts _ tw_968) dX11_divideLong_305 ?_
              refine lv_land hx hb dX11_divideLong_308 ?_
              refine lv_l2i hx hb dX11_divideLong_309 rfl ?_
              obtain ⟨g54, eg54, hs⟩ := bi_inv hs
              refine hv_sI hx hb hk hr hS eg54 dX11_divideLong_310 (fun H locs hr hS => ?_)
              refine lv_lload hx hb dX11_divideLong_311 (lv_at hl 0 rfl) ?_
              refine lv_bipush (v := 16) hx hb dX11_divideLong_313 (by decide) ?_
              refine lv_lshr hx hb dX11_divideLong_315 rfl ?_
              refine lv_lneg hx hb dX11_divideLong_316 ?_
              refine lv_topl (fun x55 ex55 => ?_)
              replace hs := lt_inv hs x55 ex55
              refine lv_lstore (lv' := [(16, .long x55), (19, .long x52), (0, .ref u0), (3, .int x5), (4, .ref x7.1), (5, .ref x9.1), (6, .int x10), (7, .int x11), (8, .ref x19.1), (9, .int w9), (12, .long r45), (18, .int y18_290)]) hx hb dX11_divideLong_317 hl (by decide) rfl (fun ls hl => ?_)
              refine lv_iinc (v := y18_290 + (1 : Int32)) (lv' := [(18, .int (y18_290 + (1 : Int32))), (16, .long x55), (19, .long x52), (0, .ref u0), (3, .int x5), (4, .ref x7.1), (5, .ref x9.1), (6, .int x10), (7, .int x11), (8, .ref x19.1), (9, .int w9), (12, .long r45)]) hx hb dX11_divideLong_319 hl (k := 11) rfl (ii_v _ (by decide)) (by decide) rfl (fun ls hl => ?_)
              refine lv_goto (tgt := 245) hx hb dX11_divideLong_322 (by decide) ?_
              obtain rfl := Option.some.inj hs
              exact hcont _ rfl H locs ls hr hS (lv_sub hl [3, 4, 5, 6, 7, 8, 9, 10, 11, 1, 0] rfl)
            unfold zb_X11_divideLong_245 at hs
            refine lv_iload hx hb dX11_divideLong_245 (lv_at hl 10 rfl) ?_
            refine lv_iload hx hb dX11_divideLong_247 (lv_at hl 4 rfl) ?_
            refine lv_icmp_gt (tgt := 325) hx hb dX11_divideLong_249 (by decide) (fun c47 => ?_) (fun c47 => ?_)
            · rw [if_pos c47] at hs
              obtain rfl := Option.some.inj hs
              exact hexit _ rfl H locs ls hr hS (lv_sub hl [0, 1, 2, 3, 4, 5, 6, 7, 8, 9] rfl)
            · rw [if_neg c47] at hs
              refine lv_aload hx hb dX11_divideLong_252 (lv_at hl 3 rfl) ?_
              obtain ⟨x48, ex48, hs⟩ := bi_inv hs
              refine hv_gR (C := RX10) (T := TX10) (N := 3) (ci := 10) hx hb hts inX10 hown hk hr rfl 2 (by decide) (hts _ tw_867) ex48 dX11_divideLong_254 ?_
              refine lv_iload hx hb dX11_divideLong_257 (lv_at hl 7 rfl) ?_
              refine lv_iload hx hb dX11_divideLong_259 (lv_at hl 10 rfl) ?_
              refine lv_iadd hx hb dX11_divideLong_261 ?_
              obtain ⟨x49, ex49, hs⟩ := bi_inv hs
              refine hv_aI hx hb hk hr ex49 dX11_divideLong_262 ?_
              refine lv_i2l hx hb dX11_divideLong_263 rfl ?_
              refine lv_lload hx hb dX11_divideLong_264 (lv_at hl 9 rfl) ?_
              refine lv_lsub hx hb dX11_divideLong_266 ?_
              refine lv_iload hx hb dX11_divideLong_267 (lv_at hl 10 rfl) ?_
              refine lv_iload hx hb dX11_divideLong_269 (lv_at hl 4 rfl) ?_
              refine lv_icmp_ge (tgt := 289) hx hb dX11_divideLong_271 (by decide) (fun c50 => ?_) (fun c50 => ?_)
              · rw [if_pos c50] at hs
                refine lv_lconst (v := 0) hx hb dX11_divideLong_289 (by decide) ?_
                exact hJ290 g46 w18 ((0 : Int64)) (x49.toInt64 - w16) H locs ls hs hr hS (lv_sub hl [0, 1, 2, 3, 4, 5, 6, 7, 8, 10] rfl)
              · rw [if_neg c50] at hs
                refine lv_lload hx hb dX11_divideLong_274 (lv_at hl 8 rfl) ?_
                refine lv_aload hx hb dX11_divideLong_276 (lv_at hl 2 rfl) ?_
                obtain ⟨x56, ex56, hs⟩ := bi_inv hs
                refine hv_gR (C := RX10) (T := TX10) (N := 3) (ci := 10) hx hb hts inX10 hown hk hr rfl 2 (by decide) (hts _ tw_867) ex56 dX11_divideLong_278 ?_
                refine lv_iload hx hb dX11_divideLong_281 (lv_at hl 10 rfl) ?_
                obtain ⟨x57, ex57, hs⟩ := bi_inv hs
                refine hv_aI hx hb hk hr ex57 dX11_divideLong_283 ?_
                refine lv_i2l hx hb dX11_divideLong_284 rfl ?_
                refine lv_lmul hx hb dX11_divideLong_285 ?_
                refine lv_goto (tgt := 290) hx hb dX11_divideLong_286 (by decide) ?_
                exact hJ290 g46 w18 (r45 * x57.toInt64) (x49.toInt64 - w16) H locs ls hs hr hS (lv_sub hl [0, 1, 2, 3, 4, 5, 6, 7, 8, 10] rfl)
          · intro H locs ls hr hS hl
            refine lv_lload hx hb dX11_divideLong_325 (lv_at hl 9 rfl) ?_
            refine lv_lconst (v := 0) hx hb dX11_divideLong_327 (by decide) ?_
            refine hv_lc_eq (tgt := 416) hx hb dX11_divideLong_328 dX11_divideLong_329 (by decide) (fun c59 => ?_) (fun c59 => ?_)
            · rw [if_pos c59] at hs
              exact hJ416 r58.1 w9 r45 H locs ls hs hr hS (lv_sub hl [0, 1, 2, 3, 4, 5, 6, 7, 8] rfl)
            · rw [if_neg c59] at hs
              refine lv_lload hx hb dX11_divideLong_332 (lv_at hl 8 rfl) ?_
              refine lv_lconst (v := 1) hx hb dX11_divideLong_334 (by decide) ?_
              refine lv_lsub hx hb dX11_divideLong_335 ?_
              refine lv_topl (fun x63 ex63 => ?_)
              replace hs := lt_inv hs x63 ex63
              refine lv_lstore (lv' := [(12, .long x63), (0, .ref u0), (3, .int x5), (4, .ref x7.1), (5, .ref x9.1), (6, .int x10), (7, .int x11), (8, .ref x19.1), (9, .int w9), (16, .long r58.2)]) hx hb dX11_divideLong_336 hl (by decide) rfl (fun ls hl => ?_)
              refine lv_iconst (v := 0) hx hb dX11_divideLong_338 (by decide) ?_
              refine lv_istore (lv' := [(18, .int ((0 : Int32))), (12, .long x63), (0, .ref u0), (3, .int x5), (4, .ref x7.1), (5, .ref x9.1), (6, .int x10), (7, .int x11), (8, .ref x19.1), (9, .int w9), (16, .long r58.2)]) hx hb dX11_divideLong_339 hl (by decide) rfl (fun ls hl => ?_)
              refine lv_iconst (v := 0) hx hb dX11_divideLong_341 (by decide) ?_
              refine lv_istore (lv' := [(19, .int ((0 : Int32))), (18, .int ((0 : Int32))), (12, .long x63), (0, .ref u0), (3, .int x5), (4, .ref x7.1), (5, .ref x9.1), (6, .int x10), (7, .int x11), (8, .ref x19.1), (9, .int w9), (16, .long r58.2)]) hx hb dX11_divideLong_342 hl (by decide) rfl (fun ls hl => ?_)
              obtain ⟨r76, er76, hs⟩ := bi_inv hs
              refine iter_W (fun (q : AH × Int32 × Int32) => ∀ (H : Heap) (locs : List Loc) (ls : Array Slot), hR D z q.1 H → va_S (hA z) s.heap H locs → lv_has ls 21 [(0, .ref u0), (3, .int x5), (4, .ref x7.1), (5, .ref x9.1), (6, .int x10), (7, .int x11), (8, .ref x19.1), (9, .int w9), (12, .long x63), (18, .int q.2.1), (19, .int q.2.2)] → W p l e ({ frames := 2, cells := 0, slots := 0, locals := 48 } : Room) s m ([.ref u0, .ref u1, .ref u2] : List Value).toArray below meth c H locs 0 0 (MQ below (hQ D z h' none) ([.ref u0, .ref u1, .ref u2] : List Value).toArray s 0 0 (hA z)) (F0 m 344 ls [])) (fun (x : AH) => ∀ (H : Heap) (locs : List Loc) (ls : Array Slot), hR D z x H → va_S (hA z) s.heap H locs → lv_has ls 21 [(0, .ref u0), (3, .int x5), (4, .ref x7.1), (5, .ref x9.1), (6, .int x10), (7, .int x11), (8, .ref x19.1), (9, .int w9), (12, .long x63)] → W p l e ({ frames := 2, cells := 0, slots := 0, locals := 48 } : Room) s m ([.ref u0, .ref u1, .ref u2] : List Value).toArray below meth c H locs 0 0 (MQ below (hQ D z h' none) ([.ref u0, .ref u1, .ref u2] : List Value).toArray s 0 0 (hA z)) (F0 m 416 ls [])) ?_ FU _ r76 er76 ?_ H locs ls hr hS (lv_sub hl [3, 4, 5, 6, 7, 8, 9, 10, 2, 1, 0] rfl)
              · intro q o hs hcont hexit
                obtain ⟨g64, w18, w19⟩ := q
                replace hs : zb_X11_divideLong_344 u0 x5 x7.1 x9.1 x10 x11 x19.1 w9 x63 g64 w18 w19 = some o := hs
                intro H locs ls hr hS hl
                have hJ384 : ∀ (g69 : AH) (y19_384 : Int32) (t0_384 : Int32) (t1_384 : Int32) (H : Heap) (locs : List Loc) (ls : Array Slot), zj_X11_divideLong_384 u0 x5 x7.1 x9.1 x10 x11 x19.1 w9 x63 g69 y19_384 t0_384 t1_384 = some o → hR D z g69 H → va_S (hA z) s.heap H locs → lv_has ls 21 [(0, .ref u0), (3, .int x5), (4, .ref x7.1), (5, .ref x9.1), (6, .int x10), (7, .int x11), (8, .ref x19.1), (9, .int w9), (12, .long x63), (19, .int y19_384)] → W p l e ({ frames := 2, cells := 0, slots := 0, locals := 48 } : Room) s m ([.ref u0, .ref u1, .ref u2] : List Value).toArray below meth c H locs 0 0 (MQ below (hQ D z h' none) ([.ref u0, .ref u1, .ref u2] : List Value).toArray s 0 0 (hA z)) (F0 m 384 ls [.int t0_384, .int t1_384]) := by
                  intro g69 y19_384 t0_384 t1_384 H locs ls hs hr hS hl
                  unfold zj_X11_divideLong_384 at hs
                  refine lv_iadd hx hb dX11_divideLong_384 ?_
                  refine lv_topi (fun x70 ex70 => ?_)
                  replace hs := lt_inv hs x70 ex70
                  refine lv_istore (lv' := [(20, .int x70), (0, .ref u0), (3, .int x5), (4, .ref x7.1), (5, .ref x9.1), (6, .int x10), (7, .int x11), (8, .ref x19.1), (9, .int w9), (12, .long x63), (19, .int y19_384)]) hx hb dX11_divideLong_385 hl (by decide) rfl (fun ls hl => ?_)
                  refine lv_aload hx hb dX11_divideLong_387 (lv_at hl 4 rfl) ?_
                  obtain ⟨x71, ex71, hs⟩ := bi_inv hs
                  refine hv_gR (C := RX10) (T := TX10) (N := 3) (ci := 10) hx hb hts inX10 hown hk hr rfl 2 (by decide) (hts _ tw_867) ex71 dX11_divideLong_389 ?_
                  refine lv_iload hx hb dX11_divideLong_392 (lv_at hl 8 rfl) ?_
                  refine lv_iload hx hb dX11_divideLong_394 (lv_at hl 10 rfl) ?_
                  refine lv_iadd hx hb dX11_divideLong_396 ?_
                  refine lv_iload hx hb dX11_divideLong_397 (lv_at hl 0 rfl) ?_
                  refine lv_ldc hx hb hown (hts _ tw_1026) dX11_divideLong_399 ?_
                  refine lv_iand hx hb dX11_divideLong_401 ?_
                  obtain ⟨g72, eg72, hs⟩ := bi_inv hs
                  refine hv_sI hx hb hk hr hS eg72 dX11_divideLong_402 (fun H locs hr hS => ?_)
                  refine lv_iload hx hb dX11_divideLong_403 (lv_at hl 0 rfl) ?_
                  refine lv_bipush (v := 16) hx hb dX11_divideLong_405 (by decide) ?_
                  refine lv_ishr hx hb dX11_divideLong_407 ?_
                  refine lv_topi (fun x73 ex73 => ?_)
                  replace hs := lt_inv hs x73 ex73
                  refine lv_istore (lv' := [(18, .int x73), (20, .int x70), (0, .ref u0), (3, .int x5), (4, .ref x7.1), (5, .ref x9.1), (6, .int x10), (7, .int x11), (8, .ref x19.1), (9, .int w9), (12, .long x63), (19, .int y19_384)]) hx hb dX11_divideLong_408 hl (by decide) rfl (fun ls hl => ?_)
                  refine lv_iinc (v := y19_384 + (1 : Int32)) (lv' := [(19, .int (y19_384 + (1 : Int32))), (18, .int x73), (20, .int x70), (0, .ref u0), (3, .int x5), (4, .ref x7.1), (5, .ref x9.1), (6, .int x10), (7, .int x11), (8, .ref x19.1), (9, .int w9), (12, .long x63)]) hx hb dX11_divideLong_410 hl (k := 11) rfl (ii_v _ (by decide)) (by decide) rfl (fun ls hl => ?_)
                  refine lv_goto (tgt := 344) hx hb dX11_divideLong_413 (by decide) ?_
                  obtain rfl := Option.some.inj hs
                  exact hcont _ rfl H locs ls hr hS (lv_sub hl [3, 4, 5, 6, 7, 8, 9, 10, 11, 1, 0] rfl)
                unfold zb_X11_divideLong_344 at hs
                refine lv_iload hx hb dX11_divideLong_344 (lv_at hl 10 rfl) ?_
                refine lv_iload hx hb dX11_divideLong_346 (lv_at hl 4 rfl) ?_
                refine lv_icmp_gt (tgt := 416) hx hb dX11_divideLong_348 (by decide) (fun c65 => ?_) (fun c65 => ?_)
                · rw [if_pos c65] at hs
                  obtain rfl := Option.some.inj hs
                  exact hexit _ rfl H locs ls hr hS (lv_sub hl [0, 1, 2, 3, 4, 5, 6, 7, 8] rfl)
                · rw [if_neg c65] at hs
                  refine lv_aload hx hb dX11_divideLong_351 (lv_at hl 3 rfl) ?_
                  obtain ⟨x66, ex66, hs⟩ := bi_inv hs
                  refine hv_gR (C := RX10) (T := TX10) (N := 3) (ci := 10) hx hb hts inX10 hown hk hr rfl 2 (by decide) (hts _ tw_867) ex66 dX11_divideLong_353 ?_
                  refine lv_iload hx hb dX11_divideLong_356 (lv_at hl 7 rfl) ?_
                  refine lv_iload hx hb dX11_divideLong_358 (lv_at hl 10 rfl) ?_
                  refine lv_iadd hx hb dX11_divideLong_360 ?_
                  obtain ⟨x67, ex67, hs⟩ := bi_inv hs
                  refine hv_aI hx hb hk hr ex67 dX11_divideLong_361 ?_
                  refine lv_iload hx hb dX11_divideLong_362 (lv_at hl 9 rfl) ?_
                  refine lv_iadd hx hb dX11_divideLong_364 ?_
                  refine lv_iload hx hb dX11_divideLong_365 (lv_at hl 10 rfl) ?_
                  refine lv_iload hx hb dX11_divideLong_367 (lv_at hl 4 rfl) ?_
                  refine lv_icmp_ge (tgt := 383) hx hb dX11_divideLong_369 (by decide) (fun c68 => ?_) (fun c68 => ?_)
                  · rw [if_pos c68] at hs
                    refine lv_iconst (v := 0) hx hb dX11_divideLong_383 (by decide) ?_
                    exact hJ384 g64 w19 ((0 : Int32)) (x67 + w18) H locs ls hs hr hS (lv_sub hl [0, 1, 2, 3, 4, 5, 6, 7, 8, 10] rfl)
                  · rw [if_neg c68] at hs
                    refine lv_aload hx hb dX11_divideLong_372 (lv_at hl 2 rfl) ?_
                    obtain ⟨x74, ex74, hs⟩ := bi_inv hs
                    refine hv_gR (C := RX10) (T := TX10) (N := 3) (ci := 10) hx hb hts inX10 hown hk hr rfl 2 (by decide) (hts _ tw_867) ex74 dX11_divideLong_374 ?_
                    refine lv_iload hx hb dX11_divideLong_377 (lv_at hl 10 rfl) ?_
                    obtain ⟨x75, ex75, hs⟩ := bi_inv hs
                    refine hv_aI hx hb hk hr ex75 dX11_divideLong_379 ?_
                    refine lv_goto (tgt := 384) hx hb dX11_divideLong_380 (by decide) ?_
                    exact hJ384 g64 w19 x75 (x67 + w18) H locs ls hs hr hS (lv_sub hl [0, 1, 2, 3, 4, 5, 6, 7, 8, 10] rfl)
              · intro H locs ls hr hS hl
                exact hJ416 r76 w9 x63 H locs ls hs hr hS (lv_sub hl [0, 1, 2, 3, 4, 5, 6, 7, 8] rfl)
    · intro H locs ls hr hS hl
      refine lv_aload_n hx hb dX11_divideLong_433 rfl (lv_at hl 0 rfl) ?_
      refine lv_aload hx hb dX11_divideLong_434 (lv_at hl 5 rfl) ?_
      refine lv_iconst (v := 0) hx hb dX11_divideLong_436 (by decide) ?_
      refine lv_iload hx hb dX11_divideLong_437 (lv_at hl 4 rfl) ?_
      refine lv_iload hx hb dX11_divideLong_439 (lv_at hl 3 rfl) ?_
      refine lv_isub hx hb dX11_divideLong_441 ?_
      refine lv_iconst (v := 1) hx hb dX11_divideLong_442 (by decide) ?_
      refine lv_iadd hx hb dX11_divideLong_443 ?_
      obtain ⟨_, ex78, hs⟩ := bi_inv hs
      obtain ⟨x79, ex79, hs⟩ := bi_inv hs
      refine hv_V1 (n := 2) [.int ((0 : Int32)), .int ((x11 - x10) + ((1 : Int32)))] [.ref u0] hx hb hml hown hts hk hr hz hS (zm_X10_of l D z ex79) ex78 rfl tw_969 tw_970 tw_971 tw_12 tw_972 (by decide +kernel) (by decide) ⟨(Nat.zero_le _), (Nat.zero_le _)⟩ rfl hl.1 (Nat.le_of_ble_eq_true rfl) dX11_divideLong_444 rfl (fun H locs hr hS => ?_)
      obtain ⟨g80, eg80, hs⟩ := bi_inv hs
      refine hv_pV (C := RX11) (T := TX11) (N := 23) (ci := 11) hx hb hts inX11 tyX11 tyX11_ok nmX11 hown hk hr hS rfl 5 (by decide) (hts _ tw_887) rfl rfl rfl eg80 dX11_divideLong_447 (fun H locs hr hS => ?_)
      refine lv_aload_n hx hb dX11_divideLong_450 rfl (lv_at hl 0 rfl) ?_
      refine lv_aload_n hx hb dX11_divideLong_451 rfl (lv_at hl 0 rfl) ?_
      refine lv_aload hx hb dX11_divideLong_452 (lv_at hl 2 rfl) ?_
      refine lv_iconst (v := 0) hx hb dX11_divideLong_454 (by decide) ?_
      refine lv_iload hx hb dX11_divideLong_455 (lv_at hl 4 rfl) ?_
      refine lv_iconst (v := 1) hx hb dX11_divideLong_457 (by decide) ?_
      refine lv_iadd hx hb dX11_divideLong_458 ?_
      obtain ⟨_, ex81, hs⟩ := bi_inv hs
      obtain ⟨x82, ex82, hs⟩ := bi_inv hs
      refine hv_V1 (n := 2) [.int ((0 : Int32)), .int (x11 + ((1 : Int32)))] [.ref u0, .ref u0] hx hb hml hown hts hk hr hz hS (zm_X10_of l D z ex82) ex81 rfl tw_969 tw_970 tw_971 tw_12 tw_972 (by decide +kernel) (by decide) ⟨(Nat.zero_le _), (Nat.zero_le _)⟩ rfl hl.1 (Nat.le_of_ble_eq_true rfl) dX11_divideLong_459 rfl (fun H locs hr hS => ?_)
      refine lv_iload_n hx hb dX11_divideLong_462 rfl (lv_at hl 1 rfl) ?_
      refine lv_ineg hx hb dX11_divideLong_463 ?_
      obtain ⟨_, ex83, hs⟩ := bi_inv hs
      obtain ⟨x84, ex84, hs⟩ := bi_inv hs
      refine hv_V1 (n := 2) [.ref x82.1, .int (-x5)] [.ref u0] hx hb hml hown hts hk hr hz hS (zm_X11_moved l D z ex84) ex83 rfl tw_1049 tw_1051 ts_34 tw_11 tw_1052 (by decide +kernel) (by decide) ⟨(Nat.zero_le _), (Nat.zero_le _)⟩ rfl hl.1 (Nat.le_of_ble_eq_true rfl) dX11_divideLong_464 rfl (fun H locs hr hS => ?_)
      obtain ⟨g85, eg85, hs⟩ := bi_inv hs
      refine hv_pV (C := RX11) (T := TX11) (N := 23) (ci := 11) hx hb hts inX11 tyX11 tyX11_ok nmX11 hown hk hr hS rfl 6 (by decide) (hts _ tw_888) rfl rfl rfl eg85 dX11_divideLong_467 (fun H locs hr hS => ?_)
      obtain rfl := Option.some.inj hs
      exact hv_vret hx hb hrt hlk hr hS dX11_divideLong_470
theorem dX11_of_0 : decode cX11_of 0 = .ok (.aload_n 0, 1) := by decide +kernel
theorem dX11_of_1 : decode cX11_of 1 = .ok (.invokevirtual 14, 3) := by decide +kernel
theorem dX11_of_4 : decode cX11_of 4 = .ok (.astore_n 3, 1) := by decide +kernel
theorem dX11_of_5 : decode cX11_of 5 = .ok (.lload_n 1, 1) := by decide +kernel
theorem dX11_of_6 : decode cX11_of 6 = .ok (.lconst 0, 1) := by decide +kernel
theorem dX11_of_7 : decode cX11_of 7 = .ok (.lcmp, 1) := by decide +kernel
theorem dX11_of_8 : decode cX11_of 8 = .ok (.ifCond .ge 8, 3) := by decide +kernel
theorem dX11_of_11 : decode cX11_of 11 = .ok (.lload_n 1, 1) := by decide +kernel
theorem dX11_of_12 : decode cX11_of 12 = .ok (.lneg, 1) := by decide +kernel
theorem dX11_of_13 : decode cX11_of 13 = .ok (.goto 4, 3) := by decide +kernel
theorem dX11_of_16 : decode cX11_of 16 = .ok (.lload_n 1, 1) := by decide +kernel
theorem dX11_of_17 : decode cX11_of 17 = .ok (.lstore 4, 2) := by decide +kernel
theorem dX11_of_19 : decode cX11_of 19 = .ok (.iconst 0, 1) := by decide +kernel
theorem dX11_of_20 : decode cX11_of 20 = .ok (.istore 6, 2) := by decide +kernel
theorem dX11_of_22 : decode cX11_of 22 = .ok (.iload 6, 2) := by decide +kernel
theorem dX11_of_24 : decode cX11_of 24 = .ok (.iconst 4, 1) := by decide +kernel
theorem dX11_of_25 : decode cX11_of 25 = .ok (.if_icmp .ge 29, 3) := by decide +kernel
theorem dX11_of_28 : decode cX11_of 28 = .ok (.aload_n 3, 1) := by decide +kernel
theorem dX11_of_29 : decode cX11_of 29 = .ok (.getfield 18, 3) := by decide +kernel
theorem dX11_of_32 : decode cX11_of 32 = .ok (.iload 6, 2) := by decide +kernel
theorem dX11_of_34 : decode cX11_of 34 = .ok (.lload 4, 2) := by decide +kernel
theorem dX11_of_36 : decode cX11_of 36 = .ok (.bipush 16, 2) := by decide +kernel
theorem dX11_of_38 : decode cX11_of 38 = .ok (.iload 6, 2) := by decide +kernel
theorem dX11_of_40 : decode cX11_of 40 = .ok (.imul, 1) := by decide +kernel
theorem dX11_of_41 : decode cX11_of 41 = .ok (.lushr, 1) := by decide +kernel
theorem dX11_of_42 : decode cX11_of 42 = .ok (.ldc2_w 24, 3) := by decide +kernel
theorem dX11_of_45 : decode cX11_of 45 = .ok (.land, 1) := by decide +kernel
theorem dX11_of_46 : decode cX11_of 46 = .ok (.l2i, 1) := by decide +kernel
theorem dX11_of_47 : decode cX11_of 47 = .ok (.iastore, 1) := by decide +kernel
theorem dX11_of_48 : decode cX11_of 48 = .ok (.iinc 6 1, 3) := by decide +kernel
theorem dX11_of_51 : decode cX11_of 51 = .ok (.goto (-29), 3) := by decide +kernel
theorem dX11_of_54 : decode cX11_of 54 = .ok (.aload_n 3, 1) := by decide +kernel
theorem dX11_of_55 : decode cX11_of 55 = .ok (.lload_n 1, 1) := by decide +kernel
theorem dX11_of_56 : decode cX11_of 56 = .ok (.lconst 0, 1) := by decide +kernel
theorem dX11_of_57 : decode cX11_of 57 = .ok (.lcmp, 1) := by decide +kernel
theorem dX11_of_58 : decode cX11_of 58 = .ok (.ifCond .ge 7, 3) := by decide +kernel
theorem dX11_of_61 : decode cX11_of 61 = .ok (.iconst 1, 1) := by decide +kernel
theorem dX11_of_62 : decode cX11_of 62 = .ok (.goto 4, 3) := by decide +kernel
theorem dX11_of_65 : decode cX11_of 65 = .ok (.iconst 0, 1) := by decide +kernel
theorem dX11_of_66 : decode cX11_of 66 = .ok (.iconst 4, 1) := by decide +kernel
theorem dX11_of_67 : decode cX11_of 67 = .ok (.invokevirtual 26, 3) := by decide +kernel
theorem dX11_of_70 : decode cX11_of 70 = .ok (.areturn, 1) := by decide +kernel
def zb_X11_of_22 (w1 : Int64) (w3 : Nat) (w4 : Int64) (g5 : AH) (w6 : Int32) : Option ((AH × Int32) ⊕ (AH)) :=
  (if (4 : Int32) ≤ w6 then some (Sum.inr g5) else (gR g5 w3 10 2).bind fun x7 => (sI g5 x7 0 w6 ((((w4.toUInt64 >>> ((((16 : Int32)) * w6).toInt64.toUInt64 &&& Int64.toUInt64 63)).toInt64) &&& ((65535 : Int64))).toInt32)).bind fun g8 => some (Sum.inl ((g8, w6 + (1 : Int32)))))
def zj_X11_of_66 (g11 : AH) (t0_66 : Int32) (t1_66 : Nat) : Option (Nat × AH) :=
  (chk g11 t1_66 10).bind fun _ => (zs_X10_of g11 t1_66 t0_66 ((4 : Int32))).bind fun x13 => some (x13.1, x13.2)
def zj_X11_of_17 (g4 : AH) (y1_17 : Int64) (y3_17 : Nat) (t0_17 : Int64) : Option (Nat × AH) :=
  (iter (fun q : AH × Int32 => zb_X11_of_22 y1_17 y3_17 t0_17 q.1 q.2) FU ((g4, (0 : Int32)))).bind fun r9 => (if (0 : Int64) ≤ y1_17 then zj_X11_of_66 r9 ((0 : Int32)) y3_17 else zj_X11_of_66 r9 ((1 : Int32)) y3_17)
def zs_X11_of (h : AH) (u0 : Nat) (u1 : Int64) : Option (Nat × AH) :=
  (chk h u0 11).bind fun _ => (zs_X11_take h u0).bind fun x2 => (if (0 : Int64) ≤ u1 then zj_X11_of_17 x2.2 u1 x2.1 u1 else zj_X11_of_17 x2.2 u1 x2.1 (-u1))
set_option maxRecDepth 100000 in
set_option maxHeartbeats 4000000 in
theorem zm_X11_of (l : Launch) (D : hG) (z : Nat) {h : AH} {u0 : Nat} {u1 : Int64} {r : Nat} {h' : AH} (hs : zs_X11_of h u0 u1 = some (r, h')) : hC l D z yX11_of cX11_of 7 (Option.some (Jvm.ClassFile.FieldType.object "WideWholesModel$Whole")) 1 22 0 0 [.ref u0, .long u1] h h' (some (.ref r)) := by
  refine hC_of (by decide) (Nat.le_of_ble_eq_true rfl) ?_
  intro p e s m below meth c hx hb hml hrt hlk hown hnm hts hk hr hz ls hl
  replace hown : s.vm.findClass RX11 = some m.cls := hown
  replace hl : lv_has ls 7 [(0, .ref u0), (1, .long u1)] := hl
  have hS : va_S (hA z) s.heap s.heap [] := va_S.rf
  suffices hgo : ∀ (H : Heap) (locs : List Loc), hR D z h H → va_S (hA z) s.heap H locs → W p l e ({ frames := 1, cells := 0, slots := 0, locals := 22 } : Room) s m ([.ref u0, .long u1] : List Value).toArray below meth c H locs 0 0 (MQ below (hQ D z h' (some (.ref r))) ([.ref u0, .long u1] : List Value).toArray s 0 0 (hA z)) (F0 m 0 ls []) from hgo _ _ hr hS
  clear hr hS
  intro H locs hr hS
  have hJ66 : ∀ (g11 : AH) (t0_66 : Int32) (t1_66 : Nat) (H : Heap) (locs : List Loc) (ls : Array Slot), zj_X11_of_66 g11 t0_66 t1_66 = some (r, h') → hR D z g11 H → va_S (hA z) s.heap H locs → lv_has ls 7 [] → W p l e ({ frames := 1, cells := 0, slots := 0, locals := 22 } : Room) s m ([.ref u0, .long u1] : List Value).toArray below meth c H locs 0 0 (MQ below (hQ D z h' (some (.ref r))) ([.ref u0, .long u1] : List Value).toArray s 0 0 (hA z)) (F0 m 66 ls [.int t0_66, .ref t1_66]) := by
    intro g11 t0_66 t1_66 H locs ls hs hr hS hl
    unfold zj_X11_of_66 at hs
    refine lv_iconst (v := 4) hx hb dX11_of_66 (by decide) ?_
    obtain ⟨_, ex12, hs⟩ := bi_inv hs
    obtain ⟨x13, ex13, hs⟩ := bi_inv hs
    refine hv_V1 (n := 2) [.int t0_66, .int ((4 : Int32))] [] hx hb hml hown hts hk hr hz hS (zm_X10_of l D z ex13) ex12 rfl tw_969 tw_970 tw_971 tw_12 tw_972 (by decide +kernel) (by decide) ⟨(Nat.zero_le _), (Nat.zero_le _)⟩ rfl hl.1 (Nat.le_of_ble_eq_true rfl) dX11_of_67 rfl (fun H locs hr hS => ?_)
    obtain ⟨rfl, rfl⟩ := Prod.mk.inj (Option.some.inj hs)
    exact hv_aret hx hb hrt (by first | exact Or.inl ⟨_, rfl⟩ | exact Or.inr ⟨_, rfl⟩) hlk hr hS dX11_of_70
  have hJ17 : ∀ (g4 : AH) (y1_17 : Int64) (y3_17 : Nat) (t0_17 : Int64) (H : Heap) (locs : List Loc) (ls : Array Slot), zj_X11_of_17 g4 y1_17 y3_17 t0_17 = some (r, h') → hR D z g4 H → va_S (hA z) s.heap H locs → lv_has ls 7 [(1, .long y1_17), (3, .ref y3_17)] → W p l e ({ frames := 1, cells := 0, slots := 0, locals := 22 } : Room) s m ([.ref u0, .long u1] : List Value).toArray below meth c H locs 0 0 (MQ below (hQ D z h' (some (.ref r))) ([.ref u0, .long u1] : List Value).toArray s 0 0 (hA z)) (F0 m 17 ls [.long t0_17]) := by
    intro g4 y1_17 y3_17 t0_17 H locs ls hs hr hS hl
    unfold zj_X11_of_17 at hs
    refine lv_lstore (lv' := [(4, .long t0_17), (1, .long y1_17), (3, .ref y3_17)]) hx hb dX11_of_17 hl (by decide) rfl (fun ls hl => ?_)
    refine lv_iconst (v := 0) hx hb dX11_of_19 (by decide) ?_
    refine lv_istore (lv' := [(6, .int ((0 : Int32))), (4, .long t0_17), (1, .long y1_17), (3, .ref y3_17)]) hx hb dX11_of_20 hl (by decide) rfl (fun ls hl => ?_)
    obtain ⟨r9, er9, hs⟩ := bi_inv hs
    refine iter_W (fun (q : AH × Int32) => ∀ (H : Heap) (locs : List Loc) (ls : Array Slot), hR D z q.1 H → va_S (hA z) s.heap H locs → lv_has ls 7 [(1, .long y1_17), (3, .ref y3_17), (4, .long t0_17), (6, .int q.2)] → W p l e ({ frames := 1, cells := 0, slots := 0, locals := 22 } : Room) s m ([.ref u0, .long u1] : List Value).toArray below meth c H locs 0 0 (MQ below (hQ D z h' (some (.ref r))) ([.ref u0, .long u1] : List Value).toArray s 0 0 (hA z)) (F0 m 22 ls [])) (fun (x : AH) => ∀ (H : Heap) (locs : List Loc) (ls : Array Slot), hR D z x H → va_S (hA z) s.heap H locs → lv_has ls 7 [(1, .long y1_17), (3, .ref y3_17)] → W p l e ({ frames := 1, cells := 0, slots := 0, locals := 22 } : Room) s m ([.ref u0, .long u1] : List Value).toArray below meth c H locs 0 0 (MQ below (hQ D z h' (some (.ref r))) ([.ref u0, .long u1] : List Value).toArray s 0 0 (hA z)) (F0 m 54 ls [])) ?_ FU _ r9 er9 ?_ H locs ls hr hS (lv_sub hl [2, 3, 1, 0] rfl)
    · intro q o hs hcont hexit
      obtain ⟨g5, w6⟩ := q
      replace hs : zb_X11_of_22 y1_17 y3_17 t0_17 g5 w6 = some o := hs
      intro H locs ls hr hS hl
      unfold zb_X11_of_22 at hs
      refine lv_iload hx hb dX11_of_22 (lv_at hl 3 rfl) ?_
      refine lv_iconst (v := 4) hx hb dX11_of_24 (by decide) ?_
      refine lv_icmp_ge (tgt := 54) hx hb dX11_of_25 (by decide) (fun c6 => ?_) (fun c6 => ?_)
      · rw [if_pos c6] at hs
        obtain rfl := Option.some.inj hs
        exact hexit _ rfl H locs ls hr hS (lv_sub hl [0, 1] rfl)
      · rw [if_neg c6] at hs
        refine lv_aload_n hx hb dX11_of_28 rfl (lv_at hl 1 rfl) ?_
        obtain ⟨x7, ex7, hs⟩ := bi_inv hs
        refine hv_gR (C := RX10) (T := TX10) (N := 3) (ci := 10) hx hb hts inX10 hown hk hr rfl 2 (by decide) (hts _ tw_867) ex7 dX11_of_29 ?_
        refine lv_iload hx hb dX11_of_32 (lv_at hl 3 rfl) ?_
        refine lv_lload hx hb dX11_of_34 (lv_at hl 2 rfl) ?_
        refine lv_bipush (v := 16) hx hb dX11_of_36 (by decide) ?_
        refine lv_iload hx hb dX11_of_38 (lv_at hl 3 rfl) ?_
        refine lv_imul hx hb dX11_of_40 ?_
        refine lv_lushr hx hb dX11_of_41 rfl ?_
        refine lv_ldc2 hx hb hown (hts _ tw_968) dX11_of_42 ?_
        refine lv_land hx hb dX11_of_45 ?_
        refine lv_l2i hx hb dX11_of_46 rfl ?_
        obtain ⟨g8, eg8, hs⟩ := bi_inv hs
        refine hv_sI hx hb hk hr hS eg8 dX11_of_47 (fun H locs hr hS => ?_)
        refine lv_iinc (v := w6 + (1 : Int32)) (lv' := [(6, .int (w6 + (1 : Int32))), (1, .long y1_17), (3, .ref y3_17), (4, .long t0_17)]) hx hb dX11_of_48 hl (k := 3) rfl (ii_v _ (by decide)) (by decide) rfl (fun ls hl => ?_)
        refine lv_goto (tgt := 22) hx hb dX11_of_51 (by decide) ?_
        obtain rfl := Option.some.inj hs
        exact hcont _ rfl H locs ls hr hS (lv_sub hl [1, 2, 3, 0] rfl)
    · intro H locs ls hr hS hl
      refine lv_aload_n hx hb dX11_of_54 rfl (lv_at hl 1 rfl) ?_
      refine lv_lload_n hx hb dX11_of_55 rfl (lv_at hl 0 rfl) ?_
      refine lv_lconst (v := 0) hx hb dX11_of_56 (by decide) ?_
      refine hv_lc_ge (tgt := 65) hx hb dX11_of_57 dX11_of_58 (by decide) (fun c10 => ?_) (fun c10 => ?_)
      · rw [if_pos c10] at hs
        refine lv_iconst (v := 0) hx hb dX11_of_65 (by decide) ?_
        exact hJ66 r9 ((0 : Int32)) y3_17 H locs ls hs hr hS (lv_sub hl [] rfl)
      · rw [if_neg c10] at hs
        refine lv_iconst (v := 1) hx hb dX11_of_61 (by decide) ?_
        refine lv_goto (tgt := 66) hx hb dX11_of_62 (by decide) ?_
        exact hJ66 r9 ((1 : Int32)) y3_17 H locs ls hs hr hS (lv_sub hl [] rfl)
  unfold zs_X11_of at hs
  refine lv_aload_n hx hb dX11_of_0 rfl (lv_at hl 0 rfl) ?_
  obtain ⟨_, ex1, hs⟩ := bi_inv hs
  obtain ⟨x2, ex2, hs⟩ := bi_inv hs
  refine hv_V1 (n := 0) [] [] hx hb hml hown hts hk hr hz hS (zm_X11_take l D z ex2) ex1 rfl tw_964 tw_966 ts_23 tw_11 tw_967 (by decide +kernel) (by decide) ⟨(Nat.zero_le _), (Nat.zero_le _)⟩ rfl hl.1 (Nat.le_of_ble_eq_true rfl) dX11_of_1 rfl (fun H locs hr hS => ?_)
  refine lv_astore_n (lv' := [(3, .ref x2.1), (0, .ref u0), (1, .long u1)]) hx hb dX11_of_4 rfl hl (by decide) rfl (fun ls hl => ?_)
  refine lv_lload_n hx hb dX11_of_5 rfl (lv_at hl 2 rfl) ?_
  refine lv_lconst (v := 0) hx hb dX11_of_6 (by decide) ?_
  refine hv_lc_ge (tgt := 16) hx hb dX11_of_7 dX11_of_8 (by decide) (fun c3 => ?_) (fun c3 => ?_)
  · rw [if_pos c3] at hs
    refine lv_lload_n hx hb dX11_of_16 rfl (lv_at hl 2 rfl) ?_
    exact hJ17 x2.2 u1 x2.1 u1 H locs ls hs hr hS (lv_sub hl [2, 0] rfl)
  · rw [if_neg c3] at hs
    refine lv_lload_n hx hb dX11_of_11 rfl (lv_at hl 2 rfl) ?_
    refine lv_lneg hx hb dX11_of_12 ?_
    refine lv_goto (tgt := 17) hx hb dX11_of_13 (by decide) ?_
    exact hJ17 x2.2 u1 x2.1 (-u1) H locs ls hs hr hS (lv_sub hl [2, 0] rfl)
theorem dX11_sized_0 : decode cX11_sized 0 = .ok (.aload_n 0, 1) := by decide +kernel
theorem dX11_sized_1 : decode cX11_sized 1 = .ok (.aload_n 1, 1) := by decide +kernel
theorem dX11_sized_2 : decode cX11_sized 2 = .ok (.invokevirtual 34, 3) := by decide +kernel
theorem dX11_sized_5 : decode cX11_sized 5 = .ok (.astore_n 2, 1) := by decide +kernel
theorem dX11_sized_6 : decode cX11_sized 6 = .ok (.aload_n 2, 1) := by decide +kernel
theorem dX11_sized_7 : decode cX11_sized 7 = .ok (.iconst 0, 1) := by decide +kernel
theorem dX11_sized_8 : decode cX11_sized 8 = .ok (.putfield 38, 3) := by decide +kernel
theorem dX11_sized_11 : decode cX11_sized 11 = .ok (.aload_n 2, 1) := by decide +kernel
theorem dX11_sized_12 : decode cX11_sized 12 = .ok (.areturn, 1) := by decide +kernel
def zs_X11_sized (h : AH) (u0 : Nat) (u1 : Nat) : Option (Nat × AH) :=
  (chk h u0 11).bind fun _ => (zs_X11_copy h u0 u1).bind fun x2 => (pV x2.2 x2.1 10 0 (.int ((0 : Int32)))).bind fun g3 => some (x2.1, g3)
set_option maxRecDepth 100000 in
set_option maxHeartbeats 4000000 in
theorem zm_X11_sized (l : Launch) (D : hG) (z : Nat) {h : AH} {u0 : Nat} {u1 : Nat} {r : Nat} {h' : AH} (hs : zs_X11_sized h u0 u1 = some (r, h')) : hC l D z yX11_sized cX11_sized 3 (Option.some (Jvm.ClassFile.FieldType.object "WideWholesModel$Whole")) 3 91 0 0 [.ref u0, .ref u1] h h' (some (.ref r)) := by
  refine hC_of (by decide) (Nat.le_of_ble_eq_true rfl) ?_
  intro p e s m below meth c hx hb hml hrt hlk hown hnm hts hk hr hz ls hl
  replace hown : s.vm.findClass RX11 = some m.cls := hown
  replace hl : lv_has ls 3 [(0, .ref u0), (1, .ref u1)] := hl
  have hS : va_S (hA z) s.heap s.heap [] := va_S.rf
  suffices hgo : ∀ (H : Heap) (locs : List Loc), hR D z h H → va_S (hA z) s.heap H locs → W p l e ({ frames := 3, cells := 0, slots := 0, locals := 91 } : Room) s m ([.ref u0, .ref u1] : List Value).toArray below meth c H locs 0 0 (MQ below (hQ D z h' (some (.ref r))) ([.ref u0, .ref u1] : List Value).toArray s 0 0 (hA z)) (F0 m 0 ls []) from hgo _ _ hr hS
  clear hr hS
  intro H locs hr hS
  unfold zs_X11_sized at hs
  refine lv_aload_n hx hb dX11_sized_0 rfl (lv_at hl 0 rfl) ?_
  refine lv_aload_n hx hb dX11_sized_1 rfl (lv_at hl 1 rfl) ?_
  obtain ⟨_, ex1, hs⟩ := bi_inv hs
  obtain ⟨x2, ex2, hs⟩ := bi_inv hs
  refine hv_V1 (n := 1) [.ref u1] [] hx hb hml hown hts hk hr hz hS (zm_X11_copy l D z ex2) ex1 rfl tw_996 tw_998 ts_25 tw_11 tw_999 (by decide +kernel) (by decide) ⟨(Nat.zero_le _), (Nat.zero_le _)⟩ rfl hl.1 (Nat.le_of_ble_eq_true rfl) dX11_sized_2 rfl (fun H locs hr hS => ?_)
  refine lv_astore_n (lv' := [(2, .ref x2.1), (0, .ref u0), (1, .ref u1)]) hx hb dX11_sized_5 rfl hl (by decide) rfl (fun ls hl => ?_)
  refine lv_aload_n hx hb dX11_sized_6 rfl (lv_at hl 0 rfl) ?_
  refine lv_iconst (v := 0) hx hb dX11_sized_7 (by decide) ?_
  obtain ⟨g3, eg3, hs⟩ := bi_inv hs
  refine hv_pV (C := RX10) (T := TX10) (N := 3) (ci := 10) hx hb hts inX10 tyX10 tyX10_ok nmX10 hown hk hr hS rfl 0 (by decide) (hts _ tw_863) rfl rfl rfl eg3 dX11_sized_8 (fun H locs hr hS => ?_)
  refine lv_aload_n hx hb dX11_sized_11 rfl (lv_at hl 0 rfl) ?_
  obtain ⟨rfl, rfl⟩ := Prod.mk.inj (Option.some.inj hs)
  exact hv_aret hx hb hrt (by first | exact Or.inl ⟨_, rfl⟩ | exact Or.inr ⟨_, rfl⟩) hlk hr hS dX11_sized_12
theorem dX11_divide_0 : decode cX11_divide 0 = .ok (.aload_n 1, 1) := by decide +kernel
theorem dX11_divide_1 : decode cX11_divide 1 = .ok (.aload_n 2, 1) := by decide +kernel
theorem dX11_divide_2 : decode cX11_divide 2 = .ok (.invokestatic 45, 3) := by decide +kernel
theorem dX11_divide_5 : decode cX11_divide 5 = .ok (.ifCond .ge 27, 3) := by decide +kernel
theorem dX11_divide_8 : decode cX11_divide 8 = .ok (.aload_n 0, 1) := by decide +kernel
theorem dX11_divide_9 : decode cX11_divide 9 = .ok (.aload_n 0, 1) := by decide +kernel
theorem dX11_divide_10 : decode cX11_divide 10 = .ok (.aload_n 0, 1) := by decide +kernel
theorem dX11_divide_11 : decode cX11_divide 11 = .ok (.getfield 74, 3) := by decide +kernel
theorem dX11_divide_14 : decode cX11_divide 14 = .ok (.invokevirtual 34, 3) := by decide +kernel
theorem dX11_divide_17 : decode cX11_divide 17 = .ok (.putfield 78, 3) := by decide +kernel
theorem dX11_divide_20 : decode cX11_divide 20 = .ok (.aload_n 0, 1) := by decide +kernel
theorem dX11_divide_21 : decode cX11_divide 21 = .ok (.aload_n 0, 1) := by decide +kernel
theorem dX11_divide_22 : decode cX11_divide 22 = .ok (.aload_n 1, 1) := by decide +kernel
theorem dX11_divide_23 : decode cX11_divide 23 = .ok (.invokevirtual 81, 3) := by decide +kernel
theorem dX11_divide_26 : decode cX11_divide 26 = .ok (.putfield 84, 3) := by decide +kernel
theorem dX11_divide_29 : decode cX11_divide 29 = .ok (.goto 116, 3) := by decide +kernel
theorem dX11_divide_32 : decode cX11_divide 32 = .ok (.aload_n 2, 1) := by decide +kernel
theorem dX11_divide_33 : decode cX11_divide 33 = .ok (.getfield 42, 3) := by decide +kernel
theorem dX11_divide_36 : decode cX11_divide 36 = .ok (.iconst 1, 1) := by decide +kernel
theorem dX11_divide_37 : decode cX11_divide 37 = .ok (.if_icmp .ne 102, 3) := by decide +kernel
theorem dX11_divide_40 : decode cX11_divide 40 = .ok (.aload_n 0, 1) := by decide +kernel
theorem dX11_divide_41 : decode cX11_divide 41 = .ok (.invokevirtual 14, 3) := by decide +kernel
theorem dX11_divide_44 : decode cX11_divide 44 = .ok (.astore_n 3, 1) := by decide +kernel
theorem dX11_divide_45 : decode cX11_divide 45 = .ok (.lconst 0, 1) := by decide +kernel
theorem dX11_divide_46 : decode cX11_divide 46 = .ok (.lstore 4, 2) := by decide +kernel
theorem dX11_divide_48 : decode cX11_divide 48 = .ok (.aload_n 1, 1) := by decide +kernel
theorem dX11_divide_49 : decode cX11_divide 49 = .ok (.getfield 42, 3) := by decide +kernel
theorem dX11_divide_52 : decode cX11_divide 52 = .ok (.iconst 1, 1) := by decide +kernel
theorem dX11_divide_53 : decode cX11_divide 53 = .ok (.isub, 1) := by decide +kernel
theorem dX11_divide_54 : decode cX11_divide 54 = .ok (.istore 6, 2) := by decide +kernel
theorem dX11_divide_56 : decode cX11_divide 56 = .ok (.iload 6, 2) := by decide +kernel
theorem dX11_divide_58 : decode cX11_divide 58 = .ok (.ifCond .lt 55, 3) := by decide +kernel
theorem dX11_divide_61 : decode cX11_divide 61 = .ok (.lload 4, 2) := by decide +kernel
theorem dX11_divide_63 : decode cX11_divide 63 = .ok (.bipush 16, 2) := by decide +kernel
theorem dX11_divide_65 : decode cX11_divide 65 = .ok (.lshl, 1) := by decide +kernel
theorem dX11_divide_66 : decode cX11_divide 66 = .ok (.aload_n 1, 1) := by decide +kernel
theorem dX11_divide_67 : decode cX11_divide 67 = .ok (.getfield 18, 3) := by decide +kernel
theorem dX11_divide_70 : decode cX11_divide 70 = .ok (.iload 6, 2) := by decide +kernel
theorem dX11_divide_72 : decode cX11_divide 72 = .ok (.iaload, 1) := by decide +kernel
theorem dX11_divide_73 : decode cX11_divide 73 = .ok (.i2l, 1) := by decide +kernel
theorem dX11_divide_74 : decode cX11_divide 74 = .ok (.lor, 1) := by decide +kernel
theorem dX11_divide_75 : decode cX11_divide 75 = .ok (.lstore 7, 2) := by decide +kernel
theorem dX11_divide_77 : decode cX11_divide 77 = .ok (.aload_n 3, 1) := by decide +kernel
theorem dX11_divide_78 : decode cX11_divide 78 = .ok (.getfield 18, 3) := by decide +kernel
theorem dX11_divide_81 : decode cX11_divide 81 = .ok (.iload 6, 2) := by decide +kernel
theorem dX11_divide_83 : decode cX11_divide 83 = .ok (.lload 7, 2) := by decide +kernel
theorem dX11_divide_85 : decode cX11_divide 85 = .ok (.aload_n 2, 1) := by decide +kernel
theorem dX11_divide_86 : decode cX11_divide 86 = .ok (.getfield 18, 3) := by decide +kernel
theorem dX11_divide_89 : decode cX11_divide 89 = .ok (.iconst 0, 1) := by decide +kernel
theorem dX11_divide_90 : decode cX11_divide 90 = .ok (.iaload, 1) := by decide +kernel
theorem dX11_divide_91 : decode cX11_divide 91 = .ok (.i2l, 1) := by decide +kernel
theorem dX11_divide_92 : decode cX11_divide 92 = .ok (.ldiv, 1) := by decide +kernel
theorem dX11_divide_93 : decode cX11_divide 93 = .ok (.l2i, 1) := by decide +kernel
theorem dX11_divide_94 : decode cX11_divide 94 = .ok (.iastore, 1) := by decide +kernel
theorem dX11_divide_95 : decode cX11_divide 95 = .ok (.lload 7, 2) := by decide +kernel
theorem dX11_divide_97 : decode cX11_divide 97 = .ok (.aload_n 2, 1) := by decide +kernel
theorem dX11_divide_98 : decode cX11_divide 98 = .ok (.getfield 18, 3) := by decide +kernel
theorem dX11_divide_101 : decode cX11_divide 101 = .ok (.iconst 0, 1) := by decide +kernel
theorem dX11_divide_102 : decode cX11_divide 102 = .ok (.iaload, 1) := by decide +kernel
theorem dX11_divide_103 : decode cX11_divide 103 = .ok (.i2l, 1) := by decide +kernel
theorem dX11_divide_104 : decode cX11_divide 104 = .ok (.lrem, 1) := by decide +kernel
theorem dX11_divide_105 : decode cX11_divide 105 = .ok (.lstore 4, 2) := by decide +kernel
theorem dX11_divide_107 : decode cX11_divide 107 = .ok (.iinc 6 (-1), 3) := by decide +kernel
theorem dX11_divide_110 : decode cX11_divide 110 = .ok (.goto (-54), 3) := by decide +kernel
theorem dX11_divide_113 : decode cX11_divide 113 = .ok (.aload_n 0, 1) := by decide +kernel
theorem dX11_divide_114 : decode cX11_divide 114 = .ok (.aload_n 3, 1) := by decide +kernel
theorem dX11_divide_115 : decode cX11_divide 115 = .ok (.iconst 0, 1) := by decide +kernel
theorem dX11_divide_116 : decode cX11_divide 116 = .ok (.aload_n 1, 1) := by decide +kernel
theorem dX11_divide_117 : decode cX11_divide 117 = .ok (.getfield 42, 3) := by decide +kernel
theorem dX11_divide_120 : decode cX11_divide 120 = .ok (.invokevirtual 26, 3) := by decide +kernel
theorem dX11_divide_123 : decode cX11_divide 123 = .ok (.putfield 78, 3) := by decide +kernel
theorem dX11_divide_126 : decode cX11_divide 126 = .ok (.aload_n 0, 1) := by decide +kernel
theorem dX11_divide_127 : decode cX11_divide 127 = .ok (.aload_n 0, 1) := by decide +kernel
theorem dX11_divide_128 : decode cX11_divide 128 = .ok (.lload 4, 2) := by decide +kernel
theorem dX11_divide_130 : decode cX11_divide 130 = .ok (.invokevirtual 87, 3) := by decide +kernel
theorem dX11_divide_133 : decode cX11_divide 133 = .ok (.putfield 84, 3) := by decide +kernel
theorem dX11_divide_136 : decode cX11_divide 136 = .ok (.goto 9, 3) := by decide +kernel
theorem dX11_divide_139 : decode cX11_divide 139 = .ok (.aload_n 0, 1) := by decide +kernel
theorem dX11_divide_140 : decode cX11_divide 140 = .ok (.aload_n 1, 1) := by decide +kernel
theorem dX11_divide_141 : decode cX11_divide 141 = .ok (.aload_n 2, 1) := by decide +kernel
theorem dX11_divide_142 : decode cX11_divide 142 = .ok (.invokevirtual 90, 3) := by decide +kernel
theorem dX11_divide_145 : decode cX11_divide 145 = .ok (.return_, 1) := by decide +kernel
def zb_X11_divide_56 (w0 : Nat) (w1 : Nat) (w2 : Nat) (w3 : Nat) (g11 : AH) (w4 : Int64) (w6 : Int32) : Option ((AH × Int64 × Int32) ⊕ ((AH × Int64))) :=
  (if w6 < 0 then some (Sum.inr ((g11, w4))) else (gR g11 w1 10 2).bind fun x13 => (aI g11 x13 0 w6).bind fun x14 => lt_ ((w4 <<< (((16 : Int32)).toInt64 &&& 63)) ||| x14.toInt64) fun x15 => (gR g11 w3 10 2).bind fun x16 => (gR g11 w2 10 2).bind fun x17 => (aI g11 x17 0 ((0 : Int32))).bind fun x18 => (nzl x18.toInt64).bind fun _ => (sI g11 x16 0 w6 ((x15 / x18.toInt64).toInt32)).bind fun g20 => (gR g20 w2 10 2).bind fun x21 => (aI g20 x21 0 ((0 : Int32))).bind fun x22 => (nzl x22.toInt64).bind fun _ => lt_ (x15 - x15 / x22.toInt64 * x22.toInt64) fun x24 => some (Sum.inl ((g20, x24, w6 + (-1 : Int32)))))
def zs_X11_divide (h : AH) (u0 : Nat) (u1 : Nat) (u2 : Nat) : Option AH :=
  (zs_X11_compareSizes h u1 u2).bind fun x1 => (if 0 ≤ x1 then (gI h u2 10 1).bind fun x3 => (if x3 = (1 : Int32) then (chk h u0 11).bind fun _ => (zs_X11_take h u0).bind fun x8 => (gI x8.2 u1 10 1).bind fun x9 => lt_ (x9 - ((1 : Int32))) fun x10 => (iter (fun q : AH × Int64 × Int32 => zb_X11_divide_56 u0 u1 u2 x8.1 q.1 q.2.1 q.2.2) FU ((x8.2, (0 : Int64), x10))).bind fun r25 => (gI r25.1 u1 10 1).bind fun x26 => (chk r25.1 x8.1 10).bind fun _ => (zs_X10_of r25.1 x8.1 ((0 : Int32)) x26).bind fun x28 => (pV x28.2 u0 11 5 (.ref x28.1)).bind fun g29 => (chk g29 u0 11).bind fun _ => (zs_X11_of g29 u0 r25.2).bind fun x31 => (pV x31.2 u0 11 6 (.ref x31.1)).bind fun g32 => some g32 else (chk h u0 11).bind fun _ => (zs_X11_divideLong h u0 u1 u2).bind fun g6 => some g6) else (gR h u0 11 3).bind fun x33 => (chk h u0 11).bind fun _ => (zs_X11_copy h u0 x33).bind fun x35 => (pV x35.2 u0 11 5 (.ref x35.1)).bind fun g36 => (chk g36 u0 11).bind fun _ => (zs_X11_sized g36 u0 u1).bind fun x38 => (pV x38.2 u0 11 6 (.ref x38.1)).bind fun g39 => some g39)
set_option maxRecDepth 100000 in
set_option maxHeartbeats 4000000 in
theorem zm_X11_divide (l : Launch) (D : hG) (z : Nat) {h : AH} {u0 : Nat} {u1 : Nat} {u2 : Nat} {h' : AH} (hs : zs_X11_divide h u0 u1 u2 = some h') : hC l D z yX11_divide cX11_divide 9 (Option.none : Option Jvm.ClassFile.FieldType) 4 113 0 0 [.ref u0, .ref u1, .ref u2] h h' none := by
  refine hC_of (by decide) (Nat.le_of_ble_eq_true rfl) ?_
  intro p e s m below meth c hx hb hml hrt hlk hown hnm hts hk hr hz ls hl
  replace hown : s.vm.findClass RX11 = some m.cls := hown
  replace hl : lv_has ls 9 [(0, .ref u0), (1, .ref u1), (2, .ref u2)] := hl
  have hS : va_S (hA z) s.heap s.heap [] := va_S.rf
  suffices hgo : ∀ (H : Heap) (locs : List Loc), hR D z h H → va_S (hA z) s.heap H locs → W p l e ({ frames := 4, cells := 0, slots := 0, locals := 113 } : Room) s m ([.ref u0, .ref u1, .ref u2] : List Value).toArray below meth c H locs 0 0 (MQ below (hQ D z h' none) ([.ref u0, .ref u1, .ref u2] : List Value).toArray s 0 0 (hA z)) (F0 m 0 ls []) from hgo _ _ hr hS
  clear hr hS
  intro H locs hr hS
  unfold zs_X11_divide at hs
  refine lv_aload_n hx hb dX11_divide_0 rfl (lv_at hl 1 rfl) ?_
  refine lv_aload_n hx hb dX11_divide_1 rfl (lv_at hl 2 rfl) ?_
  obtain ⟨x1, ex1, hs⟩ := bi_inv hs
  refine hv_S1 (n := 2) [.ref u1, .ref u2] [] hx hb hml hown hts hk hr hz hS (zm_X11_compareSizes l D z ex1) tw_1019 tw_1020 tw_11 tw_1021 (by decide +kernel) (by decide) ⟨(Nat.zero_le _), (Nat.zero_le _)⟩ rfl hl.1 (Nat.le_of_ble_eq_true rfl) dX11_divide_2 rfl (fun H locs hr hS => ?_)
  refine lv_if_ge (tgt := 32) hx hb dX11_divide_5 (by decide) (fun c2 => ?_) (fun c2 => ?_)
  · rw [if_pos c2] at hs
    refine lv_aload_n hx hb dX11_divide_32 rfl (lv_at hl 2 rfl) ?_
    obtain ⟨x3, ex3, hs⟩ := bi_inv hs
    refine hv_gI (C := RX10) (T := TX10) (N := 3) (ci := 10) hx hb hts inX10 hown hk hr rfl 1 (by decide) (hts _ tw_865) ex3 dX11_divide_33 ?_
    refine lv_iconst (v := 1) hx hb dX11_divide_36 (by decide) ?_
    refine lv_icmp_ne (tgt := 139) hx hb dX11_divide_37 (by decide) (fun c4 => ?_) (fun c4 => ?_)
    · rw [if_neg c4] at hs
      refine lv_aload_n hx hb dX11_divide_139 rfl (lv_at hl 0 rfl) ?_
      refine lv_aload_n hx hb dX11_divide_140 rfl (lv_at hl 1 rfl) ?_
      refine lv_aload_n hx hb dX11_divide_141 rfl (lv_at hl 2 rfl) ?_
      obtain ⟨_, ex5, hs⟩ := bi_inv hs
      obtain ⟨g6, eg6, hs⟩ := bi_inv hs
      refine hv_V0 (n := 2) [.ref u1, .ref u2] [] hx hb hml hown hts hk hr hz hS (zm_X11_divideLong l D z eg6) ex5 rfl tw_1044 tw_1046 ts_33 tw_11 tw_1047 (by decide +kernel) (by decide) ⟨(Nat.zero_le _), (Nat.zero_le _)⟩ rfl hl.1 (Nat.le_of_ble_eq_true rfl) dX11_divide_142 rfl (fun H locs hr hS => ?_)
      obtain rfl := Option.some.inj hs
      exact hv_vret hx hb hrt hlk hr hS dX11_divide_145
    · rw [if_pos c4] at hs
      refine lv_aload_n hx hb dX11_divide_40 rfl (lv_at hl 0 rfl) ?_
      obtain ⟨_, ex7, hs⟩ := bi_inv hs
      obtain ⟨x8, ex8, hs⟩ := bi_inv hs
      refine hv_V1 (n := 0) [] [] hx hb hml hown hts hk hr hz hS (zm_X11_take l D z ex8) ex7 rfl tw_964 tw_966 ts_23 tw_11 tw_967 (by decide +kernel) (by decide) ⟨(Nat.zero_le _), (Nat.zero_le _)⟩ rfl hl.1 (Nat.le_of_ble_eq_true rfl) dX11_divide_41 rfl (fun H locs hr hS => ?_)
      refine lv_astore_n (lv' := [(3, .ref x8.1), (0, .ref u0), (1, .ref u1), (2, .ref u2)]) hx hb dX11_divide_44 rfl hl (by decide) rfl (fun ls hl => ?_)
      refine lv_lconst (v := 0) hx hb dX11_divide_45 (by decide) ?_
      refine lv_lstore (lv' := [(4, .long ((0 : Int64))), (3, .ref x8.1), (0, .ref u0), (1, .ref u1), (2, .ref u2)]) hx hb dX11_divide_46 hl (by decide) rfl (fun ls hl => ?_)
      refine lv_aload_n hx hb dX11_divide_48 rfl (lv_at hl 3 rfl) ?_
      obtain ⟨x9, ex9, hs⟩ := bi_inv hs
      refine hv_gI (C := RX10) (T := TX10) (N := 3) (ci := 10) hx hb hts inX10 hown hk hr rfl 1 (by decide) (hts _ tw_865) ex9 dX11_divide_49 ?_
      refine lv_iconst (v := 1) hx hb dX11_divide_52 (by decide) ?_
      refine lv_isub hx hb dX11_divide_53 ?_
      refine lv_topi (fun x10 ex10 => ?_)
      replace hs := lt_inv hs x10 ex10
      refine lv_istore (lv' := [(6, .int x10), (4, .long ((0 : Int64))), (3, .ref x8.1), (0, .ref u0), (1, .ref u1), (2, .ref u2)]) hx hb dX11_divide_54 hl (by decide) rfl (fun ls hl => ?_)
      obtain ⟨r25, er25, hs⟩ := bi_inv hs
      refine iter_W (fun (q : AH × Int64 × Int32) => ∀ (H : Heap) (locs : List Loc) (ls : Array Slot), hR D z q.1 H → va_S (hA z) s.heap H locs → lv_has ls 9 [(0, .ref u0), (1, .ref u1), (2, .ref u2), (3, .ref x8.1), (4, .long q.2.1), (6, .int q.2.2)] → W p l e ({ frames := 4, cells := 0, slots := 0, locals := 113 } : Room) s m ([.ref u0, .ref u1, .ref u2] : List Value).toArray below meth c H locs 0 0 (MQ below (hQ D z h' none) ([.ref u0, .ref u1, .ref u2] : List Value).toArray s 0 0 (hA z)) (F0 m 56 ls [])) (fun (x : (AH × Int64)) => ∀ (H : Heap) (locs : List Loc) (ls : Array Slot), hR D z x.1 H → va_S (hA z) s.heap H locs → lv_has ls 9 [(0, .ref u0), (1, .ref u1), (3, .ref x8.1), (4, .long x.2)] → W p l e ({ frames := 4, cells := 0, slots := 0, locals := 113 } : Room) s m ([.ref u0, .ref u1, .ref u2] : List Value).toArray below meth c H locs 0 0 (MQ below (hQ D z h' none) ([.ref u0, .ref u1, .ref u2] : List Value).toArray s 0 0 (hA z)) (F0 m 113 ls [])) ?_ FU _ r25 er25 ?_ H locs ls hr hS (lv_sub hl [3, 4, 5, 2, 1, 0] rfl)
      · intro q o hs hcont hexit
        obtain ⟨g11, w4, w6⟩ := q
        replace hs : zb_X11_divide_56 u0 u1 u2 x8.1 g11 w4 w6 = some o := hs
        intro H locs ls hr hS hl
        unfold zb_X11_divide_56 at hs
        refine lv_iload hx hb dX11_divide_56 (lv_at hl 5 rfl) ?_
        refine lv_if_lt (tgt := 113) hx hb dX11_divide_58 (by decide) (fun c12 => ?_) (fun c12 => ?_)
        · rw [if_pos c12] at hs
          obtain rfl := Option.some.inj hs
          exact hexit _ rfl H locs ls hr hS (lv_sub hl [0, 1, 3, 4] rfl)
        · rw [if_neg c12] at hs
          refine lv_lload hx hb dX11_divide_61 (lv_at hl 4 rfl) ?_
          refine lv_bipush (v := 16) hx hb dX11_divide_63 (by decide) ?_
          refine lv_lshl hx hb dX11_divide_65 rfl ?_
          refine lv_aload_n hx hb dX11_divide_66 rfl (lv_at hl 1 rfl) ?_
          obtain ⟨x13, ex13, hs⟩ := bi_inv hs
          refine hv_gR (C := RX10) (T := TX10) (N := 3) (ci := 10) hx hb hts inX10 hown hk hr rfl 2 (by decide) (hts _ tw_867) ex13 dX11_divide_67 ?_
          refine lv_iload hx hb dX11_divide_70 (lv_at hl 5 rfl) ?_
          obtain ⟨x14, ex14, hs⟩ := bi_inv hs
          refine hv_aI hx hb hk hr ex14 dX11_divide_72 ?_
          refine lv_i2l hx hb dX11_divide_73 rfl ?_
          refine lv_lor hx hb dX11_divide_74 ?_
          refine lv_topl (fun x15 ex15 => ?_)
          replace hs := lt_inv hs x15 ex15
          refine lv_lstore (lv' := [(7, .long x15), (0, .ref u0), (1, .ref u1), (2, .ref u2), (3, .ref x8.1), (4, .long w4), (6, .int w6)]) hx hb dX11_divide_75 hl (by decide) rfl (fun ls hl => ?_)
          refine lv_aload_n hx hb dX11_divide_77 rfl (lv_at hl 4 rfl) ?_
          obtain ⟨x16, ex16, hs⟩ := bi_inv hs
          refine hv_gR (C := RX10) (T := TX10) (N := 3) (ci := 10) hx hb hts inX10 hown hk hr rfl 2 (by decide) (hts _ tw_867) ex16 dX11_divide_78 ?_
          refine lv_iload hx hb dX11_divide_81 (lv_at hl 6 rfl) ?_
          refine lv_lload hx hb dX11_divide_83 (lv_at hl 0 rfl) ?_
          refine lv_aload_n hx hb dX11_divide_85 rfl (lv_at hl 3 rfl) ?_
          obtain ⟨x17, ex17, hs⟩ := bi_inv hs
          refine hv_gR (C := RX10) (T := TX10) (N := 3) (ci := 10) hx hb hts inX10 hown hk hr rfl 2 (by decide) (hts _ tw_867) ex17 dX11_divide_86 ?_
          refine lv_iconst (v := 0) hx hb dX11_divide_89 (by decide) ?_
          obtain ⟨x18, ex18, hs⟩ := bi_inv hs
          refine hv_aI hx hb hk hr ex18 dX11_divide_90 ?_
          refine lv_i2l hx hb dX11_divide_91 rfl ?_
          obtain ⟨_, ex19, hs⟩ := bi_inv hs
          refine lv_ldiv hx hb dX11_divide_92 (nzl_inv ex19) ?_
          refine lv_l2i hx hb dX11_divide_93 rfl ?_
          obtain ⟨g20, eg20, hs⟩ := bi_inv hs
          refine hv_sI hx hb hk hr hS eg20 dX11_divide_94 (fun H locs hr hS => ?_)
          refine lv_lload hx hb dX11_divide_95 (lv_at hl 0 rfl) ?_
          refine lv_aload_n hx hb dX11_divide_97 rfl (lv_at hl 3 rfl) ?_
          obtain ⟨x21, ex21, hs⟩ := bi_inv hs
          refine hv_gR (C := RX10) (T := TX10) (N := 3) (ci := 10) hx hb hts inX10 hown hk hr rfl 2 (by decide) (hts _ tw_867) ex21 dX11_divide_98 ?_
          refine lv_iconst (v := 0) hx hb dX11_divide_101 (by decide) ?_
          obtain ⟨x22, ex22, hs⟩ := bi_inv hs
          refine hv_aI hx hb hk hr ex22 dX11_divide_102 ?_
          refine lv_i2l hx hb dX11_divide_103 rfl ?_
          obtain ⟨_, ex23, hs⟩ := bi_inv hs
          refine lv_lrem hx hb dX11_divide_104 (nzl_inv ex23) ?_
          refine lv_topl (fun x24 ex24 => ?_)
          replace hs := lt_inv hs x24 ex24
          refine lv_lstore (lv' := [(4, .long x24), (7, .long x15), (0, .ref u0), (1, .ref u1), (2, .ref u2), (3, .ref x8.1), (6, .int w6)]) hx hb dX11_divide_105 hl (by decide) rfl (fun ls hl => ?_)
          refine lv_iinc (v := w6 + (-1 : Int32)) (lv' := [(6, .int (w6 + (-1 : Int32))), (4, .long x24), (7, .long x15), (0, .ref u0), (1, .ref u1), (2, .ref u2), (3, .ref x8.1)]) hx hb dX11_divide_107 hl (k := 6) rfl (ii_v _ (by decide)) (by decide) rfl (fun ls hl => ?_)
          refine lv_goto (tgt := 56) hx hb dX11_divide_110 (by decide) ?_
          obtain rfl := Option.some.inj hs
          exact hcont _ rfl H locs ls hr hS (lv_sub hl [3, 4, 5, 6, 1, 0] rfl)
      · intro H locs ls hr hS hl
        refine lv_aload_n hx hb dX11_divide_113 rfl (lv_at hl 0 rfl) ?_
        refine lv_aload_n hx hb dX11_divide_114 rfl (lv_at hl 2 rfl) ?_
        refine lv_iconst (v := 0) hx hb dX11_divide_115 (by decide) ?_
        refine lv_aload_n hx hb dX11_divide_116 rfl (lv_at hl 1 rfl) ?_
        obtain ⟨x26, ex26, hs⟩ := bi_inv hs
        refine hv_gI (C := RX10) (T := TX10) (N := 3) (ci := 10) hx hb hts inX10 hown hk hr rfl 1 (by decide) (hts _ tw_865) ex26 dX11_divide_117 ?_
        obtain ⟨_, ex27, hs⟩ := bi_inv hs
        obtain ⟨x28, ex28, hs⟩ := bi_inv hs
        refine hv_V1 (n := 2) [.int ((0 : Int32)), .int x26] [.ref u0] hx hb hml hown hts hk hr hz hS (zm_X10_of l D z ex28) ex27 rfl tw_969 tw_970 tw_971 tw_12 tw_972 (by decide +kernel) (by decide) ⟨(Nat.zero_le _), (Nat.zero_le _)⟩ rfl hl.1 (Nat.le_of_ble_eq_true rfl) dX11_divide_120 rfl (fun H locs hr hS => ?_)
        obtain ⟨g29, eg29, hs⟩ := bi_inv hs
        refine hv_pV (C := RX11) (T := TX11) (N := 23) (ci := 11) hx hb hts inX11 tyX11 tyX11_ok nmX11 hown hk hr hS rfl 5 (by decide) (hts _ tw_887) rfl rfl rfl eg29 dX11_divide_123 (fun H locs hr hS => ?_)
        refine lv_aload_n hx hb dX11_divide_126 rfl (lv_at hl 0 rfl) ?_
        refine lv_aload_n hx hb dX11_divide_127 rfl (lv_at hl 0 rfl) ?_
        refine lv_lload hx hb dX11_divide_128 (lv_at hl 3 rfl) ?_
        obtain ⟨_, ex30, hs⟩ := bi_inv hs
        obtain ⟨x31, ex31, hs⟩ := bi_inv hs
        refine hv_V1 (n := 1) [.long r25.2] [.ref u0] hx hb hml hown hts hk hr hz hS (zm_X11_of l D z ex31) ex30 rfl tw_960 tw_962 ts_22 tw_11 tw_963 (by decide +kernel) (by decide) ⟨(Nat.zero_le _), (Nat.zero_le _)⟩ rfl hl.1 (Nat.le_of_ble_eq_true rfl) dX11_divide_130 rfl (fun H locs hr hS => ?_)
        obtain ⟨g32, eg32, hs⟩ := bi_inv hs
        refine hv_pV (C := RX11) (T := TX11) (N := 23) (ci := 11) hx hb hts inX11 tyX11 tyX11_ok nmX11 hown hk hr hS rfl 6 (by decide) (hts _ tw_888) rfl rfl rfl eg32 dX11_divide_133 (fun H locs hr hS => ?_)
        refine lv_goto (tgt := 145) hx hb dX11_divide_136 (by decide) ?_
        obtain rfl := Option.some.inj hs
        exact hv_vret hx hb hrt hlk hr hS dX11_divide_145
  · rw [if_neg c2] at hs
    refine lv_aload_n hx hb dX11_divide_8 rfl (lv_at hl 0 rfl) ?_
    refine lv_aload_n hx hb dX11_divide_9 rfl (lv_at hl 0 rfl) ?_
    refine lv_aload_n hx hb dX11_divide_10 rfl (lv_at hl 0 rfl) ?_
    obtain ⟨x33, ex33, hs⟩ := bi_inv hs
    refine hv_gR (C := RX11) (T := TX11) (N := 23) (ci := 11) hx hb hts inX11 hown hk hr rfl 3 (by decide) (hts _ tw_885) ex33 dX11_divide_11 ?_
    obtain ⟨_, ex34, hs⟩ := bi_inv hs
    obtain ⟨x35, ex35, hs⟩ := bi_inv hs
    refine hv_V1 (n := 1) [.ref x33] [.ref u0] hx hb hml hown hts hk hr hz hS (zm_X11_copy l D z ex35) ex34 rfl tw_996 tw_998 ts_25 tw_11 tw_999 (by decide +kernel) (by decide) ⟨(Nat.zero_le _), (Nat.zero_le _)⟩ rfl hl.1 (Nat.le_of_ble_eq_true rfl) dX11_divide_14 rfl (fun H locs hr hS => ?_)
    obtain ⟨g36, eg36, hs⟩ := bi_inv hs
    refine hv_pV (C := RX11) (T := TX11) (N := 23) (ci := 11) hx hb hts inX11 tyX11 tyX11_ok nmX11 hown hk hr hS rfl 5 (by decide) (hts _ tw_887) rfl rfl rfl eg36 dX11_divide_17 (fun H locs hr hS => ?_)
    refine lv_aload_n hx hb dX11_divide_20 rfl (lv_at hl 0 rfl) ?_
    refine lv_aload_n hx hb dX11_divide_21 rfl (lv_at hl 0 rfl) ?_
    refine lv_aload_n hx hb dX11_divide_22 rfl (lv_at hl 1 rfl) ?_
    obtain ⟨_, ex37, hs⟩ := bi_inv hs
    obtain ⟨x38, ex38, hs⟩ := bi_inv hs
    refine hv_V1 (n := 1) [.ref u1] [.ref u0] hx hb hml hown hts hk hr hz hS (zm_X11_sized l D z ex38) ex37 rfl tw_1036 tw_1038 ts_31 tw_11 tw_1039 (by decide +kernel) (by decide) ⟨(Nat.zero_le _), (Nat.zero_le _)⟩ rfl hl.1 (Nat.le_of_ble_eq_true rfl) dX11_divide_23 rfl (fun H locs hr hS => ?_)
    obtain ⟨g39, eg39, hs⟩ := bi_inv hs
    refine hv_pV (C := RX11) (T := TX11) (N := 23) (ci := 11) hx hb hts inX11 tyX11 tyX11_ok nmX11 hown hk hr hS rfl 6 (by decide) (hts _ tw_888) rfl rfl rfl eg39 dX11_divide_26 (fun H locs hr hS => ?_)
    refine lv_goto (tgt := 145) hx hb dX11_divide_29 (by decide) ?_
    obtain rfl := Option.some.inj hs
    exact hv_vret hx hb hrt hlk hr hS dX11_divide_145
theorem dX11_gcd_0 : decode cX11_gcd 0 = .ok (.aload_n 0, 1) := by decide +kernel
theorem dX11_gcd_1 : decode cX11_gcd 1 = .ok (.getfield 7, 3) := by decide +kernel
theorem dX11_gcd_4 : decode cX11_gcd 4 = .ok (.istore_n 3, 1) := by decide +kernel
theorem dX11_gcd_5 : decode cX11_gcd 5 = .ok (.aload_n 0, 1) := by decide +kernel
theorem dX11_gcd_6 : decode cX11_gcd 6 = .ok (.getfield 125, 3) := by decide +kernel
theorem dX11_gcd_9 : decode cX11_gcd 9 = .ok (.aload_n 1, 1) := by decide +kernel
theorem dX11_gcd_10 : decode cX11_gcd 10 = .ok (.invokevirtual 30, 3) := by decide +kernel
theorem dX11_gcd_13 : decode cX11_gcd 13 = .ok (.aload_n 0, 1) := by decide +kernel
theorem dX11_gcd_14 : decode cX11_gcd 14 = .ok (.getfield 128, 3) := by decide +kernel
theorem dX11_gcd_17 : decode cX11_gcd 17 = .ok (.aload_n 2, 1) := by decide +kernel
theorem dX11_gcd_18 : decode cX11_gcd 18 = .ok (.invokevirtual 30, 3) := by decide +kernel
theorem dX11_gcd_21 : decode cX11_gcd 21 = .ok (.aload_n 0, 1) := by decide +kernel
theorem dX11_gcd_22 : decode cX11_gcd 22 = .ok (.getfield 125, 3) := by decide +kernel
theorem dX11_gcd_25 : decode cX11_gcd 25 = .ok (.iconst 0, 1) := by decide +kernel
theorem dX11_gcd_26 : decode cX11_gcd 26 = .ok (.putfield 38, 3) := by decide +kernel
theorem dX11_gcd_29 : decode cX11_gcd 29 = .ok (.aload_n 0, 1) := by decide +kernel
theorem dX11_gcd_30 : decode cX11_gcd 30 = .ok (.getfield 128, 3) := by decide +kernel
theorem dX11_gcd_33 : decode cX11_gcd 33 = .ok (.iconst 0, 1) := by decide +kernel
theorem dX11_gcd_34 : decode cX11_gcd 34 = .ok (.putfield 38, 3) := by decide +kernel
theorem dX11_gcd_37 : decode cX11_gcd 37 = .ok (.aload_n 0, 1) := by decide +kernel
theorem dX11_gcd_38 : decode cX11_gcd 38 = .ok (.getfield 128, 3) := by decide +kernel
theorem dX11_gcd_41 : decode cX11_gcd 41 = .ok (.invokevirtual 60, 3) := by decide +kernel
theorem dX11_gcd_44 : decode cX11_gcd 44 = .ok (.ifCond .ne 45, 3) := by decide +kernel
theorem dX11_gcd_47 : decode cX11_gcd 47 = .ok (.aload_n 0, 1) := by decide +kernel
theorem dX11_gcd_48 : decode cX11_gcd 48 = .ok (.aload_n 0, 1) := by decide +kernel
theorem dX11_gcd_49 : decode cX11_gcd 49 = .ok (.getfield 125, 3) := by decide +kernel
theorem dX11_gcd_52 : decode cX11_gcd 52 = .ok (.aload_n 0, 1) := by decide +kernel
theorem dX11_gcd_53 : decode cX11_gcd 53 = .ok (.getfield 128, 3) := by decide +kernel
theorem dX11_gcd_56 : decode cX11_gcd 56 = .ok (.invokevirtual 110, 3) := by decide +kernel
theorem dX11_gcd_59 : decode cX11_gcd 59 = .ok (.aload_n 0, 1) := by decide +kernel
theorem dX11_gcd_60 : decode cX11_gcd 60 = .ok (.getfield 125, 3) := by decide +kernel
theorem dX11_gcd_63 : decode cX11_gcd 63 = .ok (.aload_n 0, 1) := by decide +kernel
theorem dX11_gcd_64 : decode cX11_gcd 64 = .ok (.getfield 128, 3) := by decide +kernel
theorem dX11_gcd_67 : decode cX11_gcd 67 = .ok (.invokevirtual 30, 3) := by decide +kernel
theorem dX11_gcd_70 : decode cX11_gcd 70 = .ok (.aload_n 0, 1) := by decide +kernel
theorem dX11_gcd_71 : decode cX11_gcd 71 = .ok (.getfield 128, 3) := by decide +kernel
theorem dX11_gcd_74 : decode cX11_gcd 74 = .ok (.aload_n 0, 1) := by decide +kernel
theorem dX11_gcd_75 : decode cX11_gcd 75 = .ok (.getfield 84, 3) := by decide +kernel
theorem dX11_gcd_78 : decode cX11_gcd 78 = .ok (.invokevirtual 30, 3) := by decide +kernel
theorem dX11_gcd_81 : decode cX11_gcd 81 = .ok (.aload_n 0, 1) := by decide +kernel
theorem dX11_gcd_82 : decode cX11_gcd 82 = .ok (.iload_n 3, 1) := by decide +kernel
theorem dX11_gcd_83 : decode cX11_gcd 83 = .ok (.putfield 7, 3) := by decide +kernel
theorem dX11_gcd_86 : decode cX11_gcd 86 = .ok (.goto (-49), 3) := by decide +kernel
theorem dX11_gcd_89 : decode cX11_gcd 89 = .ok (.aload_n 0, 1) := by decide +kernel
theorem dX11_gcd_90 : decode cX11_gcd 90 = .ok (.aload_n 0, 1) := by decide +kernel
theorem dX11_gcd_91 : decode cX11_gcd 91 = .ok (.getfield 125, 3) := by decide +kernel
theorem dX11_gcd_94 : decode cX11_gcd 94 = .ok (.invokevirtual 34, 3) := by decide +kernel
theorem dX11_gcd_97 : decode cX11_gcd 97 = .ok (.areturn, 1) := by decide +kernel
def zb_X11_gcd_37 (w0 : Nat) (w3 : Int32) (g12 : AH) : Option ((AH) ⊕ (AH)) :=
  (gR g12 w0 11 8).bind fun x13 => (chk g12 x13 10).bind fun _ => (zs_X10_isZero g12 x13).bind fun x15 => (if x15 = 0 then (gR g12 w0 11 7).bind fun x17 => (gR g12 w0 11 8).bind fun x18 => (chk g12 w0 11).bind fun _ => (zs_X11_divide g12 w0 x17 x18).bind fun g20 => (gR g20 w0 11 7).bind fun x21 => (gR g20 w0 11 8).bind fun x22 => (chk g20 x21 10).bind fun _ => (zs_X10_become g20 x21 x22).bind fun g24 => (gR g24 w0 11 8).bind fun x25 => (gR g24 w0 11 6).bind fun x26 => (chk g24 x25 10).bind fun _ => (zs_X10_become g24 x25 x26).bind fun g28 => (pV g28 w0 11 2 (.int w3)).bind fun g29 => some (Sum.inl g29) else some (Sum.inr g12))
def zs_X11_gcd (h : AH) (u0 : Nat) (u1 : Nat) (u2 : Nat) : Option (Nat × AH) :=
  (gI h u0 11 2).bind fun x1 => (gR h u0 11 7).bind fun x2 => (chk h x2 10).bind fun _ => (zs_X10_become h x2 u1).bind fun g4 => (gR g4 u0 11 8).bind fun x5 => (chk g4 x5 10).bind fun _ => (zs_X10_become g4 x5 u2).bind fun g7 => (gR g7 u0 11 7).bind fun x8 => (pV g7 x8 10 0 (.int ((0 : Int32)))).bind fun g9 => (gR g9 u0 11 8).bind fun x10 => (pV g9 x10 10 0 (.int ((0 : Int32)))).bind fun g11 => (iter (fun q : AH => zb_X11_gcd_37 u0 x1 q) FU g11).bind fun r30 => (gR r30 u0 11 7).bind fun x31 => (chk r30 u0 11).bind fun _ => (zs_X11_copy r30 u0 x31).bind fun x33 => some (x33.1, x33.2)
set_option maxRecDepth 100000 in
set_option maxHeartbeats 4000000 in
theorem zm_X11_gcd (l : Launch) (D : hG) (z : Nat) {h : AH} {u0 : Nat} {u1 : Nat} {u2 : Nat} {r : Nat} {h' : AH} (hs : zs_X11_gcd h u0 u1 u2 = some (r, h')) : hC l D z yX11_gcd cX11_gcd 4 (Option.some (Jvm.ClassFile.FieldType.object "WideWholesModel$Whole")) 5 141 0 0 [.ref u0, .ref u1, .ref u2] h h' (some (.ref r)) := by
  refine hC_of (by decide) (Nat.le_of_ble_eq_true rfl) ?_
  intro p e s m below meth c hx hb hml hrt hlk hown hnm hts hk hr hz ls hl
  replace hown : s.vm.findClass RX11 = some m.cls := hown
  replace hl : lv_has ls 4 [(0, .ref u0), (1, .ref u1), (2, .ref u2)] := hl
  have hS : va_S (hA z) s.heap s.heap [] := va_S.rf
  suffices hgo : ∀ (H : Heap) (locs : List Loc), hR D z h H → va_S (hA z) s.heap H locs → W p l e ({ frames := 5, cells := 0, slots := 0, locals := 141 } : Room) s m ([.ref u0, .ref u1, .ref u2] : List Value).toArray below meth c H locs 0 0 (MQ below (hQ D z h' (some (.ref r))) ([.ref u0, .ref u1, .ref u2] : List Value).toArray s 0 0 (hA z)) (F0 m 0 ls []) from hgo _ _ hr hS
  clear hr hS
  intro H locs hr hS
  unfold zs_X11_gcd at hs
  refine lv_aload_n hx hb dX11_gcd_0 rfl (lv_at hl 0 rfl) ?_
  obtain ⟨x1, ex1, hs⟩ := bi_inv hs
  refine hv_gI (C := RX11) (T := TX11) (N := 23) (ci := 11) hx hb hts inX11 hown hk hr rfl 2 (by decide) (hts _ tw_884) ex1 dX11_gcd_1 ?_
  refine lv_istore_n (lv' := [(3, .int x1), (0, .ref u0), (1, .ref u1), (2, .ref u2)]) hx hb dX11_gcd_4 rfl hl (by decide) rfl (fun ls hl => ?_)
  refine lv_aload_n hx hb dX11_gcd_5 rfl (lv_at hl 1 rfl) ?_
  obtain ⟨x2, ex2, hs⟩ := bi_inv hs
  refine hv_gR (C := RX11) (T := TX11) (N := 23) (ci := 11) hx hb hts inX11 hown hk hr rfl 7 (by decide) (hts _ tw_889) ex2 dX11_gcd_6 ?_
  refine lv_aload_n hx hb dX11_gcd_9 rfl (lv_at hl 2 rfl) ?_
  obtain ⟨_, ex3, hs⟩ := bi_inv hs
  obtain ⟨g4, eg4, hs⟩ := bi_inv hs
  refine hv_V0 (n := 1) [.ref u1] [] hx hb hml hown hts hk hr hz hS (zm_X10_become l D z eg4) ex3 rfl tw_875 tw_876 tw_877 tw_12 tw_878 (by decide +kernel) (by decide) ⟨(Nat.zero_le _), (Nat.zero_le _)⟩ rfl hl.1 (Nat.le_of_ble_eq_true rfl) dX11_gcd_10 rfl (fun H locs hr hS => ?_)
  refine lv_aload_n hx hb dX11_gcd_13 rfl (lv_at hl 1 rfl) ?_
  obtain ⟨x5, ex5, hs⟩ := bi_inv hs
  refine hv_gR (C := RX11) (T := TX11) (N := 23) (ci := 11) hx hb hts inX11 hown hk hr rfl 8 (by decide) (hts _ tw_890) ex5 dX11_gcd_14 ?_
  refine lv_aload_n hx hb dX11_gcd_17 rfl (lv_at hl 3 rfl) ?_
  obtain ⟨_, ex6, hs⟩ := bi_inv hs
  obtain ⟨g7, eg7, hs⟩ := bi_inv hs
  refine hv_V0 (n := 1) [.ref u2] [] hx hb hml hown hts hk hr hz hS (zm_X10_become l D z eg7) ex6 rfl tw_875 tw_876 tw_877 tw_12 tw_878 (by decide +kernel) (by decide) ⟨(Nat.zero_le _), (Nat.zero_le _)⟩ rfl hl.1 (Nat.le_of_ble_eq_true rfl) dX11_gcd_18 rfl (fun H locs hr hS => ?_)
  refine lv_aload_n hx hb dX11_gcd_21 rfl (lv_at hl 1 rfl) ?_
  obtain ⟨x8, ex8, hs⟩ := bi_inv hs
  refine hv_gR (C := RX11) (T := TX11) (N := 23) (ci := 11) hx hb hts inX11 hown hk hr rfl 7 (by decide) (hts _ tw_889) ex8 dX11_gcd_22 ?_
  refine lv_iconst (v := 0) hx hb dX11_gcd_25 (by decide) ?_
  obtain ⟨g9, eg9, hs⟩ := bi_inv hs
  refine hv_pV (C := RX10) (T := TX10) (N := 3) (ci := 10) hx hb hts inX10 tyX10 tyX10_ok nmX10 hown hk hr hS rfl 0 (by decide) (hts _ tw_863) rfl rfl rfl eg9 dX11_gcd_26 (fun H locs hr hS => ?_)
  refine lv_aload_n hx hb dX11_gcd_29 rfl (lv_at hl 1 rfl) ?_
  obtain ⟨x10, ex10, hs⟩ := bi_inv hs
  refine hv_gR (C := RX11) (T := TX11) (N := 23) (ci := 11) hx hb hts inX11 hown hk hr rfl 8 (by decide) (hts _ tw_890) ex10 dX11_gcd_30 ?_
  refine lv_iconst (v := 0) hx hb dX11_gcd_33 (by decide) ?_
  obtain ⟨g11, eg11, hs⟩ := bi_inv hs
  refine hv_pV (C := RX10) (T := TX10) (N := 3) (ci := 10) hx hb hts inX10 tyX10 tyX10_ok nmX10 hown hk hr hS rfl 0 (by decide) (hts _ tw_863) rfl rfl rfl eg11 dX11_gcd_34 (fun H locs hr hS => ?_)
  obtain ⟨r30, er30, hs⟩ := bi_inv hs
  refine iter_W (fun (q : AH) => ∀ (H : Heap) (locs : List Loc) (ls : Array Slot), hR D z q H → va_S (hA z) s.heap H locs → lv_has ls 4 [(0, .ref u0), (3, .int x1)] → W p l e ({ frames := 5, cells := 0, slots := 0, locals := 141 } : Room) s m ([.ref u0, .ref u1, .ref u2] : List Value).toArray below meth c H locs 0 0 (MQ below (hQ D z h' (some (.ref r))) ([.ref u0, .ref u1, .ref u2] : List Value).toArray s 0 0 (hA z)) (F0 m 37 ls [])) (fun (x : AH) => ∀ (H : Heap) (locs : List Loc) (ls : Array Slot), hR D z x H → va_S (hA z) s.heap H locs → lv_has ls 4 [(0, .ref u0)] → W p l e ({ frames := 5, cells := 0, slots := 0, locals := 141 } : Room) s m ([.ref u0, .ref u1, .ref u2] : List Value).toArray below meth c H locs 0 0 (MQ below (hQ D z h' (some (.ref r))) ([.ref u0, .ref u1, .ref u2] : List Value).toArray s 0 0 (hA z)) (F0 m 89 ls [])) ?_ FU _ r30 er30 ?_ H locs ls hr hS (lv_sub hl [1, 0] rfl)
  · intro q o hs hcont hexit
    obtain ⟨g12, rfl⟩ : ∃ q2, q2 = q := ⟨_, rfl⟩
    replace hs : zb_X11_gcd_37 u0 x1 g12 = some o := hs
    intro H locs ls hr hS hl
    unfold zb_X11_gcd_37 at hs
    refine lv_aload_n hx hb dX11_gcd_37 rfl (lv_at hl 0 rfl) ?_
    obtain ⟨x13, ex13, hs⟩ := bi_inv hs
    refine hv_gR (C := RX11) (T := TX11) (N := 23) (ci := 11) hx hb hts inX11 hown hk hr rfl 8 (by decide) (hts _ tw_890) ex13 dX11_gcd_38 ?_
    obtain ⟨_, ex14, hs⟩ := bi_inv hs
    obtain ⟨x15, ex15, hs⟩ := bi_inv hs
    refine hv_V1 (n := 0) [] [] hx hb hml hown hts hk hr hz hS (zm_X10_isZero l D z ex15) ex14 rfl tw_1011 tw_1012 tw_1013 tw_12 tw_1014 (by decide +kernel) (by decide) ⟨(Nat.zero_le _), (Nat.zero_le _)⟩ rfl hl.1 (Nat.le_of_ble_eq_true rfl) dX11_gcd_41 rfl (fun H locs hr hS => ?_)
    refine lv_if_ne (tgt := 89) hx hb dX11_gcd_44 (by decide) (fun c16 => ?_) (fun c16 => ?_)
    · rw [if_neg c16] at hs
      obtain rfl := Option.some.inj hs
      exact hexit _ rfl H locs ls hr hS (lv_sub hl [0] rfl)
    · rw [if_pos c16] at hs
      refine lv_aload_n hx hb dX11_gcd_47 rfl (lv_at hl 0 rfl) ?_
      refine lv_aload_n hx hb dX11_gcd_48 rfl (lv_at hl 0 rfl) ?_
      obtain ⟨x17, ex17, hs⟩ := bi_inv hs
      refine hv_gR (C := RX11) (T := TX11) (N := 23) (ci := 11) hx hb hts inX11 hown hk hr rfl 7 (by decide) (hts _ tw_889) ex17 dX11_gcd_49 ?_
      refine lv_aload_n hx hb dX11_gcd_52 rfl (lv_at hl 0 rfl) ?_
      obtain ⟨x18, ex18, hs⟩ := bi_inv hs
      refine hv_gR (C := RX11) (T := TX11) (N := 23) (ci := 11) hx hb hts inX11 hown hk hr rfl 8 (by decide) (hts _ tw_890) ex18 dX11_gcd_53 ?_
      obtain ⟨_, ex19, hs⟩ := bi_inv hs
      obtain ⟨g20, eg20, hs⟩ := bi_inv hs
      refine hv_V0 (n := 2) [.ref x17, .ref x18] [] hx hb hml hown hts hk hr hz hS (zm_X11_divide l D z eg20) ex19 rfl tw_1040 tw_1042 ts_32 tw_11 tw_1043 (by decide +kernel) (by decide) ⟨(Nat.zero_le _), (Nat.zero_le _)⟩ rfl hl.1 (Nat.le_of_ble_eq_true rfl) dX11_gcd_56 rfl (fun H locs hr hS => ?_)
      refine lv_aload_n hx hb dX11_gcd_59 rfl (lv_at hl 0 rfl) ?_
      obtain ⟨x21, ex21, hs⟩ := bi_inv hs
      refine hv_gR (C := RX11) (T := TX11) (N := 23) (ci := 11) hx hb hts inX11 hown hk hr rfl 7 (by decide) (hts _ tw_889) ex21 dX11_gcd_60 ?_
      refine lv_aload_n hx hb dX11_gcd_63 rfl (lv_at hl 0 rfl) ?_
      obtain ⟨x22, ex22, hs⟩ := bi_inv hs
      refine hv_gR (C := RX11) (T := TX11) (N := 23) (ci := 11) hx hb hts inX11 hown hk hr rfl 8 (by decide) (hts _ tw_890) ex22 dX11_gcd_64 ?_
      obtain ⟨_, ex23, hs⟩ := bi_inv hs
      obtain ⟨g24, eg24, hs⟩ := bi_inv hs
      refine hv_V0 (n := 1) [.ref x22] [] hx hb hml hown hts hk hr hz hS (zm_X10_become l D z eg24) ex23 rfl tw_875 tw_876 tw_877 tw_12 tw_878 (by decide +kernel) (by decide) ⟨(Nat.zero_le _), (Nat.zero_le _)⟩ rfl hl.1 (Nat.le_of_ble_eq_true rfl) dX11_gcd_67 rfl (fun H locs hr hS => ?_)
      refine lv_aload_n hx hb dX11_gcd_70 rfl (lv_at hl 0 rfl) ?_
      obtain ⟨x25, ex25, hs⟩ := bi_inv hs
      refine hv_gR (C := RX11) (T := TX11) (N := 23) (ci := 11) hx hb hts inX11 hown hk hr rfl 8 (by decide) (hts _ tw_890) ex25 dX11_gcd_71 ?_
      refine lv_aload_n hx hb dX11_gcd_74 rfl (lv_at hl 0 rfl) ?_
      obtain ⟨x26, ex26, hs⟩ := bi_inv hs
      refine hv_gR (C := RX11) (T := TX11) (N := 23) (ci := 11) hx hb hts inX11 hown hk hr rfl 6 (by decide) (hts _ tw_888) ex26 dX11_gcd_75 ?_
      obtain ⟨_, ex27, hs⟩ := bi_inv hs
      obtain ⟨g28, eg28, hs⟩ := bi_inv hs
      refine hv_V0 (n := 1) [.ref x26] [] hx hb hml hown hts hk hr hz hS (zm_X10_become l D z eg28) ex27 rfl tw_875 tw_876 tw_877 tw_12 tw_878 (by decide +kernel) (by decide) ⟨(Nat.zero_le _), (Nat.zero_le _)⟩ rfl hl.1 (Nat.le_of_ble_eq_true rfl) dX11_gcd_78 rfl (fun H locs hr hS => ?_)
      refine lv_aload_n hx hb dX11_gcd_81 rfl (lv_at hl 0 rfl) ?_
      refine lv_iload_n hx hb dX11_gcd_82 rfl (lv_at hl 1 rfl) ?_
      obtain ⟨g29, eg29, hs⟩ := bi_inv hs
      refine hv_pV (C := RX11) (T := TX11) (N := 23) (ci := 11) hx hb hts inX11 tyX11 tyX11_ok nmX11 hown hk hr hS rfl 2 (by decide) (hts _ tw_884) rfl rfl rfl eg29 dX11_gcd_83 (fun H locs hr hS => ?_)
      refine lv_goto (tgt := 37) hx hb dX11_gcd_86 (by decide) ?_
      obtain rfl := Option.some.inj hs
      exact hcont _ rfl H locs ls hr hS (lv_sub hl [0, 1] rfl)
  · intro H locs ls hr hS hl
    refine lv_aload_n hx hb dX11_gcd_89 rfl (lv_at hl 0 rfl) ?_
    refine lv_aload_n hx hb dX11_gcd_90 rfl (lv_at hl 0 rfl) ?_
    obtain ⟨x31, ex31, hs⟩ := bi_inv hs
    refine hv_gR (C := RX11) (T := TX11) (N := 23) (ci := 11) hx hb hts inX11 hown hk hr rfl 7 (by decide) (hts _ tw_889) ex31 dX11_gcd_91 ?_
    obtain ⟨_, ex32, hs⟩ := bi_inv hs
    obtain ⟨x33, ex33, hs⟩ := bi_inv hs
    refine hv_V1 (n := 1) [.ref x31] [] hx hb hml hown hts hk hr hz hS (zm_X11_copy l D z ex33) ex32 rfl tw_996 tw_998 ts_25 tw_11 tw_999 (by decide +kernel) (by decide) ⟨(Nat.zero_le _), (Nat.zero_le _)⟩ rfl hl.1 (Nat.le_of_ble_eq_true rfl) dX11_gcd_94 rfl (fun H locs hr hS => ?_)
    obtain ⟨rfl, rfl⟩ := Prod.mk.inj (Option.some.inj hs)
    exact hv_aret hx hb hrt (by first | exact Or.inl ⟨_, rfl⟩ | exact Or.inr ⟨_, rfl⟩) hlk hr hS dX11_gcd_97
theorem dX11_over_0 : decode cX11_over 0 = .ok (.aload_n 0, 1) := by decide +kernel
theorem dX11_over_1 : decode cX11_over 1 = .ok (.aload_n 2, 1) := by decide +kernel
theorem dX11_over_2 : decode cX11_over 2 = .ok (.aload_n 3, 1) := by decide +kernel
theorem dX11_over_3 : decode cX11_over 3 = .ok (.invokevirtual 110, 3) := by decide +kernel
theorem dX11_over_6 : decode cX11_over 6 = .ok (.aload_n 0, 1) := by decide +kernel
theorem dX11_over_7 : decode cX11_over 7 = .ok (.getfield 78, 3) := by decide +kernel
theorem dX11_over_10 : decode cX11_over 10 = .ok (.aload_n 2, 1) := by decide +kernel
theorem dX11_over_11 : decode cX11_over 11 = .ok (.getfield 38, 3) := by decide +kernel
theorem dX11_over_14 : decode cX11_over 14 = .ok (.aload_n 3, 1) := by decide +kernel
theorem dX11_over_15 : decode cX11_over 15 = .ok (.getfield 38, 3) := by decide +kernel
theorem dX11_over_18 : decode cX11_over 18 = .ok (.if_icmp .eq 17, 3) := by decide +kernel
theorem dX11_over_21 : decode cX11_over 21 = .ok (.aload_n 0, 1) := by decide +kernel
theorem dX11_over_22 : decode cX11_over 22 = .ok (.getfield 78, 3) := by decide +kernel
theorem dX11_over_25 : decode cX11_over 25 = .ok (.getfield 42, 3) := by decide +kernel
theorem dX11_over_28 : decode cX11_over 28 = .ok (.ifCond .le 7, 3) := by decide +kernel
theorem dX11_over_31 : decode cX11_over 31 = .ok (.iconst 1, 1) := by decide +kernel
theorem dX11_over_32 : decode cX11_over 32 = .ok (.goto 4, 3) := by decide +kernel
theorem dX11_over_35 : decode cX11_over 35 = .ok (.iconst 0, 1) := by decide +kernel
theorem dX11_over_36 : decode cX11_over 36 = .ok (.putfield 38, 3) := by decide +kernel
theorem dX11_over_39 : decode cX11_over 39 = .ok (.aload_n 0, 1) := by decide +kernel
theorem dX11_over_40 : decode cX11_over 40 = .ok (.getfield 84, 3) := by decide +kernel
theorem dX11_over_43 : decode cX11_over 43 = .ok (.aload_n 2, 1) := by decide +kernel
theorem dX11_over_44 : decode cX11_over 44 = .ok (.getfield 38, 3) := by decide +kernel
theorem dX11_over_47 : decode cX11_over 47 = .ok (.ifCond .eq 17, 3) := by decide +kernel
theorem dX11_over_50 : decode cX11_over 50 = .ok (.aload_n 0, 1) := by decide +kernel
theorem dX11_over_51 : decode cX11_over 51 = .ok (.getfield 84, 3) := by decide +kernel
theorem dX11_over_54 : decode cX11_over 54 = .ok (.getfield 42, 3) := by decide +kernel
theorem dX11_over_57 : decode cX11_over 57 = .ok (.ifCond .le 7, 3) := by decide +kernel
theorem dX11_over_60 : decode cX11_over 60 = .ok (.iconst 1, 1) := by decide +kernel
theorem dX11_over_61 : decode cX11_over 61 = .ok (.goto 4, 3) := by decide +kernel
theorem dX11_over_64 : decode cX11_over 64 = .ok (.iconst 0, 1) := by decide +kernel
theorem dX11_over_65 : decode cX11_over 65 = .ok (.putfield 38, 3) := by decide +kernel
theorem dX11_over_68 : decode cX11_over 68 = .ok (.iload_n 1, 1) := by decide +kernel
theorem dX11_over_69 : decode cX11_over 69 = .ok (.iconst 1, 1) := by decide +kernel
theorem dX11_over_70 : decode cX11_over 70 = .ok (.if_icmp .ne 27, 3) := by decide +kernel
theorem dX11_over_73 : decode cX11_over 73 = .ok (.aload_n 0, 1) := by decide +kernel
theorem dX11_over_74 : decode cX11_over 74 = .ok (.getfield 84, 3) := by decide +kernel
theorem dX11_over_77 : decode cX11_over 77 = .ok (.invokevirtual 60, 3) := by decide +kernel
theorem dX11_over_80 : decode cX11_over 80 = .ok (.ifCond .ne 17, 3) := by decide +kernel
theorem dX11_over_83 : decode cX11_over 83 = .ok (.aload_n 0, 1) := by decide +kernel
theorem dX11_over_84 : decode cX11_over 84 = .ok (.getfield 84, 3) := by decide +kernel
theorem dX11_over_87 : decode cX11_over 87 = .ok (.getfield 38, 3) := by decide +kernel
theorem dX11_over_90 : decode cX11_over 90 = .ok (.aload_n 3, 1) := by decide +kernel
theorem dX11_over_91 : decode cX11_over 91 = .ok (.getfield 38, 3) := by decide +kernel
theorem dX11_over_94 : decode cX11_over 94 = .ok (.if_icmp .ne 18, 3) := by decide +kernel
theorem dX11_over_97 : decode cX11_over 97 = .ok (.iload_n 1, 1) := by decide +kernel
theorem dX11_over_98 : decode cX11_over 98 = .ok (.iconst 2, 1) := by decide +kernel
theorem dX11_over_99 : decode cX11_over 99 = .ok (.if_icmp .ne 17, 3) := by decide +kernel
theorem dX11_over_102 : decode cX11_over 102 = .ok (.aload_n 0, 1) := by decide +kernel
theorem dX11_over_103 : decode cX11_over 103 = .ok (.getfield 84, 3) := by decide +kernel
theorem dX11_over_106 : decode cX11_over 106 = .ok (.getfield 38, 3) := by decide +kernel
theorem dX11_over_109 : decode cX11_over 109 = .ok (.ifCond .eq 7, 3) := by decide +kernel
theorem dX11_over_112 : decode cX11_over 112 = .ok (.iconst 1, 1) := by decide +kernel
theorem dX11_over_113 : decode cX11_over 113 = .ok (.goto 4, 3) := by decide +kernel
theorem dX11_over_116 : decode cX11_over 116 = .ok (.iconst 0, 1) := by decide +kernel
theorem dX11_over_117 : decode cX11_over 117 = .ok (.istore 4, 2) := by decide +kernel
theorem dX11_over_119 : decode cX11_over 119 = .ok (.iload 4, 2) := by decide +kernel
theorem dX11_over_121 : decode cX11_over 121 = .ok (.ifCond .eq 76, 3) := by decide +kernel
theorem dX11_over_124 : decode cX11_over 124 = .ok (.iload_n 1, 1) := by decide +kernel
theorem dX11_over_125 : decode cX11_over 125 = .ok (.iconst 2, 1) := by decide +kernel
theorem dX11_over_126 : decode cX11_over 126 = .ok (.if_icmp .ne 14, 3) := by decide +kernel
theorem dX11_over_129 : decode cX11_over 129 = .ok (.aload_n 3, 1) := by decide +kernel
theorem dX11_over_130 : decode cX11_over 130 = .ok (.getfield 38, 3) := by decide +kernel
theorem dX11_over_133 : decode cX11_over 133 = .ok (.ifCond .eq 7, 3) := by decide +kernel
theorem dX11_over_136 : decode cX11_over 136 = .ok (.iconst 1, 1) := by decide +kernel
theorem dX11_over_137 : decode cX11_over 137 = .ok (.goto 4, 3) := by decide +kernel
theorem dX11_over_140 : decode cX11_over 140 = .ok (.iconst 0, 1) := by decide +kernel
theorem dX11_over_141 : decode cX11_over 141 = .ok (.istore 5, 2) := by decide +kernel
theorem dX11_over_143 : decode cX11_over 143 = .ok (.aload_n 0, 1) := by decide +kernel
theorem dX11_over_144 : decode cX11_over 144 = .ok (.iload 5, 2) := by decide +kernel
theorem dX11_over_146 : decode cX11_over 146 = .ok (.ifCond .eq 18, 3) := by decide +kernel
theorem dX11_over_149 : decode cX11_over 149 = .ok (.aload_n 0, 1) := by decide +kernel
theorem dX11_over_150 : decode cX11_over 150 = .ok (.aload_n 0, 1) := by decide +kernel
theorem dX11_over_151 : decode cX11_over 151 = .ok (.getfield 78, 3) := by decide +kernel
theorem dX11_over_154 : decode cX11_over 154 = .ok (.aload_n 0, 1) := by decide +kernel
theorem dX11_over_155 : decode cX11_over 155 = .ok (.getfield 113, 3) := by decide +kernel
theorem dX11_over_158 : decode cX11_over 158 = .ok (.invokevirtual 116, 3) := by decide +kernel
theorem dX11_over_161 : decode cX11_over 161 = .ok (.goto 15, 3) := by decide +kernel
theorem dX11_over_164 : decode cX11_over 164 = .ok (.aload_n 0, 1) := by decide +kernel
theorem dX11_over_165 : decode cX11_over 165 = .ok (.aload_n 0, 1) := by decide +kernel
theorem dX11_over_166 : decode cX11_over 166 = .ok (.getfield 78, 3) := by decide +kernel
theorem dX11_over_169 : decode cX11_over 169 = .ok (.aload_n 0, 1) := by decide +kernel
theorem dX11_over_170 : decode cX11_over 170 = .ok (.getfield 113, 3) := by decide +kernel
theorem dX11_over_173 : decode cX11_over 173 = .ok (.invokevirtual 119, 3) := by decide +kernel
theorem dX11_over_176 : decode cX11_over 176 = .ok (.putfield 78, 3) := by decide +kernel
theorem dX11_over_179 : decode cX11_over 179 = .ok (.aload_n 0, 1) := by decide +kernel
theorem dX11_over_180 : decode cX11_over 180 = .ok (.aload_n 0, 1) := by decide +kernel
theorem dX11_over_181 : decode cX11_over 181 = .ok (.aload_n 2, 1) := by decide +kernel
theorem dX11_over_182 : decode cX11_over 182 = .ok (.aload_n 0, 1) := by decide +kernel
theorem dX11_over_183 : decode cX11_over 183 = .ok (.aload_n 3, 1) := by decide +kernel
theorem dX11_over_184 : decode cX11_over 184 = .ok (.aload_n 0, 1) := by decide +kernel
theorem dX11_over_185 : decode cX11_over 185 = .ok (.getfield 78, 3) := by decide +kernel
theorem dX11_over_188 : decode cX11_over 188 = .ok (.invokevirtual 122, 3) := by decide +kernel
theorem dX11_over_191 : decode cX11_over 191 = .ok (.invokevirtual 119, 3) := by decide +kernel
theorem dX11_over_194 : decode cX11_over 194 = .ok (.putfield 84, 3) := by decide +kernel
theorem dX11_over_197 : decode cX11_over 197 = .ok (.return_, 1) := by decide +kernel
def zj_X11_over_176 (g28 : AH) (y0_176 : Nat) (y2_176 : Nat) (y3_176 : Nat) (t0_176 : Nat) (t1_176 : Nat) : Option AH :=
  (pV g28 t1_176 11 5 (.ref t0_176)).bind fun g29 => (gR g29 y0_176 11 5).bind fun x30 => (chk g29 y0_176 11).bind fun _ => (zs_X11_times g29 y0_176 y3_176 x30).bind fun x32 => (chk x32.2 y0_176 11).bind fun _ => (zs_X11_less x32.2 y0_176 y2_176 x32.1).bind fun x34 => (pV x34.2 y0_176 11 6 (.ref x34.1)).bind fun g35 => some g35
def zj_X11_over_141 (g22 : AH) (y0_141 : Nat) (y2_141 : Nat) (y3_141 : Nat) (t0_141 : Int32) : Option AH :=
  (if t0_141 = 0 then (gR g22 y0_141 11 5).bind fun x24 => (gR g22 y0_141 11 4).bind fun x25 => (chk g22 y0_141 11).bind fun _ => (zs_X11_less g22 y0_141 x24 x25).bind fun x27 => zj_X11_over_176 x27.2 y0_141 y2_141 y3_141 x27.1 y0_141 else (gR g22 y0_141 11 5).bind fun x36 => (gR g22 y0_141 11 4).bind fun x37 => (chk g22 y0_141 11).bind fun _ => (zs_X11_sum_ g22 y0_141 x36 x37).bind fun x39 => zj_X11_over_176 x39.2 y0_141 y2_141 y3_141 x39.1 y0_141)
def zj_X11_over_117 (g19 : AH) (y0_117 : Nat) (y1_117 : Int32) (y2_117 : Nat) (y3_117 : Nat) (t0_117 : Int32) : Option AH :=
  (if t0_117 = 0 then some g19 else (if y1_117 = (2 : Int32) then (gI g19 y3_117 10 0).bind fun x40 => (if x40 = 0 then zj_X11_over_141 g19 y0_117 y2_117 y3_117 ((0 : Int32)) else zj_X11_over_141 g19 y0_117 y2_117 y3_117 ((1 : Int32))) else zj_X11_over_141 g19 y0_117 y2_117 y3_117 ((0 : Int32))))
def zj_X11_over_97 (g17 : AH) (y0_97 : Nat) (y1_97 : Int32) (y2_97 : Nat) (y3_97 : Nat) : Option AH :=
  (if y1_97 = (2 : Int32) then (gR g17 y0_97 11 6).bind fun x42 => (gI g17 x42 10 0).bind fun x43 => (if x43 = 0 then zj_X11_over_117 g17 y0_97 y1_97 y2_97 y3_97 ((0 : Int32)) else zj_X11_over_117 g17 y0_97 y1_97 y2_97 y3_97 ((1 : Int32))) else zj_X11_over_117 g17 y0_97 y1_97 y2_97 y3_97 ((0 : Int32)))
def zj_X11_over_65 (g13 : AH) (y0_65 : Nat) (y1_65 : Int32) (y2_65 : Nat) (y3_65 : Nat) (t0_65 : Int32) (t1_65 : Nat) : Option AH :=
  (zk t0_65).bind fun _ => (pV g13 t1_65 10 0 (.int t0_65)).bind fun g15 => (if y1_65 = (1 : Int32) then (gR g15 y0_65 11 6).bind fun x45 => (chk g15 x45 10).bind fun _ => (zs_X10_isZero g15 x45).bind fun x47 => (if x47 = 0 then (gR g15 y0_65 11 6).bind fun x49 => (gI g15 x49 10 0).bind fun x50 => (gI g15 y3_65 10 0).bind fun x51 => (if x50 = x51 then zj_X11_over_97 g15 y0_65 y1_65 y2_65 y3_65 else zj_X11_over_117 g15 y0_65 y1_65 y2_65 y3_65 ((1 : Int32))) else zj_X11_over_97 g15 y0_65 y1_65 y2_65 y3_65) else zj_X11_over_97 g15 y0_65 y1_65 y2_65 y3_65)
def zj_X11_over_36 (g7 : AH) (y0_36 : Nat) (y1_36 : Int32) (y2_36 : Nat) (y3_36 : Nat) (t0_36 : Int32) (t1_36 : Nat) : Option AH :=
  (zk t0_36).bind fun _ => (pV g7 t1_36 10 0 (.int t0_36)).bind fun g9 => (gR g9 y0_36 11 6).bind fun x10 => (gI g9 y2_36 10 0).bind fun x11 => (if x11 = 0 then zj_X11_over_65 g9 y0_36 y1_36 y2_36 y3_36 ((0 : Int32)) x10 else (gR g9 y0_36 11 6).bind fun x53 => (gI g9 x53 10 1).bind fun x54 => (if x54 ≤ 0 then zj_X11_over_65 g9 y0_36 y1_36 y2_36 y3_36 ((0 : Int32)) x10 else zj_X11_over_65 g9 y0_36 y1_36 y2_36 y3_36 ((1 : Int32)) x10))
def zs_X11_over (h : AH) (u0 : Nat) (u1 : Int32) (u2 : Nat) (u3 : Nat) : Option AH :=
  (chk h u0 11).bind fun _ => (zs_X11_divide h u0 u2 u3).bind fun g2 => (gR g2 u0 11 5).bind fun x3 => (gI g2 u2 10 0).bind fun x4 => (gI g2 u3 10 0).bind fun x5 => (if x4 = x5 then zj_X11_over_36 g2 u0 u1 u2 u3 ((0 : Int32)) x3 else (gR g2 u0 11 5).bind fun x56 => (gI g2 x56 10 1).bind fun x57 => (if x57 ≤ 0 then zj_X11_over_36 g2 u0 u1 u2 u3 ((0 : Int32)) x3 else zj_X11_over_36 g2 u0 u1 u2 u3 ((1 : Int32)) x3))
set_option maxRecDepth 100000 in
set_option maxHeartbeats 4000000 in
theorem zm_X11_over (l : Launch) (D : hG) (z : Nat) {h : AH} {u0 : Nat} {u1 : Int32} {u2 : Nat} {u3 : Nat} {h' : AH} (hs : zs_X11_over h u0 u1 u2 u3 = some h') : hC l D z yX11_over cX11_over 6 (Option.none : Option Jvm.ClassFile.FieldType) 5 141 0 0 [.ref u0, .int u1, .ref u2, .ref u3] h h' none := by
  refine hC_of (by decide) (Nat.le_of_ble_eq_true rfl) ?_
  intro p e s m below meth c hx hb hml hrt hlk hown hnm hts hk hr hz ls hl
  replace hown : s.vm.findClass RX11 = some m.cls := hown
  replace hl : lv_has ls 6 [(0, .ref u0), (1, .int u1), (2, .ref u2), (3, .ref u3)] := hl
  have hS : va_S (hA z) s.heap s.heap [] := va_S.rf
  suffices hgo : ∀ (H : Heap) (locs : List Loc), hR D z h H → va_S (hA z) s.heap H locs → W p l e ({ frames := 5, cells := 0, slots := 0, locals := 141 } : Room) s m ([.ref u0, .int u1, .ref u2, .ref u3] : List Value).toArray below meth c H locs 0 0 (MQ below (hQ D z h' none) ([.ref u0, .int u1, .ref u2, .ref u3] : List Value).toArray s 0 0 (hA z)) (F0 m 0 ls []) from hgo _ _ hr hS
  clear hr hS
  intro H locs hr hS
  have hJ176 : ∀ (g28 : AH) (y0_176 : Nat) (y2_176 : Nat) (y3_176 : Nat) (t0_176 : Nat) (t1_176 : Nat) (H : Heap) (locs : List Loc) (ls : Array Slot), zj_X11_over_176 g28 y0_176 y2_176 y3_176 t0_176 t1_176 = some h' → hR D z g28 H → va_S (hA z) s.heap H locs → lv_has ls 6 [(0, .ref y0_176), (2, .ref y2_176), (3, .ref y3_176)] → W p l e ({ frames := 5, cells := 0, slots := 0, locals := 141 } : Room) s m ([.ref u0, .int u1, .ref u2, .ref u3] : List Value).toArray below meth c H locs 0 0 (MQ below (hQ D z h' none) ([.ref u0, .int u1, .ref u2, .ref u3] : List Value).toArray s 0 0 (hA z)) (F0 m 176 ls [.ref t0_176, .ref t1_176]) := by
    intro g28 y0_176 y2_176 y3_176 t0_176 t1_176 H locs ls hs hr hS hl
    unfold zj_X11_over_176 at hs
    obtain ⟨g29, eg29, hs⟩ := bi_inv hs
    refine hv_pV (C := RX11) (T := TX11) (N := 23) (ci := 11) hx hb hts inX11 tyX11 tyX11_ok nmX11 hown hk hr hS rfl 5 (by decide) (hts _ tw_887) rfl rfl rfl eg29 dX11_over_176 (fun H locs hr hS => ?_)
    refine lv_aload_n hx hb dX11_over_179 rfl (lv_at hl 0 rfl) ?_
    refine lv_aload_n hx hb dX11_over_180 rfl (lv_at hl 0 rfl) ?_
    refine lv_aload_n hx hb dX11_over_181 rfl (lv_at hl 1 rfl) ?_
    refine lv_aload_n hx hb dX11_over_182 rfl (lv_at hl 0 rfl) ?_
    refine lv_aload_n hx hb dX11_over_183 rfl (lv_at hl 2 rfl) ?_
    refine lv_aload_n hx hb dX11_over_184 rfl (lv_at hl 0 rfl) ?_
    obtain ⟨x30, ex30, hs⟩ := bi_inv hs
    refine hv_gR (C := RX11) (T := TX11) (N := 23) (ci := 11) hx hb hts inX11 hown hk hr rfl 5 (by decide) (hts _ tw_887) ex30 dX11_over_185 ?_
    obtain ⟨_, ex31, hs⟩ := bi_inv hs
    obtain ⟨x32, ex32, hs⟩ := bi_inv hs
    refine hv_V1 (n := 2) [.ref y3_176, .ref x30] [.ref y2_176, .ref y0_176, .ref y0_176] hx hb hml hown hts hk hr hz hS (zm_X11_times l D z ex32) ex31 rfl tw_1003 tw_1005 ts_26 tw_11 tw_1006 (by decide +kernel) (by decide) ⟨(Nat.zero_le _), (Nat.zero_le _)⟩ rfl hl.1 (Nat.le_of_ble_eq_true rfl) dX11_over_188 rfl (fun H locs hr hS => ?_)
    obtain ⟨_, ex33, hs⟩ := bi_inv hs
    obtain ⟨x34, ex34, hs⟩ := bi_inv hs
    refine hv_V1 (n := 2) [.ref y2_176, .ref x32.1] [.ref y0_176] hx hb hml hown hts hk hr hz hS (zm_X11_less l D z ex34) ex33 rfl tw_1099 tw_1101 ts_37 tw_11 tw_1102 (by decide +kernel) (by decide) ⟨(Nat.zero_le _), (Nat.zero_le _)⟩ rfl hl.1 (Nat.le_of_ble_eq_true rfl) dX11_over_191 rfl (fun H locs hr hS => ?_)
    obtain ⟨g35, eg35, hs⟩ := bi_inv hs
    refine hv_pV (C := RX11) (T := TX11) (N := 23) (ci := 11) hx hb hts inX11 tyX11 tyX11_ok nmX11 hown hk hr hS rfl 6 (by decide) (hts _ tw_888) rfl rfl rfl eg35 dX11_over_194 (fun H locs hr hS => ?_)
    obtain rfl := Option.some.inj hs
    exact hv_vret hx hb hrt hlk hr hS dX11_over_197
  have hJ141 : ∀ (g22 : AH) (y0_141 : Nat) (y2_141 : Nat) (y3_141 : Nat) (t0_141 : Int32) (H : Heap) (locs : List Loc) (ls : Array Slot), zj_X11_over_141 g22 y0_141 y2_141 y3_141 t0_141 = some h' → hR D z g22 H → va_S (hA z) s.heap H locs → lv_has ls 6 [(0, .ref y0_141), (2, .ref y2_141), (3, .ref y3_141)] → W p l e ({ frames := 5, cells := 0, slots := 0, locals := 141 } : Room) s m ([.ref u0, .int u1, .ref u2, .ref u3] : List Value).toArray below meth c H locs 0 0 (MQ below (hQ D z h' none) ([.ref u0, .int u1, .ref u2, .ref u3] : List Value).toArray s 0 0 (hA z)) (F0 m 141 ls [.int t0_141]) := by
    intro g22 y0_141 y2_141 y3_141 t0_141 H locs ls hs hr hS hl
    unfold zj_X11_over_141 at hs
    refine lv_istore (lv' := [(5, .int t0_141), (0, .ref y0_141), (2, .ref y2_141), (3, .ref y3_141)]) hx hb dX11_over_141 hl (by decide) rfl (fun ls hl => ?_)
    refine lv_aload_n hx hb dX11_over_143 rfl (lv_at hl 1 rfl) ?_
    refine lv_iload hx hb dX11_over_144 (lv_at hl 0 rfl) ?_
    refine lv_if_eq (tgt := 164) hx hb dX11_over_146 (by decide) (fun c23 => ?_) (fun c23 => ?_)
    · rw [if_pos c23] at hs
      refine lv_aload_n hx hb dX11_over_164 rfl (lv_at hl 1 rfl) ?_
      refine lv_aload_n hx hb dX11_over_165 rfl (lv_at hl 1 rfl) ?_
      obtain ⟨x24, ex24, hs⟩ := bi_inv hs
      refine hv_gR (C := RX11) (T := TX11) (N := 23) (ci := 11) hx hb hts inX11 hown hk hr rfl 5 (by decide) (hts _ tw_887) ex24 dX11_over_166 ?_
      refine lv_aload_n hx hb dX11_over_169 rfl (lv_at hl 1 rfl) ?_
      obtain ⟨x25, ex25, hs⟩ := bi_inv hs
      refine hv_gR (C := RX11) (T := TX11) (N := 23) (ci := 11) hx hb hts inX11 hown hk hr rfl 4 (by decide) (hts _ tw_886) ex25 dX11_over_170 ?_
      obtain ⟨_, ex26, hs⟩ := bi_inv hs
      obtain ⟨x27, ex27, hs⟩ := bi_inv hs
      refine hv_V1 (n := 2) [.ref x24, .ref x25] [.ref y0_141] hx hb hml hown hts hk hr hz hS (zm_X11_less l D z ex27) ex26 rfl tw_1099 tw_1101 ts_37 tw_11 tw_1102 (by decide +kernel) (by decide) ⟨(Nat.zero_le _), (Nat.zero_le _)⟩ rfl hl.1 (Nat.le_of_ble_eq_true rfl) dX11_over_173 rfl (fun H locs hr hS => ?_)
      exact hJ176 x27.2 y0_141 y2_141 y3_141 x27.1 y0_141 H locs ls hs hr hS (lv_sub hl [1, 2, 3] rfl)
    · rw [if_neg c23] at hs
      refine lv_aload_n hx hb dX11_over_149 rfl (lv_at hl 1 rfl) ?_
      refine lv_aload_n hx hb dX11_over_150 rfl (lv_at hl 1 rfl) ?_
      obtain ⟨x36, ex36, hs⟩ := bi_inv hs
      refine hv_gR (C := RX11) (T := TX11) (N := 23) (ci := 11) hx hb hts inX11 hown hk hr rfl 5 (by decide) (hts _ tw_887) ex36 dX11_over_151 ?_
      refine lv_aload_n hx hb dX11_over_154 rfl (lv_at hl 1 rfl) ?_
      obtain ⟨x37, ex37, hs⟩ := bi_inv hs
      refine hv_gR (C := RX11) (T := TX11) (N := 23) (ci := 11) hx hb hts inX11 hown hk hr rfl 4 (by decide) (hts _ tw_886) ex37 dX11_over_155 ?_
      obtain ⟨_, ex38, hs⟩ := bi_inv hs
      obtain ⟨x39, ex39, hs⟩ := bi_inv hs
      refine hv_V1 (n := 2) [.ref x36, .ref x37] [.ref y0_141] hx hb hml hown hts hk hr hz hS (zm_X11_sum_ l D z ex39) ex38 rfl tw_1007 tw_1009 ts_27 tw_11 tw_1010 (by decide +kernel) (by decide) ⟨(Nat.zero_le _), (Nat.zero_le _)⟩ rfl hl.1 (Nat.le_of_ble_eq_true rfl) dX11_over_158 rfl (fun H locs hr hS => ?_)
      refine lv_goto (tgt := 176) hx hb dX11_over_161 (by decide) ?_
      exact hJ176 x39.2 y0_141 y2_141 y3_141 x39.1 y0_141 H locs ls hs hr hS (lv_sub hl [1, 2, 3] rfl)
  have hJ117 : ∀ (g19 : AH) (y0_117 : Nat) (y1_117 : Int32) (y2_117 : Nat) (y3_117 : Nat) (t0_117 : Int32) (H : Heap) (locs : List Loc) (ls : Array Slot), zj_X11_over_117 g19 y0_117 y1_117 y2_117 y3_117 t0_117 = some h' → hR D z g19 H → va_S (hA z) s.heap H locs → lv_has ls 6 [(0, .ref y0_117), (1, .int y1_117), (2, .ref y2_117), (3, .ref y3_117)] → W p l e ({ frames := 5, cells := 0, slots := 0, locals := 141 } : Room) s m ([.ref u0, .int u1, .ref u2, .ref u3] : List Value).toArray below meth c H locs 0 0 (MQ below (hQ D z h' none) ([.ref u0, .int u1, .ref u2, .ref u3] : List Value).toArray s 0 0 (hA z)) (F0 m 117 ls [.int t0_117]) := by
    intro g19 y0_117 y1_117 y2_117 y3_117 t0_117 H locs ls hs hr hS hl
    unfold zj_X11_over_117 at hs
    refine lv_istore (lv' := [(4, .int t0_117), (0, .ref y0_117), (1, .int y1_117), (2, .ref y2_117), (3, .ref y3_117)]) hx hb dX11_over_117 hl (by decide) rfl (fun ls hl => ?_)
    refine lv_iload hx hb dX11_over_119 (lv_at hl 0 rfl) ?_
    refine lv_if_eq (tgt := 197) hx hb dX11_over_121 (by decide) (fun c20 => ?_) (fun c20 => ?_)
    · rw [if_pos c20] at hs
      obtain rfl := Option.some.inj hs
      exact hv_vret hx hb hrt hlk hr hS dX11_over_197
    · rw [if_neg c20] at hs
      refine lv_iload_n hx hb dX11_over_124 rfl (lv_at hl 2 rfl) ?_
      refine lv_iconst (v := 2) hx hb dX11_over_125 (by decide) ?_
      refine lv_icmp_ne (tgt := 140) hx hb dX11_over_126 (by decide) (fun c21 => ?_) (fun c21 => ?_)
      · rw [if_neg c21] at hs
        refine lv_iconst (v := 0) hx hb dX11_over_140 (by decide) ?_
        exact hJ141 g19 y0_117 y2_117 y3_117 ((0 : Int32)) H locs ls hs hr hS (lv_sub hl [1, 3, 4] rfl)
      · rw [if_pos c21] at hs
        refine lv_aload_n hx hb dX11_over_129 rfl (lv_at hl 4 rfl) ?_
        obtain ⟨x40, ex40, hs⟩ := bi_inv hs
        refine hv_gI (C := RX10) (T := TX10) (N := 3) (ci := 10) hx hb hts inX10 hown hk hr rfl 0 (by decide) (hts _ tw_863) ex40 dX11_over_130 ?_
        refine lv_if_eq (tgt := 140) hx hb dX11_over_133 (by decide) (fun c41 => ?_) (fun c41 => ?_)
        · rw [if_pos c41] at hs
          refine lv_iconst (v := 0) hx hb dX11_over_140 (by decide) ?_
          exact hJ141 g19 y0_117 y2_117 y3_117 ((0 : Int32)) H locs ls hs hr hS (lv_sub hl [1, 3, 4] rfl)
        · rw [if_neg c41] at hs
          refine lv_iconst (v := 1) hx hb dX11_over_136 (by decide) ?_
          refine lv_goto (tgt := 141) hx hb dX11_over_137 (by decide) ?_
          exact hJ141 g19 y0_117 y2_117 y3_117 ((1 : Int32)) H locs ls hs hr hS (lv_sub hl [1, 3, 4] rfl)
  have hJ97 : ∀ (g17 : AH) (y0_97 : Nat) (y1_97 : Int32) (y2_97 : Nat) (y3_97 : Nat) (H : Heap) (locs : List Loc) (ls : Array Slot), zj_X11_over_97 g17 y0_97 y1_97 y2_97 y3_97 = some h' → hR D z g17 H → va_S (hA z) s.heap H locs → lv_has ls 6 [(0, .ref y0_97), (1, .int y1_97), (2, .ref y2_97), (3, .ref y3_97)] → W p l e ({ frames := 5, cells := 0, slots := 0, locals := 141 } : Room) s m ([.ref u0, .int u1, .ref u2, .ref u3] : List Value).toArray below meth c H locs 0 0 (MQ below (hQ D z h' none) ([.ref u0, .int u1, .ref u2, .ref u3] : List Value).toArray s 0 0 (hA z)) (F0 m 97 ls []) := by
    intro g17 y0_97 y1_97 y2_97 y3_97 H locs ls hs hr hS hl
    unfold zj_X11_over_97 at hs
    refine lv_iload_n hx hb dX11_over_97 rfl (lv_at hl 1 rfl) ?_
    refine lv_iconst (v := 2) hx hb dX11_over_98 (by decide) ?_
    refine lv_icmp_ne (tgt := 116) hx hb dX11_over_99 (by decide) (fun c18 => ?_) (fun c18 => ?_)
    · rw [if_neg c18] at hs
      refine lv_iconst (v := 0) hx hb dX11_over_116 (by decide) ?_
      exact hJ117 g17 y0_97 y1_97 y2_97 y3_97 ((0 : Int32)) H locs ls hs hr hS (lv_sub hl [0, 1, 2, 3] rfl)
    · rw [if_pos c18] at hs
      refine lv_aload_n hx hb dX11_over_102 rfl (lv_at hl 0 rfl) ?_
      obtain ⟨x42, ex42, hs⟩ := bi_inv hs
      refine hv_gR (C := RX11) (T := TX11) (N := 23) (ci := 11) hx hb hts inX11 hown hk hr rfl 6 (by decide) (hts _ tw_888) ex42 dX11_over_103 ?_
      obtain ⟨x43, ex43, hs⟩ := bi_inv hs
      refine hv_gI (C := RX10) (T := TX10) (N := 3) (ci := 10) hx hb hts inX10 hown hk hr rfl 0 (by decide) (hts _ tw_863) ex43 dX11_over_106 ?_
      refine lv_if_eq (tgt := 116) hx hb dX11_over_109 (by decide) (fun c44 => ?_) (fun c44 => ?_)
      · rw [if_pos c44] at hs
        refine lv_iconst (v := 0) hx hb dX11_over_116 (by decide) ?_
        exact hJ117 g17 y0_97 y1_97 y2_97 y3_97 ((0 : Int32)) H locs ls hs hr hS (lv_sub hl [0, 1, 2, 3] rfl)
      · rw [if_neg c44] at hs
        refine lv_iconst (v := 1) hx hb dX11_over_112 (by decide) ?_
        refine lv_goto (tgt := 117) hx hb dX11_over_113 (by decide) ?_
        exact hJ117 g17 y0_97 y1_97 y2_97 y3_97 ((1 : Int32)) H locs ls hs hr hS (lv_sub hl [0, 1, 2, 3] rfl)
  have hJ65 : ∀ (g13 : AH) (y0_65 : Nat) (y1_65 : Int32) (y2_65 : Nat) (y3_65 : Nat) (t0_65 : Int32) (t1_65 : Nat) (H : Heap) (locs : List Loc) (ls : Array Slot), zj_X11_over_65 g13 y0_65 y1_65 y2_65 y3_65 t0_65 t1_65 = some h' → hR D z g13 H → va_S (hA z) s.heap H locs → lv_has ls 6 [(0, .ref y0_65), (1, .int y1_65), (2, .ref y2_65), (3, .ref y3_65)] → W p l e ({ frames := 5, cells := 0, slots := 0, locals := 141 } : Room) s m ([.ref u0, .int u1, .ref u2, .ref u3] : List Value).toArray below meth c H locs 0 0 (MQ below (hQ D z h' none) ([.ref u0, .int u1, .ref u2, .ref u3] : List Value).toArray s 0 0 (hA z)) (F0 m 65 ls [.int t0_65, .ref t1_65]) := by
    intro g13 y0_65 y1_65 y2_65 y3_65 t0_65 t1_65 H locs ls hs hr hS hl
    unfold zj_X11_over_65 at hs
    obtain ⟨_, ex14, hs⟩ := bi_inv hs
    obtain ⟨g15, eg15, hs⟩ := bi_inv hs
    refine hv_pV (C := RX10) (T := TX10) (N := 3) (ci := 10) hx hb hts inX10 tyX10 tyX10_ok nmX10 hown hk hr hS rfl 0 (by decide) (hts _ tw_863) rfl (zk_n (zk_inv ex14)) (zk_f (zk_inv ex14)) eg15 dX11_over_65 (fun H locs hr hS => ?_)
    refine lv_iload_n hx hb dX11_over_68 rfl (lv_at hl 1 rfl) ?_
    refine lv_iconst (v := 1) hx hb dX11_over_69 (by decide) ?_
    refine lv_icmp_ne (tgt := 97) hx hb dX11_over_70 (by decide) (fun c16 => ?_) (fun c16 => ?_)
    · rw [if_neg c16] at hs
      exact hJ97 g15 y0_65 y1_65 y2_65 y3_65 H locs ls hs hr hS (lv_sub hl [0, 1, 2, 3] rfl)
    · rw [if_pos c16] at hs
      refine lv_aload_n hx hb dX11_over_73 rfl (lv_at hl 0 rfl) ?_
      obtain ⟨x45, ex45, hs⟩ := bi_inv hs
      refine hv_gR (C := RX11) (T := TX11) (N := 23) (ci := 11) hx hb hts inX11 hown hk hr rfl 6 (by decide) (hts _ tw_888) ex45 dX11_over_74 ?_
      obtain ⟨_, ex46, hs⟩ := bi_inv hs
      obtain ⟨x47, ex47, hs⟩ := bi_inv hs
      refine hv_V1 (n := 0) [] [] hx hb hml hown hts hk hr hz hS (zm_X10_isZero l D z ex47) ex46 rfl tw_1011 tw_1012 tw_1013 tw_12 tw_1014 (by decide +kernel) (by decide) ⟨(Nat.zero_le _), (Nat.zero_le _)⟩ rfl hl.1 (Nat.le_of_ble_eq_true rfl) dX11_over_77 rfl (fun H locs hr hS => ?_)
      refine lv_if_ne (tgt := 97) hx hb dX11_over_80 (by decide) (fun c48 => ?_) (fun c48 => ?_)
      · rw [if_neg c48] at hs
        exact hJ97 g15 y0_65 y1_65 y2_65 y3_65 H locs ls hs hr hS (lv_sub hl [0, 1, 2, 3] rfl)
      · rw [if_pos c48] at hs
        refine lv_aload_n hx hb dX11_over_83 rfl (lv_at hl 0 rfl) ?_
        obtain ⟨x49, ex49, hs⟩ := bi_inv hs
        refine hv_gR (C := RX11) (T := TX11) (N := 23) (ci := 11) hx hb hts inX11 hown hk hr rfl 6 (by decide) (hts _ tw_888) ex49 dX11_over_84 ?_
        obtain ⟨x50, ex50, hs⟩ := bi_inv hs
        refine hv_gI (C := RX10) (T := TX10) (N := 3) (ci := 10) hx hb hts inX10 hown hk hr rfl 0 (by decide) (hts _ tw_863) ex50 dX11_over_87 ?_
        refine lv_aload_n hx hb dX11_over_90 rfl (lv_at hl 3 rfl) ?_
        obtain ⟨x51, ex51, hs⟩ := bi_inv hs
        refine hv_gI (C := RX10) (T := TX10) (N := 3) (ci := 10) hx hb hts inX10 hown hk hr rfl 0 (by decide) (hts _ tw_863) ex51 dX11_over_91 ?_
        refine lv_icmp_ne (tgt := 112) hx hb dX11_over_94 (by decide) (fun c52 => ?_) (fun c52 => ?_)
        · rw [if_neg c52] at hs
          refine lv_iconst (v := 1) hx hb dX11_over_112 (by decide) ?_
          refine lv_goto (tgt := 117) hx hb dX11_over_113 (by decide) ?_
          exact hJ117 g15 y0_65 y1_65 y2_65 y3_65 ((1 : Int32)) H locs ls hs hr hS (lv_sub hl [0, 1, 2, 3] rfl)
        · rw [if_pos c52] at hs
          exact hJ97 g15 y0_65 y1_65 y2_65 y3_65 H locs ls hs hr hS (lv_sub hl [0, 1, 2, 3] rfl)
  have hJ36 : ∀ (g7 : AH) (y0_36 : Nat) (y1_36 : Int32) (y2_36 : Nat) (y3_36 : Nat) (t0_36 : Int32) (t1_36 : Nat) (H : Heap) (locs : List Loc) (ls : Array Slot), zj_X11_over_36 g7 y0_36 y1_36 y2_36 y3_36 t0_36 t1_36 = some h' → hR D z g7 H → va_S (hA z) s.heap H locs → lv_has ls 6 [(0, .ref y0_36), (1, .int y1_36), (2, .ref y2_36), (3, .ref y3_36)] → W p l e ({ frames := 5, cells := 0, slots := 0, locals := 141 } : Room) s m ([.ref u0, .int u1, .ref u2, .ref u3] : List Value).toArray below meth c H locs 0 0 (MQ below (hQ D z h' none) ([.ref u0, .int u1, .ref u2, .ref u3] : List Value).toArray s 0 0 (hA z)) (F0 m 36 ls [.int t0_36, .ref t1_36]) := by
    intro g7 y0_36 y1_36 y2_36 y3_36 t0_36 t1_36 H locs ls hs hr hS hl
    unfold zj_X11_over_36 at hs
    obtain ⟨_, ex8, hs⟩ := bi_inv hs
    obtain ⟨g9, eg9, hs⟩ := bi_inv hs
    refine hv_pV (C := RX10) (T := TX10) (N := 3) (ci := 10) hx hb hts inX10 tyX10 tyX10_ok nmX10 hown hk hr hS rfl 0 (by decide) (hts _ tw_863) rfl (zk_n (zk_inv ex8)) (zk_f (zk_inv ex8)) eg9 dX11_over_36 (fun H locs hr hS => ?_)
    refine lv_aload_n hx hb dX11_over_39 rfl (lv_at hl 0 rfl) ?_
    obtain ⟨x10, ex10, hs⟩ := bi_inv hs
    refine hv_gR (C := RX11) (T := TX11) (N := 23) (ci := 11) hx hb hts inX11 hown hk hr rfl 6 (by decide) (hts _ tw_888) ex10 dX11_over_40 ?_
    refine lv_aload_n hx hb dX11_over_43 rfl (lv_at hl 2 rfl) ?_
    obtain ⟨x11, ex11, hs⟩ := bi_inv hs
    refine hv_gI (C := RX10) (T := TX10) (N := 3) (ci := 10) hx hb hts inX10 hown hk hr rfl 0 (by decide) (hts _ tw_863) ex11 dX11_over_44 ?_
    refine lv_if_eq (tgt := 64) hx hb dX11_over_47 (by decide) (fun c12 => ?_) (fun c12 => ?_)
    · rw [if_pos c12] at hs
      refine lv_iconst (v := 0) hx hb dX11_over_64 (by decide) ?_
      exact hJ65 g9 y0_36 y1_36 y2_36 y3_36 ((0 : Int32)) x10 H locs ls hs hr hS (lv_sub hl [0, 1, 2, 3] rfl)
    · rw [if_neg c12] at hs
      refine lv_aload_n hx hb dX11_over_50 rfl (lv_at hl 0 rfl) ?_
      obtain ⟨x53, ex53, hs⟩ := bi_inv hs
      refine hv_gR (C := RX11) (T := TX11) (N := 23) (ci := 11) hx hb hts inX11 hown hk hr rfl 6 (by decide) (hts _ tw_888) ex53 dX11_over_51 ?_
      obtain ⟨x54, ex54, hs⟩ := bi_inv hs
      refine hv_gI (C := RX10) (T := TX10) (N := 3) (ci := 10) hx hb hts inX10 hown hk hr rfl 1 (by decide) (hts _ tw_865) ex54 dX11_over_54 ?_
      refine lv_if_le (tgt := 64) hx hb dX11_over_57 (by decide) (fun c55 => ?_) (fun c55 => ?_)
      · rw [if_pos c55] at hs
        refine lv_iconst (v := 0) hx hb dX11_over_64 (by decide) ?_
        exact hJ65 g9 y0_36 y1_36 y2_36 y3_36 ((0 : Int32)) x10 H locs ls hs hr hS (lv_sub hl [0, 1, 2, 3] rfl)
      · rw [if_neg c55] at hs
        refine lv_iconst (v := 1) hx hb dX11_over_60 (by decide) ?_
        refine lv_goto (tgt := 65) hx hb dX11_over_61 (by decide) ?_
        exact hJ65 g9 y0_36 y1_36 y2_36 y3_36 ((1 : Int32)) x10 H locs ls hs hr hS (lv_sub hl [0, 1, 2, 3] rfl)
  unfold zs_X11_over at hs
  refine lv_aload_n hx hb dX11_over_0 rfl (lv_at hl 0 rfl) ?_
  refine lv_aload_n hx hb dX11_over_1 rfl (lv_at hl 2 rfl) ?_
  refine lv_aload_n hx hb dX11_over_2 rfl (lv_at hl 3 rfl) ?_
  obtain ⟨_, ex1, hs⟩ := bi_inv hs
  obtain ⟨g2, eg2, hs⟩ := bi_inv hs
  refine hv_V0 (n := 2) [.ref u2, .ref u3] [] hx hb hml hown hts hk hr hz hS (zm_X11_divide l D z eg2) ex1 rfl tw_1040 tw_1042 ts_32 tw_11 tw_1043 (by decide +kernel) (by decide) ⟨(Nat.zero_le _), (Nat.zero_le _)⟩ rfl hl.1 (Nat.le_of_ble_eq_true rfl) dX11_over_3 rfl (fun H locs hr hS => ?_)
  refine lv_aload_n hx hb dX11_over_6 rfl (lv_at hl 0 rfl) ?_
  obtain ⟨x3, ex3, hs⟩ := bi_inv hs
  refine hv_gR (C := RX11) (T := TX11) (N := 23) (ci := 11) hx hb hts inX11 hown hk hr rfl 5 (by decide) (hts _ tw_887) ex3 dX11_over_7 ?_
  refine lv_aload_n hx hb dX11_over_10 rfl (lv_at hl 2 rfl) ?_
  obtain ⟨x4, ex4, hs⟩ := bi_inv hs
  refine hv_gI (C := RX10) (T := TX10) (N := 3) (ci := 10) hx hb hts inX10 hown hk hr rfl 0 (by decide) (hts _ tw_863) ex4 dX11_over_11 ?_
  refine lv_aload_n hx hb dX11_over_14 rfl (lv_at hl 3 rfl) ?_
  obtain ⟨x5, ex5, hs⟩ := bi_inv hs
  refine hv_gI (C := RX10) (T := TX10) (N := 3) (ci := 10) hx hb hts inX10 hown hk hr rfl 0 (by decide) (hts _ tw_863) ex5 dX11_over_15 ?_
  refine lv_icmp_eq (tgt := 35) hx hb dX11_over_18 (by decide) (fun c6 => ?_) (fun c6 => ?_)
  · rw [if_pos c6] at hs
    refine lv_iconst (v := 0) hx hb dX11_over_35 (by decide) ?_
    exact hJ36 g2 u0 u1 u2 u3 ((0 : Int32)) x3 H locs ls hs hr hS (lv_sub hl [0, 1, 2, 3] rfl)
  · rw [if_neg c6] at hs
    refine lv_aload_n hx hb dX11_over_21 rfl (lv_at hl 0 rfl) ?_
    obtain ⟨x56, ex56, hs⟩ := bi_inv hs
    refine hv_gR (C := RX11) (T := TX11) (N := 23) (ci := 11) hx hb hts inX11 hown hk hr rfl 5 (by decide) (hts _ tw_887) ex56 dX11_over_22 ?_
    obtain ⟨x57, ex57, hs⟩ := bi_inv hs
    refine hv_gI (C := RX10) (T := TX10) (N := 3) (ci := 10) hx hb hts inX10 hown hk hr rfl 1 (by decide) (hts _ tw_865) ex57 dX11_over_25 ?_
    refine lv_if_le (tgt := 35) hx hb dX11_over_28 (by decide) (fun c58 => ?_) (fun c58 => ?_)
    · rw [if_pos c58] at hs
      refine lv_iconst (v := 0) hx hb dX11_over_35 (by decide) ?_
      exact hJ36 g2 u0 u1 u2 u3 ((0 : Int32)) x3 H locs ls hs hr hS (lv_sub hl [0, 1, 2, 3] rfl)
    · rw [if_neg c58] at hs
      refine lv_iconst (v := 1) hx hb dX11_over_31 (by decide) ?_
      refine lv_goto (tgt := 36) hx hb dX11_over_32 (by decide) ?_
      exact hJ36 g2 u0 u1 u2 u3 ((1 : Int32)) x3 H locs ls hs hr hS (lv_sub hl [0, 1, 2, 3] rfl)
theorem dX11_keepRatio_0 : decode cX11_keepRatio 0 = .ok (.aload_n 0, 1) := by decide +kernel
theorem dX11_keepRatio_1 : decode cX11_keepRatio 1 = .ok (.aload_n 2, 1) := by decide +kernel
theorem dX11_keepRatio_2 : decode cX11_keepRatio 2 = .ok (.aload_n 3, 1) := by decide +kernel
theorem dX11_keepRatio_3 : decode cX11_keepRatio 3 = .ok (.invokevirtual 211, 3) := by decide +kernel
theorem dX11_keepRatio_6 : decode cX11_keepRatio 6 = .ok (.astore 4, 2) := by decide +kernel
theorem dX11_keepRatio_8 : decode cX11_keepRatio 8 = .ok (.aload_n 0, 1) := by decide +kernel
theorem dX11_keepRatio_9 : decode cX11_keepRatio 9 = .ok (.iconst 0, 1) := by decide +kernel
theorem dX11_keepRatio_10 : decode cX11_keepRatio 10 = .ok (.aload_n 2, 1) := by decide +kernel
theorem dX11_keepRatio_11 : decode cX11_keepRatio 11 = .ok (.aload 4, 2) := by decide +kernel
theorem dX11_keepRatio_13 : decode cX11_keepRatio 13 = .ok (.invokevirtual 207, 3) := by decide +kernel
theorem dX11_keepRatio_16 : decode cX11_keepRatio 16 = .ok (.aload_n 0, 1) := by decide +kernel
theorem dX11_keepRatio_17 : decode cX11_keepRatio 17 = .ok (.getfield 78, 3) := by decide +kernel
theorem dX11_keepRatio_20 : decode cX11_keepRatio 20 = .ok (.astore 5, 2) := by decide +kernel
theorem dX11_keepRatio_22 : decode cX11_keepRatio 22 = .ok (.aload_n 0, 1) := by decide +kernel
theorem dX11_keepRatio_23 : decode cX11_keepRatio 23 = .ok (.iconst 0, 1) := by decide +kernel
theorem dX11_keepRatio_24 : decode cX11_keepRatio 24 = .ok (.aload_n 3, 1) := by decide +kernel
theorem dX11_keepRatio_25 : decode cX11_keepRatio 25 = .ok (.aload 4, 2) := by decide +kernel
theorem dX11_keepRatio_27 : decode cX11_keepRatio 27 = .ok (.invokevirtual 207, 3) := by decide +kernel
theorem dX11_keepRatio_30 : decode cX11_keepRatio 30 = .ok (.aload_n 0, 1) := by decide +kernel
theorem dX11_keepRatio_31 : decode cX11_keepRatio 31 = .ok (.getfield 78, 3) := by decide +kernel
theorem dX11_keepRatio_34 : decode cX11_keepRatio 34 = .ok (.astore 6, 2) := by decide +kernel
theorem dX11_keepRatio_36 : decode cX11_keepRatio 36 = .ok (.aload 5, 2) := by decide +kernel
theorem dX11_keepRatio_38 : decode cX11_keepRatio 38 = .ok (.invokestatic 173, 3) := by decide +kernel
theorem dX11_keepRatio_41 : decode cX11_keepRatio 41 = .ok (.ifCond .eq 11, 3) := by decide +kernel
theorem dX11_keepRatio_44 : decode cX11_keepRatio 44 = .ok (.aload 6, 2) := by decide +kernel
theorem dX11_keepRatio_46 : decode cX11_keepRatio 46 = .ok (.invokestatic 173, 3) := by decide +kernel
theorem dX11_keepRatio_49 : decode cX11_keepRatio 49 = .ok (.ifCond .ne 6, 3) := by decide +kernel
theorem dX11_keepRatio_52 : decode cX11_keepRatio 52 = .ok (.bipush (-5), 2) := by decide +kernel
theorem dX11_keepRatio_54 : decode cX11_keepRatio 54 = .ok (.ireturn, 1) := by decide +kernel
theorem dX11_keepRatio_55 : decode cX11_keepRatio 55 = .ok (.aload_n 0, 1) := by decide +kernel
theorem dX11_keepRatio_56 : decode cX11_keepRatio 56 = .ok (.getfield 145, 3) := by decide +kernel
theorem dX11_keepRatio_59 : decode cX11_keepRatio 59 = .ok (.iload_n 1, 1) := by decide +kernel
theorem dX11_keepRatio_60 : decode cX11_keepRatio 60 = .ok (.aaload, 1) := by decide +kernel
theorem dX11_keepRatio_61 : decode cX11_keepRatio 61 = .ok (.aload 6, 2) := by decide +kernel
theorem dX11_keepRatio_63 : decode cX11_keepRatio 63 = .ok (.getfield 38, 3) := by decide +kernel
theorem dX11_keepRatio_66 : decode cX11_keepRatio 66 = .ok (.ifCond .eq 12, 3) := by decide +kernel
theorem dX11_keepRatio_69 : decode cX11_keepRatio 69 = .ok (.aload_n 0, 1) := by decide +kernel
theorem dX11_keepRatio_70 : decode cX11_keepRatio 70 = .ok (.aload 5, 2) := by decide +kernel
theorem dX11_keepRatio_72 : decode cX11_keepRatio 72 = .ok (.invokevirtual 67, 3) := by decide +kernel
theorem dX11_keepRatio_75 : decode cX11_keepRatio 75 = .ok (.goto 5, 3) := by decide +kernel
theorem dX11_keepRatio_78 : decode cX11_keepRatio 78 = .ok (.aload 5, 2) := by decide +kernel
theorem dX11_keepRatio_80 : decode cX11_keepRatio 80 = .ok (.invokevirtual 30, 3) := by decide +kernel
theorem dX11_keepRatio_83 : decode cX11_keepRatio 83 = .ok (.aload_n 0, 1) := by decide +kernel
theorem dX11_keepRatio_84 : decode cX11_keepRatio 84 = .ok (.getfield 148, 3) := by decide +kernel
theorem dX11_keepRatio_87 : decode cX11_keepRatio 87 = .ok (.iload_n 1, 1) := by decide +kernel
theorem dX11_keepRatio_88 : decode cX11_keepRatio 88 = .ok (.aaload, 1) := by decide +kernel
theorem dX11_keepRatio_89 : decode cX11_keepRatio 89 = .ok (.aload_n 0, 1) := by decide +kernel
theorem dX11_keepRatio_90 : decode cX11_keepRatio 90 = .ok (.aload 6, 2) := by decide +kernel
theorem dX11_keepRatio_92 : decode cX11_keepRatio 92 = .ok (.invokevirtual 81, 3) := by decide +kernel
theorem dX11_keepRatio_95 : decode cX11_keepRatio 95 = .ok (.invokevirtual 30, 3) := by decide +kernel
theorem dX11_keepRatio_98 : decode cX11_keepRatio 98 = .ok (.iconst 1, 1) := by decide +kernel
theorem dX11_keepRatio_99 : decode cX11_keepRatio 99 = .ok (.ireturn, 1) := by decide +kernel
def zj_X11_keepRatio_80 (g17 : AH) (y0_80 : Nat) (y1_80 : Int32) (y6_80 : Nat) (t0_80 : Nat) (t1_80 : Nat) : Option (Int32 × AH) :=
  (chk g17 t1_80 10).bind fun _ => (zs_X10_become g17 t1_80 t0_80).bind fun g19 => (gR g19 y0_80 11 11).bind fun x20 => (aR g19 x20 5 y1_80).bind fun x21 => (chk g19 y0_80 11).bind fun _ => (zs_X11_sized g19 y0_80 y6_80).bind fun x23 => (chk x23.2 x21 10).bind fun _ => (zs_X10_become x23.2 x21 x23.1).bind fun g25 => some ((1 : Int32), g25)
def zs_X11_keepRatio (h : AH) (u0 : Nat) (u1 : Int32) (u2 : Nat) (u3 : Nat) : Option (Int32 × AH) :=
  (chk h u0 11).bind fun _ => (zs_X11_gcd h u0 u2 u3).bind fun x2 => (chk x2.2 u0 11).bind fun _ => (zs_X11_over x2.2 u0 ((0 : Int32)) u2 x2.1).bind fun g4 => (gR g4 u0 11 5).bind fun x5 => (chk g4 u0 11).bind fun _ => (zs_X11_over g4 u0 ((0 : Int32)) u3 x2.1).bind fun g7 => (gR g7 u0 11 5).bind fun x8 => (zs_X11_fits g7 x5).bind fun x9 => (if x9 = 0 then some ((-5 : Int32), g7) else (zs_X11_fits g7 x8).bind fun x11 => (if x11 = 0 then some ((-5 : Int32), g7) else (gR g7 u0 11 10).bind fun x13 => (aR g7 x13 5 u1).bind fun x14 => (gI g7 x8 10 0).bind fun x15 => (if x15 = 0 then zj_X11_keepRatio_80 g7 u0 u1 x8 x5 x14 else (chk g7 u0 11).bind fun _ => (zs_X11_negative g7 u0 x5).bind fun x27 => zj_X11_keepRatio_80 x27.2 u0 u1 x8 x27.1 x14)))
set_option maxRecDepth 100000 in
set_option maxHeartbeats 4000000 in
theorem zm_X11_keepRatio (l : Launch) (D : hG) (z : Nat) {h : AH} {u0 : Nat} {u1 : Int32} {u2 : Nat} {u3 : Nat} {r : Int32} {h' : AH} (hs : zs_X11_keepRatio h u0 u1 u2 u3 = some (r, h')) : hC l D z yX11_keepRatio cX11_keepRatio 7 (Option.some Jvm.ClassFile.FieldType.int) 6 166 0 0 [.ref u0, .int u1, .ref u2, .ref u3] h h' (some (.int r)) := by
  refine hC_of (by decide) (Nat.le_of_ble_eq_true rfl) ?_
  intro p e s m below meth c hx hb hml hrt hlk hown hnm hts hk hr hz ls hl
  replace hown : s.vm.findClass RX11 = some m.cls := hown
  replace hl : lv_has ls 7 [(0, .ref u0), (1, .int u1), (2, .ref u2), (3, .ref u3)] := hl
  have hS : va_S (hA z) s.heap s.heap [] := va_S.rf
  suffices hgo : ∀ (H : Heap) (locs : List Loc), hR D z h H → va_S (hA z) s.heap H locs → W p l e ({ frames := 6, cells := 0, slots := 0, locals := 166 } : Room) s m ([.ref u0, .int u1, .ref u2, .ref u3] : List Value).toArray below meth c H locs 0 0 (MQ below (hQ D z h' (some (.int r))) ([.ref u0, .int u1, .ref u2, .ref u3] : List Value).toArray s 0 0 (hA z)) (F0 m 0 ls []) from hgo _ _ hr hS
  clear hr hS
  intro H locs hr hS
  have hJ80 : ∀ (g17 : AH) (y0_80 : Nat) (y1_80 : Int32) (y6_80 : Nat) (t0_80 : Nat) (t1_80 : Nat) (H : Heap) (locs : List Loc) (ls : Array Slot), zj_X11_keepRatio_80 g17 y0_80 y1_80 y6_80 t0_80 t1_80 = some (r, h') → hR D z g17 H → va_S (hA z) s.heap H locs → lv_has ls 7 [(0, .ref y0_80), (1, .int y1_80), (6, .ref y6_80)] → W p l e ({ frames := 6, cells := 0, slots := 0, locals := 166 } : Room) s m ([.ref u0, .int u1, .ref u2, .ref u3] : List Value).toArray below meth c H locs 0 0 (MQ below (hQ D z h' (some (.int r))) ([.ref u0, .int u1, .ref u2, .ref u3] : List Value).toArray s 0 0 (hA z)) (F0 m 80 ls [.ref t0_80, .ref t1_80]) := by
    intro g17 y0_80 y1_80 y6_80 t0_80 t1_80 H locs ls hs hr hS hl
    unfold zj_X11_keepRatio_80 at hs
    obtain ⟨_, ex18, hs⟩ := bi_inv hs
    obtain ⟨g19, eg19, hs⟩ := bi_inv hs
    refine hv_V0 (n := 1) [.ref t0_80] [] hx hb hml hown hts hk hr hz hS (zm_X10_become l D z eg19) ex18 rfl tw_875 tw_876 tw_877 tw_12 tw_878 (by decide +kernel) (by decide) ⟨(Nat.zero_le _), (Nat.zero_le _)⟩ rfl hl.1 (Nat.le_of_ble_eq_true rfl) dX11_keepRatio_80 rfl (fun H locs hr hS => ?_)
    refine lv_aload_n hx hb dX11_keepRatio_83 rfl (lv_at hl 0 rfl) ?_
    obtain ⟨x20, ex20, hs⟩ := bi_inv hs
    refine hv_gR (C := RX11) (T := TX11) (N := 23) (ci := 11) hx hb hts inX11 hown hk hr rfl 11 (by decide) (hts _ tw_893) ex20 dX11_keepRatio_84 ?_
    refine lv_iload_n hx hb dX11_keepRatio_87 rfl (lv_at hl 1 rfl) ?_
    obtain ⟨x21, ex21, hs⟩ := bi_inv hs
    refine hv_aR (kd := 5) hx hb hk hr rfl ex21 dX11_keepRatio_88 ?_
    refine lv_aload_n hx hb dX11_keepRatio_89 rfl (lv_at hl 0 rfl) ?_
    refine lv_aload hx hb dX11_keepRatio_90 (lv_at hl 2 rfl) ?_
    obtain ⟨_, ex22, hs⟩ := bi_inv hs
    obtain ⟨x23, ex23, hs⟩ := bi_inv hs
    refine hv_V1 (n := 1) [.ref y6_80] [.ref x21] hx hb hml hown hts hk hr hz hS (zm_X11_sized l D z ex23) ex22 rfl tw_1036 tw_1038 ts_31 tw_11 tw_1039 (by decide +kernel) (by decide) ⟨(Nat.zero_le _), (Nat.zero_le _)⟩ rfl hl.1 (Nat.le_of_ble_eq_true rfl) dX11_keepRatio_92 rfl (fun H locs hr hS => ?_)
    obtain ⟨_, ex24, hs⟩ := bi_inv hs
    obtain ⟨g25, eg25, hs⟩ := bi_inv hs
    refine hv_V0 (n := 1) [.ref x23.1] [] hx hb hml hown hts hk hr hz hS (zm_X10_become l D z eg25) ex24 rfl tw_875 tw_876 tw_877 tw_12 tw_878 (by decide +kernel) (by decide) ⟨(Nat.zero_le _), (Nat.zero_le _)⟩ rfl hl.1 (Nat.le_of_ble_eq_true rfl) dX11_keepRatio_95 rfl (fun H locs hr hS => ?_)
    refine lv_iconst (v := 1) hx hb dX11_keepRatio_98 (by decide) ?_
    obtain ⟨rfl, rfl⟩ := Prod.mk.inj (Option.some.inj hs)
    exact hv_iret hx hb hrt hlk hr hS dX11_keepRatio_99
  unfold zs_X11_keepRatio at hs
  refine lv_aload_n hx hb dX11_keepRatio_0 rfl (lv_at hl 0 rfl) ?_
  refine lv_aload_n hx hb dX11_keepRatio_1 rfl (lv_at hl 2 rfl) ?_
  refine lv_aload_n hx hb dX11_keepRatio_2 rfl (lv_at hl 3 rfl) ?_
  obtain ⟨_, ex1, hs⟩ := bi_inv hs
  obtain ⟨x2, ex2, hs⟩ := bi_inv hs
  refine hv_V1 (n := 2) [.ref u2, .ref u3] [] hx hb hml hown hts hk hr hz hS (zm_X11_gcd l D z ex2) ex1 rfl tw_1115 tw_1117 ts_39 tw_11 tw_1118 (by decide +kernel) (by decide) ⟨(Nat.zero_le _), (Nat.zero_le _)⟩ rfl hl.1 (Nat.le_of_ble_eq_true rfl) dX11_keepRatio_3 rfl (fun H locs hr hS => ?_)
  refine lv_astore (lv' := [(4, .ref x2.1), (0, .ref u0), (1, .int u1), (2, .ref u2), (3, .ref u3)]) hx hb dX11_keepRatio_6 hl (by decide) rfl (fun ls hl => ?_)
  refine lv_aload_n hx hb dX11_keepRatio_8 rfl (lv_at hl 1 rfl) ?_
  refine lv_iconst (v := 0) hx hb dX11_keepRatio_9 (by decide) ?_
  refine lv_aload_n hx hb dX11_keepRatio_10 rfl (lv_at hl 3 rfl) ?_
  refine lv_aload hx hb dX11_keepRatio_11 (lv_at hl 0 rfl) ?_
  obtain ⟨_, ex3, hs⟩ := bi_inv hs
  obtain ⟨g4, eg4, hs⟩ := bi_inv hs
  refine hv_V0 (n := 3) [.int ((0 : Int32)), .ref u2, .ref x2.1] [] hx hb hml hown hts hk hr hz hS (zm_X11_over l D z eg4) ex3 rfl tw_1107 tw_1109 ts_38 tw_11 tw_1110 (by decide +kernel) (by decide) ⟨(Nat.zero_le _), (Nat.zero_le _)⟩ rfl hl.1 (Nat.le_of_ble_eq_true rfl) dX11_keepRatio_13 rfl (fun H locs hr hS => ?_)
  refine lv_aload_n hx hb dX11_keepRatio_16 rfl (lv_at hl 1 rfl) ?_
  obtain ⟨x5, ex5, hs⟩ := bi_inv hs
  refine hv_gR (C := RX11) (T := TX11) (N := 23) (ci := 11) hx hb hts inX11 hown hk hr rfl 5 (by decide) (hts _ tw_887) ex5 dX11_keepRatio_17 ?_
  refine lv_astore (lv' := [(5, .ref x5), (4, .ref x2.1), (0, .ref u0), (1, .int u1), (2, .ref u2), (3, .ref u3)]) hx hb dX11_keepRatio_20 hl (by decide) rfl (fun ls hl => ?_)
  refine lv_aload_n hx hb dX11_keepRatio_22 rfl (lv_at hl 2 rfl) ?_
  refine lv_iconst (v := 0) hx hb dX11_keepRatio_23 (by decide) ?_
  refine lv_aload_n hx hb dX11_keepRatio_24 rfl (lv_at hl 5 rfl) ?_
  refine lv_aload hx hb dX11_keepRatio_25 (lv_at hl 1 rfl) ?_
  obtain ⟨_, ex6, hs⟩ := bi_inv hs
  obtain ⟨g7, eg7, hs⟩ := bi_inv hs
  refine hv_V0 (n := 3) [.int ((0 : Int32)), .ref u3, .ref x2.1] [] hx hb hml hown hts hk hr hz hS (zm_X11_over l D z eg7) ex6 rfl tw_1107 tw_1109 ts_38 tw_11 tw_1110 (by decide +kernel) (by decide) ⟨(Nat.zero_le _), (Nat.zero_le _)⟩ rfl hl.1 (Nat.le_of_ble_eq_true rfl) dX11_keepRatio_27 rfl (fun H locs hr hS => ?_)
  refine lv_aload_n hx hb dX11_keepRatio_30 rfl (lv_at hl 2 rfl) ?_
  obtain ⟨x8, ex8, hs⟩ := bi_inv hs
  refine hv_gR (C := RX11) (T := TX11) (N := 23) (ci := 11) hx hb hts inX11 hown hk hr rfl 5 (by decide) (hts _ tw_887) ex8 dX11_keepRatio_31 ?_
  refine lv_astore (lv' := [(6, .ref x8), (5, .ref x5), (4, .ref x2.1), (0, .ref u0), (1, .int u1), (2, .ref u2), (3, .ref u3)]) hx hb dX11_keepRatio_34 hl (by decide) rfl (fun ls hl => ?_)
  refine lv_aload hx hb dX11_keepRatio_36 (lv_at hl 1 rfl) ?_
  obtain ⟨x9, ex9, hs⟩ := bi_inv hs
  refine hv_S1 (n := 1) [.ref x5] [] hx hb hml hown hts hk hr hz hS (zm_X11_fits l D z ex9) tw_977 tw_978 tw_11 tw_979 (by decide +kernel) (by decide) ⟨(Nat.zero_le _), (Nat.zero_le _)⟩ rfl hl.1 (Nat.le_of_ble_eq_true rfl) dX11_keepRatio_38 rfl (fun H locs hr hS => ?_)
  refine lv_if_eq (tgt := 52) hx hb dX11_keepRatio_41 (by decide) (fun c10 => ?_) (fun c10 => ?_)
  · rw [if_pos c10] at hs
    refine lv_bipush (v := (-5)) hx hb dX11_keepRatio_52 (by decide) ?_
    obtain ⟨rfl, rfl⟩ := Prod.mk.inj (Option.some.inj hs)
    exact hv_iret hx hb hrt hlk hr hS dX11_keepRatio_54
  · rw [if_neg c10] at hs
    refine lv_aload hx hb dX11_keepRatio_44 (lv_at hl 0 rfl) ?_
    obtain ⟨x11, ex11, hs⟩ := bi_inv hs
    refine hv_S1 (n := 1) [.ref x8] [] hx hb hml hown hts hk hr hz hS (zm_X11_fits l D z ex11) tw_977 tw_978 tw_11 tw_979 (by decide +kernel) (by decide) ⟨(Nat.zero_le _), (Nat.zero_le _)⟩ rfl hl.1 (Nat.le_of_ble_eq_true rfl) dX11_keepRatio_46 rfl (fun H locs hr hS => ?_)
    refine lv_if_ne (tgt := 55) hx hb dX11_keepRatio_49 (by decide) (fun c12 => ?_) (fun c12 => ?_)
    · rw [if_neg c12] at hs
      refine lv_aload_n hx hb dX11_keepRatio_55 rfl (lv_at hl 3 rfl) ?_
      obtain ⟨x13, ex13, hs⟩ := bi_inv hs
      refine hv_gR (C := RX11) (T := TX11) (N := 23) (ci := 11) hx hb hts inX11 hown hk hr rfl 10 (by decide) (hts _ tw_892) ex13 dX11_keepRatio_56 ?_
      refine lv_iload_n hx hb dX11_keepRatio_59 rfl (lv_at hl 4 rfl) ?_
      obtain ⟨x14, ex14, hs⟩ := bi_inv hs
      refine hv_aR (kd := 5) hx hb hk hr rfl ex14 dX11_keepRatio_60 ?_
      refine lv_aload hx hb dX11_keepRatio_61 (lv_at hl 0 rfl) ?_
      obtain ⟨x15, ex15, hs⟩ := bi_inv hs
      refine hv_gI (C := RX10) (T := TX10) (N := 3) (ci := 10) hx hb hts inX10 hown hk hr rfl 0 (by decide) (hts _ tw_863) ex15 dX11_keepRatio_63 ?_
      refine lv_if_eq (tgt := 78) hx hb dX11_keepRatio_66 (by decide) (fun c16 => ?_) (fun c16 => ?_)
      · rw [if_pos c16] at hs
        refine lv_aload hx hb dX11_keepRatio_78 (lv_at hl 1 rfl) ?_
        exact hJ80 g7 u0 u1 x8 x5 x14 H locs ls hs hr hS (lv_sub hl [3, 4, 0] rfl)
      · rw [if_neg c16] at hs
        refine lv_aload_n hx hb dX11_keepRatio_69 rfl (lv_at hl 3 rfl) ?_
        refine lv_aload hx hb dX11_keepRatio_70 (lv_at hl 1 rfl) ?_
        obtain ⟨_, ex26, hs⟩ := bi_inv hs
        obtain ⟨x27, ex27, hs⟩ := bi_inv hs
        refine hv_V1 (n := 1) [.ref x5] [.ref x14] hx hb hml hown hts hk hr hz hS (zm_X11_negative l D z ex27) ex26 rfl tw_1028 tw_1030 ts_30 tw_11 tw_1031 (by decide +kernel) (by decide) ⟨(Nat.zero_le _), (Nat.zero_le _)⟩ rfl hl.1 (Nat.le_of_ble_eq_true rfl) dX11_keepRatio_72 rfl (fun H locs hr hS => ?_)
        refine lv_goto (tgt := 80) hx hb dX11_keepRatio_75 (by decide) ?_
        exact hJ80 x27.2 u0 u1 x8 x27.1 x14 H locs ls hs hr hS (lv_sub hl [3, 4, 0] rfl)
    · rw [if_pos c12] at hs
      refine lv_bipush (v := (-5)) hx hb dX11_keepRatio_52 (by decide) ?_
      obtain ⟨rfl, rfl⟩ := Prod.mk.inj (Option.some.inj hs)
      exact hv_iret hx hb hrt hlk hr hS dX11_keepRatio_54
theorem dX11_actRatio_0 : decode cX11_actRatio 0 = .ok (.aload_n 0, 1) := by decide +kernel
theorem dX11_actRatio_1 : decode cX11_actRatio 1 = .ok (.iload_n 2, 1) := by decide +kernel
theorem dX11_actRatio_2 : decode cX11_actRatio 2 = .ok (.invokevirtual 236, 3) := by decide +kernel
theorem dX11_actRatio_5 : decode cX11_actRatio 5 = .ok (.ifCond .eq 29, 3) := by decide +kernel
theorem dX11_actRatio_8 : decode cX11_actRatio 8 = .ok (.aload_n 0, 1) := by decide +kernel
theorem dX11_actRatio_9 : decode cX11_actRatio 9 = .ok (.iload_n 3, 1) := by decide +kernel
theorem dX11_actRatio_10 : decode cX11_actRatio 10 = .ok (.invokevirtual 236, 3) := by decide +kernel
theorem dX11_actRatio_13 : decode cX11_actRatio 13 = .ok (.ifCond .eq 21, 3) := by decide +kernel
theorem dX11_actRatio_16 : decode cX11_actRatio 16 = .ok (.aload_n 0, 1) := by decide +kernel
theorem dX11_actRatio_17 : decode cX11_actRatio 17 = .ok (.iload 4, 2) := by decide +kernel
theorem dX11_actRatio_19 : decode cX11_actRatio 19 = .ok (.invokevirtual 236, 3) := by decide +kernel
theorem dX11_actRatio_22 : decode cX11_actRatio 22 = .ok (.ifCond .eq 12, 3) := by decide +kernel
theorem dX11_actRatio_25 : decode cX11_actRatio 25 = .ok (.iload_n 1, 1) := by decide +kernel
theorem dX11_actRatio_26 : decode cX11_actRatio 26 = .ok (.ifCond .lt 8, 3) := by decide +kernel
theorem dX11_actRatio_29 : decode cX11_actRatio 29 = .ok (.iload_n 1, 1) := by decide +kernel
theorem dX11_actRatio_30 : decode cX11_actRatio 30 = .ok (.iconst 3, 1) := by decide +kernel
theorem dX11_actRatio_31 : decode cX11_actRatio 31 = .ok (.if_icmp .le 5, 3) := by decide +kernel
theorem dX11_actRatio_34 : decode cX11_actRatio 34 = .ok (.iconst (-1), 1) := by decide +kernel
theorem dX11_actRatio_35 : decode cX11_actRatio 35 = .ok (.ireturn, 1) := by decide +kernel
theorem dX11_actRatio_36 : decode cX11_actRatio 36 = .ok (.iload_n 1, 1) := by decide +kernel
theorem dX11_actRatio_37 : decode cX11_actRatio 37 = .ok (.iconst 3, 1) := by decide +kernel
theorem dX11_actRatio_38 : decode cX11_actRatio 38 = .ok (.if_icmp .ne 18, 3) := by decide +kernel
theorem dX11_actRatio_41 : decode cX11_actRatio 41 = .ok (.aload_n 0, 1) := by decide +kernel
theorem dX11_actRatio_42 : decode cX11_actRatio 42 = .ok (.getfield 145, 3) := by decide +kernel
theorem dX11_actRatio_45 : decode cX11_actRatio 45 = .ok (.iload_n 3, 1) := by decide +kernel
theorem dX11_actRatio_46 : decode cX11_actRatio 46 = .ok (.aaload, 1) := by decide +kernel
theorem dX11_actRatio_47 : decode cX11_actRatio 47 = .ok (.invokevirtual 60, 3) := by decide +kernel
theorem dX11_actRatio_50 : decode cX11_actRatio 50 = .ok (.ifCond .eq 6, 3) := by decide +kernel
theorem dX11_actRatio_53 : decode cX11_actRatio 53 = .ok (.bipush (-2), 2) := by decide +kernel
theorem dX11_actRatio_55 : decode cX11_actRatio 55 = .ok (.ireturn, 1) := by decide +kernel
theorem dX11_actRatio_56 : decode cX11_actRatio 56 = .ok (.iload_n 1, 1) := by decide +kernel
theorem dX11_actRatio_57 : decode cX11_actRatio 57 = .ok (.iconst 2, 1) := by decide +kernel
theorem dX11_actRatio_58 : decode cX11_actRatio 58 = .ok (.if_icmp .ge 63, 3) := by decide +kernel
theorem dX11_actRatio_61 : decode cX11_actRatio 61 = .ok (.aload_n 0, 1) := by decide +kernel
theorem dX11_actRatio_62 : decode cX11_actRatio 62 = .ok (.iload 4, 2) := by decide +kernel
theorem dX11_actRatio_64 : decode cX11_actRatio 64 = .ok (.aload_n 0, 1) := by decide +kernel
theorem dX11_actRatio_65 : decode cX11_actRatio 65 = .ok (.iload_n 1, 1) := by decide +kernel
theorem dX11_actRatio_66 : decode cX11_actRatio 66 = .ok (.aload_n 0, 1) := by decide +kernel
theorem dX11_actRatio_67 : decode cX11_actRatio 67 = .ok (.aload_n 0, 1) := by decide +kernel
theorem dX11_actRatio_68 : decode cX11_actRatio 68 = .ok (.getfield 145, 3) := by decide +kernel
theorem dX11_actRatio_71 : decode cX11_actRatio 71 = .ok (.iload_n 2, 1) := by decide +kernel
theorem dX11_actRatio_72 : decode cX11_actRatio 72 = .ok (.aaload, 1) := by decide +kernel
theorem dX11_actRatio_73 : decode cX11_actRatio 73 = .ok (.aload_n 0, 1) := by decide +kernel
theorem dX11_actRatio_74 : decode cX11_actRatio 74 = .ok (.getfield 148, 3) := by decide +kernel
theorem dX11_actRatio_77 : decode cX11_actRatio 77 = .ok (.iload_n 3, 1) := by decide +kernel
theorem dX11_actRatio_78 : decode cX11_actRatio 78 = .ok (.aaload, 1) := by decide +kernel
theorem dX11_actRatio_79 : decode cX11_actRatio 79 = .ok (.invokevirtual 122, 3) := by decide +kernel
theorem dX11_actRatio_82 : decode cX11_actRatio 82 = .ok (.aload_n 0, 1) := by decide +kernel
theorem dX11_actRatio_83 : decode cX11_actRatio 83 = .ok (.aload_n 0, 1) := by decide +kernel
theorem dX11_actRatio_84 : decode cX11_actRatio 84 = .ok (.getfield 145, 3) := by decide +kernel
theorem dX11_actRatio_87 : decode cX11_actRatio 87 = .ok (.iload_n 3, 1) := by decide +kernel
theorem dX11_actRatio_88 : decode cX11_actRatio 88 = .ok (.aaload, 1) := by decide +kernel
theorem dX11_actRatio_89 : decode cX11_actRatio 89 = .ok (.aload_n 0, 1) := by decide +kernel
theorem dX11_actRatio_90 : decode cX11_actRatio 90 = .ok (.getfield 148, 3) := by decide +kernel
theorem dX11_actRatio_93 : decode cX11_actRatio 93 = .ok (.iload_n 2, 1) := by decide +kernel
theorem dX11_actRatio_94 : decode cX11_actRatio 94 = .ok (.aaload, 1) := by decide +kernel
theorem dX11_actRatio_95 : decode cX11_actRatio 95 = .ok (.invokevirtual 122, 3) := by decide +kernel
theorem dX11_actRatio_98 : decode cX11_actRatio 98 = .ok (.invokevirtual 203, 3) := by decide +kernel
theorem dX11_actRatio_101 : decode cX11_actRatio 101 = .ok (.aload_n 0, 1) := by decide +kernel
theorem dX11_actRatio_102 : decode cX11_actRatio 102 = .ok (.aload_n 0, 1) := by decide +kernel
theorem dX11_actRatio_103 : decode cX11_actRatio 103 = .ok (.getfield 148, 3) := by decide +kernel
theorem dX11_actRatio_106 : decode cX11_actRatio 106 = .ok (.iload_n 2, 1) := by decide +kernel
theorem dX11_actRatio_107 : decode cX11_actRatio 107 = .ok (.aaload, 1) := by decide +kernel
theorem dX11_actRatio_108 : decode cX11_actRatio 108 = .ok (.aload_n 0, 1) := by decide +kernel
theorem dX11_actRatio_109 : decode cX11_actRatio 109 = .ok (.getfield 148, 3) := by decide +kernel
theorem dX11_actRatio_112 : decode cX11_actRatio 112 = .ok (.iload_n 3, 1) := by decide +kernel
theorem dX11_actRatio_113 : decode cX11_actRatio 113 = .ok (.aaload, 1) := by decide +kernel
theorem dX11_actRatio_114 : decode cX11_actRatio 114 = .ok (.invokevirtual 122, 3) := by decide +kernel
theorem dX11_actRatio_117 : decode cX11_actRatio 117 = .ok (.invokevirtual 239, 3) := by decide +kernel
theorem dX11_actRatio_120 : decode cX11_actRatio 120 = .ok (.ireturn, 1) := by decide +kernel
theorem dX11_actRatio_121 : decode cX11_actRatio 121 = .ok (.iload_n 1, 1) := by decide +kernel
theorem dX11_actRatio_122 : decode cX11_actRatio 122 = .ok (.iconst 2, 1) := by decide +kernel
theorem dX11_actRatio_123 : decode cX11_actRatio 123 = .ok (.if_icmp .ne 44, 3) := by decide +kernel
theorem dX11_actRatio_126 : decode cX11_actRatio 126 = .ok (.aload_n 0, 1) := by decide +kernel
theorem dX11_actRatio_127 : decode cX11_actRatio 127 = .ok (.iload 4, 2) := by decide +kernel
theorem dX11_actRatio_129 : decode cX11_actRatio 129 = .ok (.aload_n 0, 1) := by decide +kernel
theorem dX11_actRatio_130 : decode cX11_actRatio 130 = .ok (.aload_n 0, 1) := by decide +kernel
theorem dX11_actRatio_131 : decode cX11_actRatio 131 = .ok (.getfield 145, 3) := by decide +kernel
theorem dX11_actRatio_134 : decode cX11_actRatio 134 = .ok (.iload_n 2, 1) := by decide +kernel
theorem dX11_actRatio_135 : decode cX11_actRatio 135 = .ok (.aaload, 1) := by decide +kernel
theorem dX11_actRatio_136 : decode cX11_actRatio 136 = .ok (.aload_n 0, 1) := by decide +kernel
theorem dX11_actRatio_137 : decode cX11_actRatio 137 = .ok (.getfield 145, 3) := by decide +kernel
theorem dX11_actRatio_140 : decode cX11_actRatio 140 = .ok (.iload_n 3, 1) := by decide +kernel
theorem dX11_actRatio_141 : decode cX11_actRatio 141 = .ok (.aaload, 1) := by decide +kernel
theorem dX11_actRatio_142 : decode cX11_actRatio 142 = .ok (.invokevirtual 122, 3) := by decide +kernel
theorem dX11_actRatio_145 : decode cX11_actRatio 145 = .ok (.aload_n 0, 1) := by decide +kernel
theorem dX11_actRatio_146 : decode cX11_actRatio 146 = .ok (.aload_n 0, 1) := by decide +kernel
theorem dX11_actRatio_147 : decode cX11_actRatio 147 = .ok (.getfield 148, 3) := by decide +kernel
theorem dX11_actRatio_150 : decode cX11_actRatio 150 = .ok (.iload_n 2, 1) := by decide +kernel
theorem dX11_actRatio_151 : decode cX11_actRatio 151 = .ok (.aaload, 1) := by decide +kernel
theorem dX11_actRatio_152 : decode cX11_actRatio 152 = .ok (.aload_n 0, 1) := by decide +kernel
theorem dX11_actRatio_153 : decode cX11_actRatio 153 = .ok (.getfield 148, 3) := by decide +kernel
theorem dX11_actRatio_156 : decode cX11_actRatio 156 = .ok (.iload_n 3, 1) := by decide +kernel
theorem dX11_actRatio_157 : decode cX11_actRatio 157 = .ok (.aaload, 1) := by decide +kernel
theorem dX11_actRatio_158 : decode cX11_actRatio 158 = .ok (.invokevirtual 122, 3) := by decide +kernel
theorem dX11_actRatio_161 : decode cX11_actRatio 161 = .ok (.invokevirtual 239, 3) := by decide +kernel
theorem dX11_actRatio_164 : decode cX11_actRatio 164 = .ok (.goto 41, 3) := by decide +kernel
theorem dX11_actRatio_167 : decode cX11_actRatio 167 = .ok (.aload_n 0, 1) := by decide +kernel
theorem dX11_actRatio_168 : decode cX11_actRatio 168 = .ok (.iload 4, 2) := by decide +kernel
theorem dX11_actRatio_170 : decode cX11_actRatio 170 = .ok (.aload_n 0, 1) := by decide +kernel
theorem dX11_actRatio_171 : decode cX11_actRatio 171 = .ok (.aload_n 0, 1) := by decide +kernel
theorem dX11_actRatio_172 : decode cX11_actRatio 172 = .ok (.getfield 145, 3) := by decide +kernel
theorem dX11_actRatio_175 : decode cX11_actRatio 175 = .ok (.iload_n 2, 1) := by decide +kernel
theorem dX11_actRatio_176 : decode cX11_actRatio 176 = .ok (.aaload, 1) := by decide +kernel
theorem dX11_actRatio_177 : decode cX11_actRatio 177 = .ok (.aload_n 0, 1) := by decide +kernel
theorem dX11_actRatio_178 : decode cX11_actRatio 178 = .ok (.getfield 148, 3) := by decide +kernel
theorem dX11_actRatio_181 : decode cX11_actRatio 181 = .ok (.iload_n 3, 1) := by decide +kernel
theorem dX11_actRatio_182 : decode cX11_actRatio 182 = .ok (.aaload, 1) := by decide +kernel
theorem dX11_actRatio_183 : decode cX11_actRatio 183 = .ok (.invokevirtual 122, 3) := by decide +kernel
theorem dX11_actRatio_186 : decode cX11_actRatio 186 = .ok (.aload_n 0, 1) := by decide +kernel
theorem dX11_actRatio_187 : decode cX11_actRatio 187 = .ok (.aload_n 0, 1) := by decide +kernel
theorem dX11_actRatio_188 : decode cX11_actRatio 188 = .ok (.getfield 148, 3) := by decide +kernel
theorem dX11_actRatio_191 : decode cX11_actRatio 191 = .ok (.iload_n 2, 1) := by decide +kernel
theorem dX11_actRatio_192 : decode cX11_actRatio 192 = .ok (.aaload, 1) := by decide +kernel
theorem dX11_actRatio_193 : decode cX11_actRatio 193 = .ok (.aload_n 0, 1) := by decide +kernel
theorem dX11_actRatio_194 : decode cX11_actRatio 194 = .ok (.getfield 145, 3) := by decide +kernel
theorem dX11_actRatio_197 : decode cX11_actRatio 197 = .ok (.iload_n 3, 1) := by decide +kernel
theorem dX11_actRatio_198 : decode cX11_actRatio 198 = .ok (.aaload, 1) := by decide +kernel
theorem dX11_actRatio_199 : decode cX11_actRatio 199 = .ok (.invokevirtual 122, 3) := by decide +kernel
theorem dX11_actRatio_202 : decode cX11_actRatio 202 = .ok (.invokevirtual 239, 3) := by decide +kernel
theorem dX11_actRatio_205 : decode cX11_actRatio 205 = .ok (.ireturn, 1) := by decide +kernel
def zj_X11_actRatio_56 (g13 : AH) (y0_56 : Nat) (y1_56 : Int32) (y2_56 : Int32) (y3_56 : Int32) (y4_56 : Int32) : Option (Int32 × AH) :=
  (if (2 : Int32) ≤ y1_56 then (if y1_56 = (2 : Int32) then (gR g13 y0_56 11 10).bind fun x30 => (aR g13 x30 5 y2_56).bind fun x31 => (gR g13 y0_56 11 10).bind fun x32 => (aR g13 x32 5 y3_56).bind fun x33 => (chk g13 y0_56 11).bind fun _ => (zs_X11_times g13 y0_56 x31 x33).bind fun x35 => (gR x35.2 y0_56 11 11).bind fun x36 => (aR x35.2 x36 5 y2_56).bind fun x37 => (gR x35.2 y0_56 11 11).bind fun x38 => (aR x35.2 x38 5 y3_56).bind fun x39 => (chk x35.2 y0_56 11).bind fun _ => (zs_X11_times x35.2 y0_56 x37 x39).bind fun x41 => (chk x41.2 y0_56 11).bind fun _ => (zs_X11_keepRatio x41.2 y0_56 y4_56 x35.1 x41.1).bind fun x43 => some (x43.1, x43.2) else (gR g13 y0_56 11 10).bind fun x16 => (aR g13 x16 5 y2_56).bind fun x17 => (gR g13 y0_56 11 11).bind fun x18 => (aR g13 x18 5 y3_56).bind fun x19 => (chk g13 y0_56 11).bind fun _ => (zs_X11_times g13 y0_56 x17 x19).bind fun x21 => (gR x21.2 y0_56 11 11).bind fun x22 => (aR x21.2 x22 5 y2_56).bind fun x23 => (gR x21.2 y0_56 11 10).bind fun x24 => (aR x21.2 x24 5 y3_56).bind fun x25 => (chk x21.2 y0_56 11).bind fun _ => (zs_X11_times x21.2 y0_56 x23 x25).bind fun x27 => (chk x27.2 y0_56 11).bind fun _ => (zs_X11_keepRatio x27.2 y0_56 y4_56 x21.1 x27.1).bind fun x29 => some (x29.1, x29.2)) else (gR g13 y0_56 11 10).bind fun x44 => (aR g13 x44 5 y2_56).bind fun x45 => (gR g13 y0_56 11 11).bind fun x46 => (aR g13 x46 5 y3_56).bind fun x47 => (chk g13 y0_56 11).bind fun _ => (zs_X11_times g13 y0_56 x45 x47).bind fun x49 => (gR x49.2 y0_56 11 10).bind fun x50 => (aR x49.2 x50 5 y3_56).bind fun x51 => (gR x49.2 y0_56 11 11).bind fun x52 => (aR x49.2 x52 5 y2_56).bind fun x53 => (chk x49.2 y0_56 11).bind fun _ => (zs_X11_times x49.2 y0_56 x51 x53).bind fun x55 => (chk x55.2 y0_56 11).bind fun _ => (zs_X11_acted x55.2 y0_56 y1_56 x49.1 x55.1).bind fun x57 => (gR x57.2 y0_56 11 11).bind fun x58 => (aR x57.2 x58 5 y2_56).bind fun x59 => (gR x57.2 y0_56 11 11).bind fun x60 => (aR x57.2 x60 5 y3_56).bind fun x61 => (chk x57.2 y0_56 11).bind fun _ => (zs_X11_times x57.2 y0_56 x59 x61).bind fun x63 => (chk x63.2 y0_56 11).bind fun _ => (zs_X11_keepRatio x63.2 y0_56 y4_56 x57.1 x63.1).bind fun x65 => some (x65.1, x65.2))
def zs_X11_actRatio (h : AH) (u0 : Nat) (u1 : Int32) (u2 : Int32) (u3 : Int32) (u4 : Int32) : Option (Int32 × AH) :=
  (chk h u0 11).bind fun _ => (zs_X11_isRatio h u0 u2).bind fun x2 => (if x2.1 = 0 then some ((-1 : Int32), x2.2) else (chk x2.2 u0 11).bind fun _ => (zs_X11_isRatio x2.2 u0 u3).bind fun x5 => (if x5.1 = 0 then some ((-1 : Int32), x5.2) else (chk x5.2 u0 11).bind fun _ => (zs_X11_isRatio x5.2 u0 u4).bind fun x8 => (if x8.1 = 0 then some ((-1 : Int32), x8.2) else (if u1 < 0 then some ((-1 : Int32), x8.2) else (if u1 ≤ (3 : Int32) then (if u1 = (3 : Int32) then (gR x8.2 u0 11 10).bind fun x66 => (aR x8.2 x66 5 u3).bind fun x67 => (chk x8.2 x67 10).bind fun _ => (zs_X10_isZero x8.2 x67).bind fun x69 => (if x69 = 0 then zj_X11_actRatio_56 x8.2 u0 u1 u2 u3 u4 else some ((-2 : Int32), x8.2)) else zj_X11_actRatio_56 x8.2 u0 u1 u2 u3 u4) else some ((-1 : Int32), x8.2))))))
set_option maxRecDepth 100000 in
set_option maxHeartbeats 4000000 in
theorem zm_X11_actRatio (l : Launch) (D : hG) (z : Nat) {h : AH} {u0 : Nat} {u1 : Int32} {u2 : Int32} {u3 : Int32} {u4 : Int32} {r : Int32} {h' : AH} (hs : zs_X11_actRatio h u0 u1 u2 u3 u4 = some (r, h')) : hC l D z yX11_actRatio cX11_actRatio 5 (Option.some Jvm.ClassFile.FieldType.int) 7 192 0 0 [.ref u0, .int u1, .int u2, .int u3, .int u4] h h' (some (.int r)) := by
  refine hC_of (by decide) (Nat.le_of_ble_eq_true rfl) ?_
  intro p e s m below meth c hx hb hml hrt hlk hown hnm hts hk hr hz ls hl
  replace hown : s.vm.findClass RX11 = some m.cls := hown
  replace hl : lv_has ls 5 [(0, .ref u0), (1, .int u1), (2, .int u2), (3, .int u3), (4, .int u4)] := hl
  have hS : va_S (hA z) s.heap s.heap [] := va_S.rf
  suffices hgo : ∀ (H : Heap) (locs : List Loc), hR D z h H → va_S (hA z) s.heap H locs → W p l e ({ frames := 7, cells := 0, slots := 0, locals := 192 } : Room) s m ([.ref u0, .int u1, .int u2, .int u3, .int u4] : List Value).toArray below meth c H locs 0 0 (MQ below (hQ D z h' (some (.int r))) ([.ref u0, .int u1, .int u2, .int u3, .int u4] : List Value).toArray s 0 0 (hA z)) (F0 m 0 ls []) from hgo _ _ hr hS
  clear hr hS
  intro H locs hr hS
  have hJ56 : ∀ (g13 : AH) (y0_56 : Nat) (y1_56 : Int32) (y2_56 : Int32) (y3_56 : Int32) (y4_56 : Int32) (H : Heap) (locs : List Loc) (ls : Array Slot), zj_X11_actRatio_56 g13 y0_56 y1_56 y2_56 y3_56 y4_56 = some (r, h') → hR D z g13 H → va_S (hA z) s.heap H locs → lv_has ls 5 [(0, .ref y0_56), (1, .int y1_56), (2, .int y2_56), (3, .int y3_56), (4, .int y4_56)] → W p l e ({ frames := 7, cells := 0, slots := 0, locals := 192 } : Room) s m ([.ref u0, .int u1, .int u2, .int u3, .int u4] : List Value).toArray below meth c H locs 0 0 (MQ below (hQ D z h' (some (.int r))) ([.ref u0, .int u1, .int u2, .int u3, .int u4] : List Value).toArray s 0 0 (hA z)) (F0 m 56 ls []) := by
    intro g13 y0_56 y1_56 y2_56 y3_56 y4_56 H locs ls hs hr hS hl
    unfold zj_X11_actRatio_56 at hs
    refine lv_iload_n hx hb dX11_actRatio_56 rfl (lv_at hl 1 rfl) ?_
    refine lv_iconst (v := 2) hx hb dX11_actRatio_57 (by decide) ?_
    refine lv_icmp_ge (tgt := 121) hx hb dX11_actRatio_58 (by decide) (fun c14 => ?_) (fun c14 => ?_)
    · rw [if_pos c14] at hs
      refine lv_iload_n hx hb dX11_actRatio_121 rfl (lv_at hl 1 rfl) ?_
      refine lv_iconst (v := 2) hx hb dX11_actRatio_122 (by decide) ?_
      refine lv_icmp_ne (tgt := 167) hx hb dX11_actRatio_123 (by decide) (fun c15 => ?_) (fun c15 => ?_)
      · rw [if_neg c15] at hs
        refine lv_aload_n hx hb dX11_actRatio_167 rfl (lv_at hl 0 rfl) ?_
        refine lv_iload hx hb dX11_actRatio_168 (lv_at hl 4 rfl) ?_
        refine lv_aload_n hx hb dX11_actRatio_170 rfl (lv_at hl 0 rfl) ?_
        refine lv_aload_n hx hb dX11_actRatio_171 rfl (lv_at hl 0 rfl) ?_
        obtain ⟨x16, ex16, hs⟩ := bi_inv hs
        refine hv_gR (C := RX11) (T := TX11) (N := 23) (ci := 11) hx hb hts inX11 hown hk hr rfl 10 (by decide) (hts _ tw_892) ex16 dX11_actRatio_172 ?_
        refine lv_iload_n hx hb dX11_actRatio_175 rfl (lv_at hl 2 rfl) ?_
        obtain ⟨x17, ex17, hs⟩ := bi_inv hs
        refine hv_aR (kd := 5) hx hb hk hr rfl ex17 dX11_actRatio_176 ?_
        refine lv_aload_n hx hb dX11_actRatio_177 rfl (lv_at hl 0 rfl) ?_
        obtain ⟨x18, ex18, hs⟩ := bi_inv hs
        refine hv_gR (C := RX11) (T := TX11) (N := 23) (ci := 11) hx hb hts inX11 hown hk hr rfl 11 (by decide) (hts _ tw_893) ex18 dX11_actRatio_178 ?_
        refine lv_iload_n hx hb dX11_actRatio_181 rfl (lv_at hl 3 rfl) ?_
        obtain ⟨x19, ex19, hs⟩ := bi_inv hs
        refine hv_aR (kd := 5) hx hb hk hr rfl ex19 dX11_actRatio_182 ?_
        obtain ⟨_, ex20, hs⟩ := bi_inv hs
        obtain ⟨x21, ex21, hs⟩ := bi_inv hs
        refine hv_V1 (n := 2) [.ref x17, .ref x19] [.int y4_56, .ref y0_56] hx hb hml hown hts hk hr hz hS (zm_X11_times l D z ex21) ex20 rfl tw_1003 tw_1005 ts_26 tw_11 tw_1006 (by decide +kernel) (by decide) ⟨(Nat.zero_le _), (Nat.zero_le _)⟩ rfl hl.1 (Nat.le_of_ble_eq_true rfl) dX11_actRatio_183 rfl (fun H locs hr hS => ?_)
        refine lv_aload_n hx hb dX11_actRatio_186 rfl (lv_at hl 0 rfl) ?_
        refine lv_aload_n hx hb dX11_actRatio_187 rfl (lv_at hl 0 rfl) ?_
        obtain ⟨x22, ex22, hs⟩ := bi_inv hs
        refine hv_gR (C := RX11) (T := TX11) (N := 23) (ci := 11) hx hb hts inX11 hown hk hr rfl 11 (by decide) (hts _ tw_893) ex22 dX11_actRatio_188 ?_
        refine lv_iload_n hx hb dX11_actRatio_191 rfl (lv_at hl 2 rfl) ?_
        obtain ⟨x23, ex23, hs⟩ := bi_inv hs
        refine hv_aR (kd := 5) hx hb hk hr rfl ex23 dX11_actRatio_192 ?_
        refine lv_aload_n hx hb dX11_actRatio_193 rfl (lv_at hl 0 rfl) ?_
        obtain ⟨x24, ex24, hs⟩ := bi_inv hs
        refine hv_gR (C := RX11) (T := TX11) (N := 23) (ci := 11) hx hb hts inX11 hown hk hr rfl 10 (by decide) (hts _ tw_892) ex24 dX11_actRatio_194 ?_
        refine lv_iload_n hx hb dX11_actRatio_197 rfl (lv_at hl 3 rfl) ?_
        obtain ⟨x25, ex25, hs⟩ := bi_inv hs
        refine hv_aR (kd := 5) hx hb hk hr rfl ex25 dX11_actRatio_198 ?_
        obtain ⟨_, ex26, hs⟩ := bi_inv hs
        obtain ⟨x27, ex27, hs⟩ := bi_inv hs
        refine hv_V1 (n := 2) [.ref x23, .ref x25] [.ref x21.1, .int y4_56, .ref y0_56] hx hb hml hown hts hk hr hz hS (zm_X11_times l D z ex27) ex26 rfl tw_1003 tw_1005 ts_26 tw_11 tw_1006 (by decide +kernel) (by decide) ⟨(Nat.zero_le _), (Nat.zero_le _)⟩ rfl hl.1 (Nat.le_of_ble_eq_true rfl) dX11_actRatio_199 rfl (fun H locs hr hS => ?_)
        obtain ⟨_, ex28, hs⟩ := bi_inv hs
        obtain ⟨x29, ex29, hs⟩ := bi_inv hs
        refine hv_V1 (n := 3) [.int y4_56, .ref x21.1, .ref x27.1] [] hx hb hml hown hts hk hr hz hS (zm_X11_keepRatio l D z ex29) ex28 rfl tw_1188 tw_1190 ts_45 tw_11 tw_1191 (by decide +kernel) (by decide) ⟨(Nat.zero_le _), (Nat.zero_le _)⟩ rfl hl.1 (Nat.le_of_ble_eq_true rfl) dX11_actRatio_202 rfl (fun H locs hr hS => ?_)
        obtain ⟨rfl, rfl⟩ := Prod.mk.inj (Option.some.inj hs)
        exact hv_iret hx hb hrt hlk hr hS dX11_actRatio_205
      · rw [if_pos c15] at hs
        refine lv_aload_n hx hb dX11_actRatio_126 rfl (lv_at hl 0 rfl) ?_
        refine lv_iload hx hb dX11_actRatio_127 (lv_at hl 4 rfl) ?_
        refine lv_aload_n hx hb dX11_actRatio_129 rfl (lv_at hl 0 rfl) ?_
        refine lv_aload_n hx hb dX11_actRatio_130 rfl (lv_at hl 0 rfl) ?_
        obtain ⟨x30, ex30, hs⟩ := bi_inv hs
        refine hv_gR (C := RX11) (T := TX11) (N := 23) (ci := 11) hx hb hts inX11 hown hk hr rfl 10 (by decide) (hts _ tw_892) ex30 dX11_actRatio_131 ?_
        refine lv_iload_n hx hb dX11_actRatio_134 rfl (lv_at hl 2 rfl) ?_
        obtain ⟨x31, ex31, hs⟩ := bi_inv hs
        refine hv_aR (kd := 5) hx hb hk hr rfl ex31 dX11_actRatio_135 ?_
        refine lv_aload_n hx hb dX11_actRatio_136 rfl (lv_at hl 0 rfl) ?_
        obtain ⟨x32, ex32, hs⟩ := bi_inv hs
        refine hv_gR (C := RX11) (T := TX11) (N := 23) (ci := 11) hx hb hts inX11 hown hk hr rfl 10 (by decide) (hts _ tw_892) ex32 dX11_actRatio_137 ?_
        refine lv_iload_n hx hb dX11_actRatio_140 rfl (lv_at hl 3 rfl) ?_
        obtain ⟨x33, ex33, hs⟩ := bi_inv hs
        refine hv_aR (kd := 5) hx hb hk hr rfl ex33 dX11_actRatio_141 ?_
        obtain ⟨_, ex34, hs⟩ := bi_inv hs
        obtain ⟨x35, ex35, hs⟩ := bi_inv hs
        refine hv_V1 (n := 2) [.ref x31, .ref x33] [.int y4_56, .ref y0_56] hx hb hml hown hts hk hr hz hS (zm_X11_times l D z ex35) ex34 rfl tw_1003 tw_1005 ts_26 tw_11 tw_1006 (by decide +kernel) (by decide) ⟨(Nat.zero_le _), (Nat.zero_le _)⟩ rfl hl.1 (Nat.le_of_ble_eq_true rfl) dX11_actRatio_142 rfl (fun H locs hr hS => ?_)
        refine lv_aload_n hx hb dX11_actRatio_145 rfl (lv_at hl 0 rfl) ?_
        refine lv_aload_n hx hb dX11_actRatio_146 rfl (lv_at hl 0 rfl) ?_
        obtain ⟨x36, ex36, hs⟩ := bi_inv hs
        refine hv_gR (C := RX11) (T := TX11) (N := 23) (ci := 11) hx hb hts inX11 hown hk hr rfl 11 (by decide) (hts _ tw_893) ex36 dX11_actRatio_147 ?_
        refine lv_iload_n hx hb dX11_actRatio_150 rfl (lv_at hl 2 rfl) ?_
        obtain ⟨x37, ex37, hs⟩ := bi_inv hs
        refine hv_aR (kd := 5) hx hb hk hr rfl ex37 dX11_actRatio_151 ?_
        refine lv_aload_n hx hb dX11_actRatio_152 rfl (lv_at hl 0 rfl) ?_
        obtain ⟨x38, ex38, hs⟩ := bi_inv hs
        refine hv_gR (C := RX11) (T := TX11) (N := 23) (ci := 11) hx hb hts inX11 hown hk hr rfl 11 (by decide) (hts _ tw_893) ex38 dX11_actRatio_153 ?_
        refine lv_iload_n hx hb dX11_actRatio_156 rfl (lv_at hl 3 rfl) ?_
        obtain ⟨x39, ex39, hs⟩ := bi_inv hs
        refine hv_aR (kd := 5) hx hb hk hr rfl ex39 dX11_actRatio_157 ?_
        obtain ⟨_, ex40, hs⟩ := bi_inv hs
        obtain ⟨x41, ex41, hs⟩ := bi_inv hs
        refine hv_V1 (n := 2) [.ref x37, .ref x39] [.ref x35.1, .int y4_56, .ref y0_56] hx hb hml hown hts hk hr hz hS (zm_X11_times l D z ex41) ex40 rfl tw_1003 tw_1005 ts_26 tw_11 tw_1006 (by decide +kernel) (by decide) ⟨(Nat.zero_le _), (Nat.zero_le _)⟩ rfl hl.1 (Nat.le_of_ble_eq_true rfl) dX11_actRatio_158 rfl (fun H locs hr hS => ?_)
        obtain ⟨_, ex42, hs⟩ := bi_inv hs
        obtain ⟨x43, ex43, hs⟩ := bi_inv hs
        refine hv_V1 (n := 3) [.int y4_56, .ref x35.1, .ref x41.1] [] hx hb hml hown hts hk hr hz hS (zm_X11_keepRatio l D z ex43) ex42 rfl tw_1188 tw_1190 ts_45 tw_11 tw_1191 (by decide +kernel) (by decide) ⟨(Nat.zero_le _), (Nat.zero_le _)⟩ rfl hl.1 (Nat.le_of_ble_eq_true rfl) dX11_actRatio_161 rfl (fun H locs hr hS => ?_)
        refine lv_goto (tgt := 205) hx hb dX11_actRatio_164 (by decide) ?_
        obtain ⟨rfl, rfl⟩ := Prod.mk.inj (Option.some.inj hs)
        exact hv_iret hx hb hrt hlk hr hS dX11_actRatio_205
    · rw [if_neg c14] at hs
      refine lv_aload_n hx hb dX11_actRatio_61 rfl (lv_at hl 0 rfl) ?_
      refine lv_iload hx hb dX11_actRatio_62 (lv_at hl 4 rfl) ?_
      refine lv_aload_n hx hb dX11_actRatio_64 rfl (lv_at hl 0 rfl) ?_
      refine lv_iload_n hx hb dX11_actRatio_65 rfl (lv_at hl 1 rfl) ?_
      refine lv_aload_n hx hb dX11_actRatio_66 rfl (lv_at hl 0 rfl) ?_
      refine lv_aload_n hx hb dX11_actRatio_67 rfl (lv_at hl 0 rfl) ?_
      obtain ⟨x44, ex44, hs⟩ := bi_inv hs
      refine hv_gR (C := RX11) (T := TX11) (N := 23) (ci := 11) hx hb hts inX11 hown hk hr rfl 10 (by decide) (hts _ tw_892) ex44 dX11_actRatio_68 ?_
      refine lv_iload_n hx hb dX11_actRatio_71 rfl (lv_at hl 2 rfl) ?_
      obtain ⟨x45, ex45, hs⟩ := bi_inv hs
      refine hv_aR (kd := 5) hx hb hk hr rfl ex45 dX11_actRatio_72 ?_
      refine lv_aload_n hx hb dX11_actRatio_73 rfl (lv_at hl 0 rfl) ?_
      obtain ⟨x46, ex46, hs⟩ := bi_inv hs
      refine hv_gR (C := RX11) (T := TX11) (N := 23) (ci := 11) hx hb hts inX11 hown hk hr rfl 11 (by decide) (hts _ tw_893) ex46 dX11_actRatio_74 ?_
      refine lv_iload_n hx hb dX11_actRatio_77 rfl (lv_at hl 3 rfl) ?_
      obtain ⟨x47, ex47, hs⟩ := bi_inv hs
      refine hv_aR (kd := 5) hx hb hk hr rfl ex47 dX11_actRatio_78 ?_
      obtain ⟨_, ex48, hs⟩ := bi_inv hs
      obtain ⟨x49, ex49, hs⟩ := bi_inv hs
      refine hv_V1 (n := 2) [.ref x45, .ref x47] [.int y1_56, .ref y0_56, .int y4_56, .ref y0_56] hx hb hml hown hts hk hr hz hS (zm_X11_times l D z ex49) ex48 rfl tw_1003 tw_1005 ts_26 tw_11 tw_1006 (by decide +kernel) (by decide) ⟨(Nat.zero_le _), (Nat.zero_le _)⟩ rfl hl.1 (Nat.le_of_ble_eq_true rfl) dX11_actRatio_79 rfl (fun H locs hr hS => ?_)
      refine lv_aload_n hx hb dX11_actRatio_82 rfl (lv_at hl 0 rfl) ?_
      refine lv_aload_n hx hb dX11_actRatio_83 rfl (lv_at hl 0 rfl) ?_
      obtain ⟨x50, ex50, hs⟩ := bi_inv hs
      refine hv_gR (C := RX11) (T := TX11) (N := 23) (ci := 11) hx hb hts inX11 hown hk hr rfl 10 (by decide) (hts _ tw_892) ex50 dX11_actRatio_84 ?_
      refine lv_iload_n hx hb dX11_actRatio_87 rfl (lv_at hl 3 rfl) ?_
      obtain ⟨x51, ex51, hs⟩ := bi_inv hs
      refine hv_aR (kd := 5) hx hb hk hr rfl ex51 dX11_actRatio_88 ?_
      refine lv_aload_n hx hb dX11_actRatio_89 rfl (lv_at hl 0 rfl) ?_
      obtain ⟨x52, ex52, hs⟩ := bi_inv hs
      refine hv_gR (C := RX11) (T := TX11) (N := 23) (ci := 11) hx hb hts inX11 hown hk hr rfl 11 (by decide) (hts _ tw_893) ex52 dX11_actRatio_90 ?_
      refine lv_iload_n hx hb dX11_actRatio_93 rfl (lv_at hl 2 rfl) ?_
      obtain ⟨x53, ex53, hs⟩ := bi_inv hs
      refine hv_aR (kd := 5) hx hb hk hr rfl ex53 dX11_actRatio_94 ?_
      obtain ⟨_, ex54, hs⟩ := bi_inv hs
      obtain ⟨x55, ex55, hs⟩ := bi_inv hs
      refine hv_V1 (n := 2) [.ref x51, .ref x53] [.ref x49.1, .int y1_56, .ref y0_56, .int y4_56, .ref y0_56] hx hb hml hown hts hk hr hz hS (zm_X11_times l D z ex55) ex54 rfl tw_1003 tw_1005 ts_26 tw_11 tw_1006 (by decide +kernel) (by decide) ⟨(Nat.zero_le _), (Nat.zero_le _)⟩ rfl hl.1 (Nat.le_of_ble_eq_true rfl) dX11_actRatio_95 rfl (fun H locs hr hS => ?_)
      obtain ⟨_, ex56, hs⟩ := bi_inv hs
      obtain ⟨x57, ex57, hs⟩ := bi_inv hs
      refine hv_V1 (n := 3) [.int y1_56, .ref x49.1, .ref x55.1] [.int y4_56, .ref y0_56] hx hb hml hown hts hk hr hz hS (zm_X11_acted l D z ex57) ex56 rfl tw_1095 tw_1097 ts_36 tw_11 tw_1098 (by decide +kernel) (by decide) ⟨(Nat.zero_le _), (Nat.zero_le _)⟩ rfl hl.1 (Nat.le_of_ble_eq_true rfl) dX11_actRatio_98 rfl (fun H locs hr hS => ?_)
      refine lv_aload_n hx hb dX11_actRatio_101 rfl (lv_at hl 0 rfl) ?_
      refine lv_aload_n hx hb dX11_actRatio_102 rfl (lv_at hl 0 rfl) ?_
      obtain ⟨x58, ex58, hs⟩ := bi_inv hs
      refine hv_gR (C := RX11) (T := TX11) (N := 23) (ci := 11) hx hb hts inX11 hown hk hr rfl 11 (by decide) (hts _ tw_893) ex58 dX11_actRatio_103 ?_
      refine lv_iload_n hx hb dX11_actRatio_106 rfl (lv_at hl 2 rfl) ?_
      obtain ⟨x59, ex59, hs⟩ := bi_inv hs
      refine hv_aR (kd := 5) hx hb hk hr rfl ex59 dX11_actRatio_107 ?_
      refine lv_aload_n hx hb dX11_actRatio_108 rfl (lv_at hl 0 rfl) ?_
      obtain ⟨x60, ex60, hs⟩ := bi_inv hs
      refine hv_gR (C := RX11) (T := TX11) (N := 23) (ci := 11) hx hb hts inX11 hown hk hr rfl 11 (by decide) (hts _ tw_893) ex60 dX11_actRatio_109 ?_
      refine lv_iload_n hx hb dX11_actRatio_112 rfl (lv_at hl 3 rfl) ?_
      obtain ⟨x61, ex61, hs⟩ := bi_inv hs
      refine hv_aR (kd := 5) hx hb hk hr rfl ex61 dX11_actRatio_113 ?_
      obtain ⟨_, ex62, hs⟩ := bi_inv hs
      obtain ⟨x63, ex63, hs⟩ := bi_inv hs
      refine hv_V1 (n := 2) [.ref x59, .ref x61] [.ref x57.1, .int y4_56, .ref y0_56] hx hb hml hown hts hk hr hz hS (zm_X11_times l D z ex63) ex62 rfl tw_1003 tw_1005 ts_26 tw_11 tw_1006 (by decide +kernel) (by decide) ⟨(Nat.zero_le _), (Nat.zero_le _)⟩ rfl hl.1 (Nat.le_of_ble_eq_true rfl) dX11_actRatio_114 rfl (fun H locs hr hS => ?_)
      obtain ⟨_, ex64, hs⟩ := bi_inv hs
      obtain ⟨x65, ex65, hs⟩ := bi_inv hs
      refine hv_V1 (n := 3) [.int y4_56, .ref x57.1, .ref x63.1] [] hx hb hml hown hts hk hr hz hS (zm_X11_keepRatio l D z ex65) ex64 rfl tw_1188 tw_1190 ts_45 tw_11 tw_1191 (by decide +kernel) (by decide) ⟨(Nat.zero_le _), (Nat.zero_le _)⟩ rfl hl.1 (Nat.le_of_ble_eq_true rfl) dX11_actRatio_117 rfl (fun H locs hr hS => ?_)
      obtain ⟨rfl, rfl⟩ := Prod.mk.inj (Option.some.inj hs)
      exact hv_iret hx hb hrt hlk hr hS dX11_actRatio_120
  unfold zs_X11_actRatio at hs
  refine lv_aload_n hx hb dX11_actRatio_0 rfl (lv_at hl 0 rfl) ?_
  refine lv_iload_n hx hb dX11_actRatio_1 rfl (lv_at hl 2 rfl) ?_
  obtain ⟨_, ex1, hs⟩ := bi_inv hs
  obtain ⟨x2, ex2, hs⟩ := bi_inv hs
  refine hv_V1 (n := 1) [.int u2] [] hx hb hml hown hts hk hr hz hS (zm_X11_isRatio l D z ex2) ex1 rfl tw_1184 tw_1186 ts_44 tw_11 tw_1187 (by decide +kernel) (by decide) ⟨(Nat.zero_le _), (Nat.zero_le _)⟩ rfl hl.1 (Nat.le_of_ble_eq_true rfl) dX11_actRatio_2 rfl (fun H locs hr hS => ?_)
  refine lv_if_eq (tgt := 34) hx hb dX11_actRatio_5 (by decide) (fun c3 => ?_) (fun c3 => ?_)
  · rw [if_pos c3] at hs
    refine lv_iconst (v := (-1)) hx hb dX11_actRatio_34 (by decide) ?_
    obtain ⟨rfl, rfl⟩ := Prod.mk.inj (Option.some.inj hs)
    exact hv_iret hx hb hrt hlk hr hS dX11_actRatio_35
  · rw [if_neg c3] at hs
    refine lv_aload_n hx hb dX11_actRatio_8 rfl (lv_at hl 0 rfl) ?_
    refine lv_iload_n hx hb dX11_actRatio_9 rfl (lv_at hl 3 rfl) ?_
    obtain ⟨_, ex4, hs⟩ := bi_inv hs
    obtain ⟨x5, ex5, hs⟩ := bi_inv hs
    refine hv_V1 (n := 1) [.int u3] [] hx hb hml hown hts hk hr hz hS (zm_X11_isRatio l D z ex5) ex4 rfl tw_1184 tw_1186 ts_44 tw_11 tw_1187 (by decide +kernel) (by decide) ⟨(Nat.zero_le _), (Nat.zero_le _)⟩ rfl hl.1 (Nat.le_of_ble_eq_true rfl) dX11_actRatio_10 rfl (fun H locs hr hS => ?_)
    refine lv_if_eq (tgt := 34) hx hb dX11_actRatio_13 (by decide) (fun c6 => ?_) (fun c6 => ?_)
    · rw [if_pos c6] at hs
      refine lv_iconst (v := (-1)) hx hb dX11_actRatio_34 (by decide) ?_
      obtain ⟨rfl, rfl⟩ := Prod.mk.inj (Option.some.inj hs)
      exact hv_iret hx hb hrt hlk hr hS dX11_actRatio_35
    · rw [if_neg c6] at hs
      refine lv_aload_n hx hb dX11_actRatio_16 rfl (lv_at hl 0 rfl) ?_
      refine lv_iload hx hb dX11_actRatio_17 (lv_at hl 4 rfl) ?_
      obtain ⟨_, ex7, hs⟩ := bi_inv hs
      obtain ⟨x8, ex8, hs⟩ := bi_inv hs
      refine hv_V1 (n := 1) [.int u4] [] hx hb hml hown hts hk hr hz hS (zm_X11_isRatio l D z ex8) ex7 rfl tw_1184 tw_1186 ts_44 tw_11 tw_1187 (by decide +kernel) (by decide) ⟨(Nat.zero_le _), (Nat.zero_le _)⟩ rfl hl.1 (Nat.le_of_ble_eq_true rfl) dX11_actRatio_19 rfl (fun H locs hr hS => ?_)
      refine lv_if_eq (tgt := 34) hx hb dX11_actRatio_22 (by decide) (fun c9 => ?_) (fun c9 => ?_)
      · rw [if_pos c9] at hs
        refine lv_iconst (v := (-1)) hx hb dX11_actRatio_34 (by decide) ?_
        obtain ⟨rfl, rfl⟩ := Prod.mk.inj (Option.some.inj hs)
        exact hv_iret hx hb hrt hlk hr hS dX11_actRatio_35
      · rw [if_neg c9] at hs
        refine lv_iload_n hx hb dX11_actRatio_25 rfl (lv_at hl 1 rfl) ?_
        refine lv_if_lt (tgt := 34) hx hb dX11_actRatio_26 (by decide) (fun c10 => ?_) (fun c10 => ?_)
        · rw [if_pos c10] at hs
          refine lv_iconst (v := (-1)) hx hb dX11_actRatio_34 (by decide) ?_
          obtain ⟨rfl, rfl⟩ := Prod.mk.inj (Option.some.inj hs)
          exact hv_iret hx hb hrt hlk hr hS dX11_actRatio_35
        · rw [if_neg c10] at hs
          refine lv_iload_n hx hb dX11_actRatio_29 rfl (lv_at hl 1 rfl) ?_
          refine lv_iconst (v := 3) hx hb dX11_actRatio_30 (by decide) ?_
          refine lv_icmp_le (tgt := 36) hx hb dX11_actRatio_31 (by decide) (fun c11 => ?_) (fun c11 => ?_)
          · rw [if_pos c11] at hs
            refine lv_iload_n hx hb dX11_actRatio_36 rfl (lv_at hl 1 rfl) ?_
            refine lv_iconst (v := 3) hx hb dX11_actRatio_37 (by decide) ?_
            refine lv_icmp_ne (tgt := 56) hx hb dX11_actRatio_38 (by decide) (fun c12 => ?_) (fun c12 => ?_)
            · rw [if_neg c12] at hs
              exact hJ56 x8.2 u0 u1 u2 u3 u4 H locs ls hs hr hS (lv_sub hl [0, 1, 2, 3, 4] rfl)
            · rw [if_pos c12] at hs
              refine lv_aload_n hx hb dX11_actRatio_41 rfl (lv_at hl 0 rfl) ?_
              obtain ⟨x66, ex66, hs⟩ := bi_inv hs
              refine hv_gR (C := RX11) (T := TX11) (N := 23) (ci := 11) hx hb hts inX11 hown hk hr rfl 10 (by decide) (hts _ tw_892) ex66 dX11_actRatio_42 ?_
              refine lv_iload_n hx hb dX11_actRatio_45 rfl (lv_at hl 3 rfl) ?_
              obtain ⟨x67, ex67, hs⟩ := bi_inv hs
              refine hv_aR (kd := 5) hx hb hk hr rfl ex67 dX11_actRatio_46 ?_
              obtain ⟨_, ex68, hs⟩ := bi_inv hs
              obtain ⟨x69, ex69, hs⟩ := bi_inv hs
              refine hv_V1 (n := 0) [] [] hx hb hml hown hts hk hr hz hS (zm_X10_isZero l D z ex69) ex68 rfl tw_1011 tw_1012 tw_1013 tw_12 tw_1014 (by decide +kernel) (by decide) ⟨(Nat.zero_le _), (Nat.zero_le _)⟩ rfl hl.1 (Nat.le_of_ble_eq_true rfl) dX11_actRatio_47 rfl (fun H locs hr hS => ?_)
              refine lv_if_eq (tgt := 56) hx hb dX11_actRatio_50 (by decide) (fun c70 => ?_) (fun c70 => ?_)
              · rw [if_pos c70] at hs
                exact hJ56 x8.2 u0 u1 u2 u3 u4 H locs ls hs hr hS (lv_sub hl [0, 1, 2, 3, 4] rfl)
              · rw [if_neg c70] at hs
                refine lv_bipush (v := (-2)) hx hb dX11_actRatio_53 (by decide) ?_
                obtain ⟨rfl, rfl⟩ := Prod.mk.inj (Option.some.inj hs)
                exact hv_iret hx hb hrt hlk hr hS dX11_actRatio_55
          · rw [if_neg c11] at hs
            refine lv_iconst (v := (-1)) hx hb dX11_actRatio_34 (by decide) ?_
            obtain ⟨rfl, rfl⟩ := Prod.mk.inj (Option.some.inj hs)
            exact hv_iret hx hb hrt hlk hr hS dX11_actRatio_35
theorem dX11_twos_0 : decode cX11_twos 0 = .ok (.aload_n 1, 1) := by decide +kernel
theorem dX11_twos_1 : decode cX11_twos 1 = .ok (.getfield 38, 3) := by decide +kernel
theorem dX11_twos_4 : decode cX11_twos 4 = .ok (.ifCond .eq 19, 3) := by decide +kernel
theorem dX11_twos_7 : decode cX11_twos 7 = .ok (.aload_n 0, 1) := by decide +kernel
theorem dX11_twos_8 : decode cX11_twos 8 = .ok (.aload_n 0, 1) := by decide +kernel
theorem dX11_twos_9 : decode cX11_twos 9 = .ok (.aload_n 1, 1) := by decide +kernel
theorem dX11_twos_10 : decode cX11_twos 10 = .ok (.invokevirtual 81, 3) := by decide +kernel
theorem dX11_twos_13 : decode cX11_twos 13 = .ok (.aload_n 0, 1) := by decide +kernel
theorem dX11_twos_14 : decode cX11_twos 14 = .ok (.getfield 113, 3) := by decide +kernel
theorem dX11_twos_17 : decode cX11_twos 17 = .ok (.invokevirtual 119, 3) := by decide +kernel
theorem dX11_twos_20 : decode cX11_twos 20 = .ok (.goto 4, 3) := by decide +kernel
theorem dX11_twos_23 : decode cX11_twos 23 = .ok (.aload_n 1, 1) := by decide +kernel
theorem dX11_twos_24 : decode cX11_twos 24 = .ok (.astore_n 3, 1) := by decide +kernel
theorem dX11_twos_25 : decode cX11_twos 25 = .ok (.iconst 0, 1) := by decide +kernel
theorem dX11_twos_26 : decode cX11_twos 26 = .ok (.istore 4, 2) := by decide +kernel
theorem dX11_twos_28 : decode cX11_twos 28 = .ok (.iload 4, 2) := by decide +kernel
theorem dX11_twos_30 : decode cX11_twos 30 = .ok (.bipush 64, 2) := by decide +kernel
theorem dX11_twos_32 : decode cX11_twos 32 = .ok (.if_icmp .ge 52, 3) := by decide +kernel
theorem dX11_twos_35 : decode cX11_twos 35 = .ok (.iload 4, 2) := by decide +kernel
theorem dX11_twos_37 : decode cX11_twos 37 = .ok (.aload_n 3, 1) := by decide +kernel
theorem dX11_twos_38 : decode cX11_twos 38 = .ok (.getfield 42, 3) := by decide +kernel
theorem dX11_twos_41 : decode cX11_twos 41 = .ok (.if_icmp .ge 13, 3) := by decide +kernel
theorem dX11_twos_44 : decode cX11_twos 44 = .ok (.aload_n 3, 1) := by decide +kernel
theorem dX11_twos_45 : decode cX11_twos 45 = .ok (.getfield 18, 3) := by decide +kernel
theorem dX11_twos_48 : decode cX11_twos 48 = .ok (.iload 4, 2) := by decide +kernel
theorem dX11_twos_50 : decode cX11_twos 50 = .ok (.iaload, 1) := by decide +kernel
theorem dX11_twos_51 : decode cX11_twos 51 = .ok (.goto 4, 3) := by decide +kernel
theorem dX11_twos_54 : decode cX11_twos 54 = .ok (.iconst 0, 1) := by decide +kernel
theorem dX11_twos_55 : decode cX11_twos 55 = .ok (.istore 5, 2) := by decide +kernel
theorem dX11_twos_57 : decode cX11_twos 57 = .ok (.aload_n 2, 1) := by decide +kernel
theorem dX11_twos_58 : decode cX11_twos 58 = .ok (.iload 4, 2) := by decide +kernel
theorem dX11_twos_60 : decode cX11_twos 60 = .ok (.aload_n 1, 1) := by decide +kernel
theorem dX11_twos_61 : decode cX11_twos 61 = .ok (.getfield 38, 3) := by decide +kernel
theorem dX11_twos_64 : decode cX11_twos 64 = .ok (.ifCond .eq 11, 3) := by decide +kernel
theorem dX11_twos_67 : decode cX11_twos 67 = .ok (.ldc 59, 2) := by decide +kernel
theorem dX11_twos_69 : decode cX11_twos 69 = .ok (.iload 5, 2) := by decide +kernel
theorem dX11_twos_71 : decode cX11_twos 71 = .ok (.isub, 1) := by decide +kernel
theorem dX11_twos_72 : decode cX11_twos 72 = .ok (.goto 5, 3) := by decide +kernel
theorem dX11_twos_75 : decode cX11_twos 75 = .ok (.iload 5, 2) := by decide +kernel
theorem dX11_twos_77 : decode cX11_twos 77 = .ok (.iastore, 1) := by decide +kernel
theorem dX11_twos_78 : decode cX11_twos 78 = .ok (.iinc 4 1, 3) := by decide +kernel
theorem dX11_twos_81 : decode cX11_twos 81 = .ok (.goto (-53), 3) := by decide +kernel
theorem dX11_twos_84 : decode cX11_twos 84 = .ok (.aload_n 2, 1) := by decide +kernel
theorem dX11_twos_85 : decode cX11_twos 85 = .ok (.areturn, 1) := by decide +kernel
def zj_X11_twos_77 (w1 : Nat) (w2 : Nat) (w3 : Nat) (g11 : AH) (y4_77 : Int32) (t0_77 : Int32) (t1_77 : Int32) (t2_77 : Nat) : Option ((AH × Int32) ⊕ (AH)) :=
  (sI g11 t2_77 0 t1_77 t0_77).bind fun g12 => some (Sum.inl ((g12, y4_77 + (1 : Int32))))
def zj_X11_twos_55 (w1 : Nat) (w2 : Nat) (w3 : Nat) (g8 : AH) (y4_55 : Int32) (t0_55 : Int32) : Option ((AH × Int32) ⊕ (AH)) :=
  (gI g8 w1 10 0).bind fun x9 => (if x9 = 0 then zj_X11_twos_77 w1 w2 w3 g8 y4_55 t0_55 y4_55 w2 else zj_X11_twos_77 w1 w2 w3 g8 y4_55 (((65535 : Int32)) - t0_55) y4_55 w2)
def zb_X11_twos_28 (w1 : Nat) (w2 : Nat) (w3 : Nat) (g4 : AH) (w4 : Int32) : Option ((AH × Int32) ⊕ (AH)) :=
  (if (64 : Int32) ≤ w4 then some (Sum.inr g4) else (gI g4 w3 10 1).bind fun x6 => (if x6 ≤ w4 then zj_X11_twos_55 w1 w2 w3 g4 w4 ((0 : Int32)) else (gR g4 w3 10 2).bind fun x13 => (aI g4 x13 0 w4).bind fun x14 => zj_X11_twos_55 w1 w2 w3 g4 w4 x14))
def zj_X11_twos_24 (g3 : AH) (y1_24 : Nat) (y2_24 : Nat) (t0_24 : Nat) : Option (Nat × AH) :=
  (iter (fun q : AH × Int32 => zb_X11_twos_28 y1_24 y2_24 t0_24 q.1 q.2) FU ((g3, (0 : Int32)))).bind fun r15 => some (y2_24, r15)
def zs_X11_twos (h : AH) (u0 : Nat) (u1 : Nat) (u2 : Nat) : Option (Nat × AH) :=
  (gI h u1 10 0).bind fun x1 => (if x1 = 0 then zj_X11_twos_24 h u1 u2 u1 else (chk h u0 11).bind fun _ => (zs_X11_sized h u0 u1).bind fun x17 => (gR x17.2 u0 11 4).bind fun x18 => (chk x17.2 u0 11).bind fun _ => (zs_X11_less x17.2 u0 x17.1 x18).bind fun x20 => zj_X11_twos_24 x20.2 u1 u2 x20.1)
set_option maxRecDepth 100000 in
set_option maxHeartbeats 4000000 in
theorem zm_X11_twos (l : Launch) (D : hG) (z : Nat) {h : AH} {u0 : Nat} {u1 : Nat} {u2 : Nat} {r : Nat} {h' : AH} (hs : zs_X11_twos h u0 u1 u2 = some (r, h')) : hC l D z yX11_twos cX11_twos 6 (Option.some (Jvm.ClassFile.FieldType.array Jvm.ClassFile.FieldType.int)) 5 135 0 0 [.ref u0, .ref u1, .ref u2] h h' (some (.ref r)) := by
  refine hC_of (by decide) (Nat.le_of_ble_eq_true rfl) ?_
  intro p e s m below meth c hx hb hml hrt hlk hown hnm hts hk hr hz ls hl
  replace hown : s.vm.findClass RX11 = some m.cls := hown
  replace hl : lv_has ls 6 [(0, .ref u0), (1, .ref u1), (2, .ref u2)] := hl
  have hS : va_S (hA z) s.heap s.heap [] := va_S.rf
  suffices hgo : ∀ (H : Heap) (locs : List Loc), hR D z h H → va_S (hA z) s.heap H locs → W p l e ({ frames := 5, cells := 0, slots := 0, locals := 135 } : Room) s m ([.ref u0, .ref u1, .ref u2] : List Value).toArray below meth c H locs 0 0 (MQ below (hQ D z h' (some (.ref r))) ([.ref u0, .ref u1, .ref u2] : List Value).toArray s 0 0 (hA z)) (F0 m 0 ls []) from hgo _ _ hr hS
  clear hr hS
  intro H locs hr hS
  have hJ24 : ∀ (g3 : AH) (y1_24 : Nat) (y2_24 : Nat) (t0_24 : Nat) (H : Heap) (locs : List Loc) (ls : Array Slot), zj_X11_twos_24 g3 y1_24 y2_24 t0_24 = some (r, h') → hR D z g3 H → va_S (hA z) s.heap H locs → lv_has ls 6 [(1, .ref y1_24), (2, .ref y2_24)] → W p l e ({ frames := 5, cells := 0, slots := 0, locals := 135 } : Room) s m ([.ref u0, .ref u1, .ref u2] : List Value).toArray below meth c H locs 0 0 (MQ below (hQ D z h' (some (.ref r))) ([.ref u0, .ref u1, .ref u2] : List Value).toArray s 0 0 (hA z)) (F0 m 24 ls [.ref t0_24]) := by
    intro g3 y1_24 y2_24 t0_24 H locs ls hs hr hS hl
    unfold zj_X11_twos_24 at hs
    refine lv_astore_n (lv' := [(3, .ref t0_24), (1, .ref y1_24), (2, .ref y2_24)]) hx hb dX11_twos_24 rfl hl (by decide) rfl (fun ls hl => ?_)
    refine lv_iconst (v := 0) hx hb dX11_twos_25 (by decide) ?_
    refine lv_istore (lv' := [(4, .int ((0 : Int32))), (3, .ref t0_24), (1, .ref y1_24), (2, .ref y2_24)]) hx hb dX11_twos_26 hl (by decide) rfl (fun ls hl => ?_)
    obtain ⟨r15, er15, hs⟩ := bi_inv hs
    refine iter_W (fun (q : AH × Int32) => ∀ (H : Heap) (locs : List Loc) (ls : Array Slot), hR D z q.1 H → va_S (hA z) s.heap H locs → lv_has ls 6 [(1, .ref y1_24), (2, .ref y2_24), (3, .ref t0_24), (4, .int q.2)] → W p l e ({ frames := 5, cells := 0, slots := 0, locals := 135 } : Room) s m ([.ref u0, .ref u1, .ref u2] : List Value).toArray below meth c H locs 0 0 (MQ below (hQ D z h' (some (.ref r))) ([.ref u0, .ref u1, .ref u2] : List Value).toArray s 0 0 (hA z)) (F0 m 28 ls [])) (fun (x : AH) => ∀ (H : Heap) (locs : List Loc) (ls : Array Slot), hR D z x H → va_S (hA z) s.heap H locs → lv_has ls 6 [(2, .ref y2_24)] → W p l e ({ frames := 5, cells := 0, slots := 0, locals := 135 } : Room) s m ([.ref u0, .ref u1, .ref u2] : List Value).toArray below meth c H locs 0 0 (MQ below (hQ D z h' (some (.ref r))) ([.ref u0, .ref u1, .ref u2] : List Value).toArray s 0 0 (hA z)) (F0 m 84 ls [])) ?_ FU _ r15 er15 ?_ H locs ls hr hS (lv_sub hl [2, 3, 1, 0] rfl)
    · intro q o hs hcont hexit
      obtain ⟨g4, w4⟩ := q
      replace hs : zb_X11_twos_28 y1_24 y2_24 t0_24 g4 w4 = some o := hs
      intro H locs ls hr hS hl
      have hJ77 : ∀ (g11 : AH) (y4_77 : Int32) (t0_77 : Int32) (t1_77 : Int32) (t2_77 : Nat) (H : Heap) (locs : List Loc) (ls : Array Slot), zj_X11_twos_77 y1_24 y2_24 t0_24 g11 y4_77 t0_77 t1_77 t2_77 = some o → hR D z g11 H → va_S (hA z) s.heap H locs → lv_has ls 6 [(1, .ref y1_24), (2, .ref y2_24), (3, .ref t0_24), (4, .int y4_77)] → W p l e ({ frames := 5, cells := 0, slots := 0, locals := 135 } : Room) s m ([.ref u0, .ref u1, .ref u2] : List Value).toArray below meth c H locs 0 0 (MQ below (hQ D z h' (some (.ref r))) ([.ref u0, .ref u1, .ref u2] : List Value).toArray s 0 0 (hA z)) (F0 m 77 ls [.int t0_77, .int t1_77, .ref t2_77]) := by
        intro g11 y4_77 t0_77 t1_77 t2_77 H locs ls hs hr hS hl
        unfold zj_X11_twos_77 at hs
        obtain ⟨g12, eg12, hs⟩ := bi_inv hs
        refine hv_sI hx hb hk hr hS eg12 dX11_twos_77 (fun H locs hr hS => ?_)
        refine lv_iinc (v := y4_77 + (1 : Int32)) (lv' := [(4, .int (y4_77 + (1 : Int32))), (1, .ref y1_24), (2, .ref y2_24), (3, .ref t0_24)]) hx hb dX11_twos_78 hl (k := 3) rfl (ii_v _ (by decide)) (by decide) rfl (fun ls hl => ?_)
        refine lv_goto (tgt := 28) hx hb dX11_twos_81 (by decide) ?_
        obtain rfl := Option.some.inj hs
        exact hcont _ rfl H locs ls hr hS (lv_sub hl [1, 2, 3, 0] rfl)
      have hJ55 : ∀ (g8 : AH) (y4_55 : Int32) (t0_55 : Int32) (H : Heap) (locs : List Loc) (ls : Array Slot), zj_X11_twos_55 y1_24 y2_24 t0_24 g8 y4_55 t0_55 = some o → hR D z g8 H → va_S (hA z) s.heap H locs → lv_has ls 6 [(1, .ref y1_24), (2, .ref y2_24), (3, .ref t0_24), (4, .int y4_55)] → W p l e ({ frames := 5, cells := 0, slots := 0, locals := 135 } : Room) s m ([.ref u0, .ref u1, .ref u2] : List Value).toArray below meth c H locs 0 0 (MQ below (hQ D z h' (some (.ref r))) ([.ref u0, .ref u1, .ref u2] : List Value).toArray s 0 0 (hA z)) (F0 m 55 ls [.int t0_55]) := by
        intro g8 y4_55 t0_55 H locs ls hs hr hS hl
        unfold zj_X11_twos_55 at hs
        refine lv_istore (lv' := [(5, .int t0_55), (1, .ref y1_24), (2, .ref y2_24), (3, .ref t0_24), (4, .int y4_55)]) hx hb dX11_twos_55 hl (by decide) rfl (fun ls hl => ?_)
        refine lv_aload_n hx hb dX11_twos_57 rfl (lv_at hl 2 rfl) ?_
        refine lv_iload hx hb dX11_twos_58 (lv_at hl 4 rfl) ?_
        refine lv_aload_n hx hb dX11_twos_60 rfl (lv_at hl 1 rfl) ?_
        obtain ⟨x9, ex9, hs⟩ := bi_inv hs
        refine hv_gI (C := RX10) (T := TX10) (N := 3) (ci := 10) hx hb hts inX10 hown hk hr rfl 0 (by decide) (hts _ tw_863) ex9 dX11_twos_61 ?_
        refine lv_if_eq (tgt := 75) hx hb dX11_twos_64 (by decide) (fun c10 => ?_) (fun c10 => ?_)
        · rw [if_pos c10] at hs
          refine lv_iload hx hb dX11_twos_75 (lv_at hl 0 rfl) ?_
          exact hJ77 g8 y4_55 t0_55 y4_55 y2_24 H locs ls hs hr hS (lv_sub hl [1, 2, 3, 4] rfl)
        · rw [if_neg c10] at hs
          refine lv_ldc hx hb hown (hts _ tw_1026) dX11_twos_67 ?_
          refine lv_iload hx hb dX11_twos_69 (lv_at hl 0 rfl) ?_
          refine lv_isub hx hb dX11_twos_71 ?_
          refine lv_goto (tgt := 77) hx hb dX11_twos_72 (by decide) ?_
          exact hJ77 g8 y4_55 (((65535 : Int32)) - t0_55) y4_55 y2_24 H locs ls hs hr hS (lv_sub hl [1, 2, 3, 4] rfl)
      unfold zb_X11_twos_28 at hs
      refine lv_iload hx hb dX11_twos_28 (lv_at hl 3 rfl) ?_
      refine lv_bipush (v := 64) hx hb dX11_twos_30 (by decide) ?_
      refine lv_icmp_ge (tgt := 84) hx hb dX11_twos_32 (by decide) (fun c5 => ?_) (fun c5 => ?_)
      · rw [if_pos c5] at hs
        obtain rfl := Option.some.inj hs
        exact hexit _ rfl H locs ls hr hS (lv_sub hl [1] rfl)
      · rw [if_neg c5] at hs
        refine lv_iload hx hb dX11_twos_35 (lv_at hl 3 rfl) ?_
        refine lv_aload_n hx hb dX11_twos_37 rfl (lv_at hl 2 rfl) ?_
        obtain ⟨x6, ex6, hs⟩ := bi_inv hs
        refine hv_gI (C := RX10) (T := TX10) (N := 3) (ci := 10) hx hb hts inX10 hown hk hr rfl 1 (by decide) (hts _ tw_865) ex6 dX11_twos_38 ?_
        refine lv_icmp_ge (tgt := 54) hx hb dX11_twos_41 (by decide) (fun c7 => ?_) (fun c7 => ?_)
        · rw [if_pos c7] at hs
          refine lv_iconst (v := 0) hx hb dX11_twos_54 (by decide) ?_
          exact hJ55 g4 w4 ((0 : Int32)) H locs ls hs hr hS (lv_sub hl [0, 1, 2, 3] rfl)
        · rw [if_neg c7] at hs
          refine lv_aload_n hx hb dX11_twos_44 rfl (lv_at hl 2 rfl) ?_
          obtain ⟨x13, ex13, hs⟩ := bi_inv hs
          refine hv_gR (C := RX10) (T := TX10) (N := 3) (ci := 10) hx hb hts inX10 hown hk hr rfl 2 (by decide) (hts _ tw_867) ex13 dX11_twos_45 ?_
          refine lv_iload hx hb dX11_twos_48 (lv_at hl 3 rfl) ?_
          obtain ⟨x14, ex14, hs⟩ := bi_inv hs
          refine hv_aI hx hb hk hr ex14 dX11_twos_50 ?_
          refine lv_goto (tgt := 55) hx hb dX11_twos_51 (by decide) ?_
          exact hJ55 g4 w4 x14 H locs ls hs hr hS (lv_sub hl [0, 1, 2, 3] rfl)
    · intro H locs ls hr hS hl
      refine lv_aload_n hx hb dX11_twos_84 rfl (lv_at hl 0 rfl) ?_
      obtain ⟨rfl, rfl⟩ := Prod.mk.inj (Option.some.inj hs)
      exact hv_aret hx hb hrt (by first | exact Or.inl ⟨_, rfl⟩ | exact Or.inr ⟨_, rfl⟩) hlk hr hS dX11_twos_85
  unfold zs_X11_twos at hs
  refine lv_aload_n hx hb dX11_twos_0 rfl (lv_at hl 1 rfl) ?_
  obtain ⟨x1, ex1, hs⟩ := bi_inv hs
  refine hv_gI (C := RX10) (T := TX10) (N := 3) (ci := 10) hx hb hts inX10 hown hk hr rfl 0 (by decide) (hts _ tw_863) ex1 dX11_twos_1 ?_
  refine lv_if_eq (tgt := 23) hx hb dX11_twos_4 (by decide) (fun c2 => ?_) (fun c2 => ?_)
  · rw [if_pos c2] at hs
    refine lv_aload_n hx hb dX11_twos_23 rfl (lv_at hl 1 rfl) ?_
    exact hJ24 h u1 u2 u1 H locs ls hs hr hS (lv_sub hl [1, 2] rfl)
  · rw [if_neg c2] at hs
    refine lv_aload_n hx hb dX11_twos_7 rfl (lv_at hl 0 rfl) ?_
    refine lv_aload_n hx hb dX11_twos_8 rfl (lv_at hl 0 rfl) ?_
    refine lv_aload_n hx hb dX11_twos_9 rfl (lv_at hl 1 rfl) ?_
    obtain ⟨_, ex16, hs⟩ := bi_inv hs
    obtain ⟨x17, ex17, hs⟩ := bi_inv hs
    refine hv_V1 (n := 1) [.ref u1] [.ref u0] hx hb hml hown hts hk hr hz hS (zm_X11_sized l D z ex17) ex16 rfl tw_1036 tw_1038 ts_31 tw_11 tw_1039 (by decide +kernel) (by decide) ⟨(Nat.zero_le _), (Nat.zero_le _)⟩ rfl hl.1 (Nat.le_of_ble_eq_true rfl) dX11_twos_10 rfl (fun H locs hr hS => ?_)
    refine lv_aload_n hx hb dX11_twos_13 rfl (lv_at hl 0 rfl) ?_
    obtain ⟨x18, ex18, hs⟩ := bi_inv hs
    refine hv_gR (C := RX11) (T := TX11) (N := 23) (ci := 11) hx hb hts inX11 hown hk hr rfl 4 (by decide) (hts _ tw_886) ex18 dX11_twos_14 ?_
    obtain ⟨_, ex19, hs⟩ := bi_inv hs
    obtain ⟨x20, ex20, hs⟩ := bi_inv hs
    refine hv_V1 (n := 2) [.ref x17.1, .ref x18] [] hx hb hml hown hts hk hr hz hS (zm_X11_less l D z ex20) ex19 rfl tw_1099 tw_1101 ts_37 tw_11 tw_1102 (by decide +kernel) (by decide) ⟨(Nat.zero_le _), (Nat.zero_le _)⟩ rfl hl.1 (Nat.le_of_ble_eq_true rfl) dX11_twos_17 rfl (fun H locs hr hS => ?_)
    refine lv_goto (tgt := 24) hx hb dX11_twos_20 (by decide) ?_
    exact hJ24 x20.2 u1 u2 x20.1 H locs ls hs hr hS (lv_sub hl [1, 2] rfl)
theorem dX11_bit_0 : decode cX11_bit 0 = .ok (.aload_n 0, 1) := by decide +kernel
theorem dX11_bit_1 : decode cX11_bit 1 = .ok (.iload_n 1, 1) := by decide +kernel
theorem dX11_bit_2 : decode cX11_bit 2 = .ok (.invokevirtual 177, 3) := by decide +kernel
theorem dX11_bit_5 : decode cX11_bit 5 = .ok (.ifCond .eq 7, 3) := by decide +kernel
theorem dX11_bit_8 : decode cX11_bit 8 = .ok (.iload_n 2, 1) := by decide +kernel
theorem dX11_bit_9 : decode cX11_bit 9 = .ok (.ifCond .ge 5, 3) := by decide +kernel
theorem dX11_bit_12 : decode cX11_bit 12 = .ok (.iconst (-1), 1) := by decide +kernel
theorem dX11_bit_13 : decode cX11_bit 13 = .ok (.ireturn, 1) := by decide +kernel
theorem dX11_bit_14 : decode cX11_bit 14 = .ok (.aload_n 0, 1) := by decide +kernel
theorem dX11_bit_15 : decode cX11_bit 15 = .ok (.aload_n 0, 1) := by decide +kernel
theorem dX11_bit_16 : decode cX11_bit 16 = .ok (.getfield 142, 3) := by decide +kernel
theorem dX11_bit_19 : decode cX11_bit 19 = .ok (.iload_n 1, 1) := by decide +kernel
theorem dX11_bit_20 : decode cX11_bit 20 = .ok (.aaload, 1) := by decide +kernel
theorem dX11_bit_21 : decode cX11_bit 21 = .ok (.aload_n 0, 1) := by decide +kernel
theorem dX11_bit_22 : decode cX11_bit 22 = .ok (.getfield 158, 3) := by decide +kernel
theorem dX11_bit_25 : decode cX11_bit 25 = .ok (.invokevirtual 223, 3) := by decide +kernel
theorem dX11_bit_28 : decode cX11_bit 28 = .ok (.astore_n 3, 1) := by decide +kernel
theorem dX11_bit_29 : decode cX11_bit 29 = .ok (.iload_n 2, 1) := by decide +kernel
theorem dX11_bit_30 : decode cX11_bit 30 = .ok (.sipush 1023, 3) := by decide +kernel
theorem dX11_bit_33 : decode cX11_bit 33 = .ok (.invokestatic 231, 3) := by decide +kernel
theorem dX11_bit_36 : decode cX11_bit 36 = .ok (.istore 4, 2) := by decide +kernel
theorem dX11_bit_38 : decode cX11_bit 38 = .ok (.aload_n 3, 1) := by decide +kernel
theorem dX11_bit_39 : decode cX11_bit 39 = .ok (.iload 4, 2) := by decide +kernel
theorem dX11_bit_41 : decode cX11_bit 41 = .ok (.bipush 16, 2) := by decide +kernel
theorem dX11_bit_43 : decode cX11_bit 43 = .ok (.idiv, 1) := by decide +kernel
theorem dX11_bit_44 : decode cX11_bit 44 = .ok (.iaload, 1) := by decide +kernel
theorem dX11_bit_45 : decode cX11_bit 45 = .ok (.iload 4, 2) := by decide +kernel
theorem dX11_bit_47 : decode cX11_bit 47 = .ok (.bipush 16, 2) := by decide +kernel
theorem dX11_bit_49 : decode cX11_bit 49 = .ok (.irem, 1) := by decide +kernel
theorem dX11_bit_50 : decode cX11_bit 50 = .ok (.ishr, 1) := by decide +kernel
theorem dX11_bit_51 : decode cX11_bit 51 = .ok (.iconst 1, 1) := by decide +kernel
theorem dX11_bit_52 : decode cX11_bit 52 = .ok (.iand, 1) := by decide +kernel
theorem dX11_bit_53 : decode cX11_bit 53 = .ok (.ireturn, 1) := by decide +kernel
def zs_X11_bit (h : AH) (u0 : Nat) (u1 : Int32) (u2 : Int32) : Option (Int32 × AH) :=
  (chk h u0 11).bind fun _ => (zs_X11_isSlot h u0 u1).bind fun x2 => (if x2.1 = 0 then some ((-1 : Int32), x2.2) else (if 0 ≤ u2 then (gR x2.2 u0 11 9).bind fun x5 => (aR x2.2 x5 5 u1).bind fun x6 => (gR x2.2 u0 11 16).bind fun x7 => (chk x2.2 u0 11).bind fun _ => (zs_X11_twos x2.2 u0 x6 x7).bind fun x9 => lt_ (if (1023 : Int32) < u2 then (1023 : Int32) else u2) fun x10 => (aI x9.2 x9.1 0 (x10 / ((16 : Int32)))).bind fun x11 => some ((x11 >>> ((x10 - x10 / ((16 : Int32)) * ((16 : Int32))) &&& 31)) &&& ((1 : Int32)), x9.2) else some ((-1 : Int32), x2.2)))
set_option maxRecDepth 100000 in
set_option maxHeartbeats 4000000 in
theorem zm_X11_bit (l : Launch) (D : hG) (z : Nat) {h : AH} {u0 : Nat} {u1 : Int32} {u2 : Int32} {r : Int32} {h' : AH} (hs : zs_X11_bit h u0 u1 u2 = some (r, h')) : hC l D z yX11_bit cX11_bit 5 (Option.some Jvm.ClassFile.FieldType.int) 6 160 0 0 [.ref u0, .int u1, .int u2] h h' (some (.int r)) := by
  refine hC_of (by decide) (Nat.le_of_ble_eq_true rfl) ?_
  intro p e s m below meth c hx hb hml hrt hlk hown hnm hts hk hr hz ls hl
  replace hown : s.vm.findClass RX11 = some m.cls := hown
  replace hl : lv_has ls 5 [(0, .ref u0), (1, .int u1), (2, .int u2)] := hl
  have hS : va_S (hA z) s.heap s.heap [] := va_S.rf
  suffices hgo : ∀ (H : Heap) (locs : List Loc), hR D z h H → va_S (hA z) s.heap H locs → W p l e ({ frames := 6, cells := 0, slots := 0, locals := 160 } : Room) s m ([.ref u0, .int u1, .int u2] : List Value).toArray below meth c H locs 0 0 (MQ below (hQ D z h' (some (.int r))) ([.ref u0, .int u1, .int u2] : List Value).toArray s 0 0 (hA z)) (F0 m 0 ls []) from hgo _ _ hr hS
  clear hr hS
  intro H locs hr hS
  unfold zs_X11_bit at hs
  refine lv_aload_n hx hb dX11_bit_0 rfl (lv_at hl 0 rfl) ?_
  refine lv_iload_n hx hb dX11_bit_1 rfl (lv_at hl 1 rfl) ?_
  obtain ⟨_, ex1, hs⟩ := bi_inv hs
  obtain ⟨x2, ex2, hs⟩ := bi_inv hs
  refine hv_V1 (n := 1) [.int u1] [] hx hb hml hown hts hk hr hz hS (zm_X11_isSlot l D z ex2) ex1 rfl tw_956 tw_958 ts_21 tw_11 tw_959 (by decide +kernel) (by decide) ⟨(Nat.zero_le _), (Nat.zero_le _)⟩ rfl hl.1 (Nat.le_of_ble_eq_true rfl) dX11_bit_2 rfl (fun H locs hr hS => ?_)
  refine lv_if_eq (tgt := 12) hx hb dX11_bit_5 (by decide) (fun c3 => ?_) (fun c3 => ?_)
  · rw [if_pos c3] at hs
    refine lv_iconst (v := (-1)) hx hb dX11_bit_12 (by decide) ?_
    obtain ⟨rfl, rfl⟩ := Prod.mk.inj (Option.some.inj hs)
    exact hv_iret hx hb hrt hlk hr hS dX11_bit_13
  · rw [if_neg c3] at hs
    refine lv_iload_n hx hb dX11_bit_8 rfl (lv_at hl 2 rfl) ?_
    refine lv_if_ge (tgt := 14) hx hb dX11_bit_9 (by decide) (fun c4 => ?_) (fun c4 => ?_)
    · rw [if_pos c4] at hs
      refine lv_aload_n hx hb dX11_bit_14 rfl (lv_at hl 0 rfl) ?_
      refine lv_aload_n hx hb dX11_bit_15 rfl (lv_at hl 0 rfl) ?_
      obtain ⟨x5, ex5, hs⟩ := bi_inv hs
      refine hv_gR (C := RX11) (T := TX11) (N := 23) (ci := 11) hx hb hts inX11 hown hk hr rfl 9 (by decide) (hts _ tw_891) ex5 dX11_bit_16 ?_
      refine lv_iload_n hx hb dX11_bit_19 rfl (lv_at hl 1 rfl) ?_
      obtain ⟨x6, ex6, hs⟩ := bi_inv hs
      refine hv_aR (kd := 5) hx hb hk hr rfl ex6 dX11_bit_20 ?_
      refine lv_aload_n hx hb dX11_bit_21 rfl (lv_at hl 0 rfl) ?_
      obtain ⟨x7, ex7, hs⟩ := bi_inv hs
      refine hv_gR (C := RX11) (T := TX11) (N := 23) (ci := 11) hx hb hts inX11 hown hk hr rfl 16 (by decide) (hts _ tw_898) ex7 dX11_bit_22 ?_
      obtain ⟨_, ex8, hs⟩ := bi_inv hs
      obtain ⟨x9, ex9, hs⟩ := bi_inv hs
      refine hv_V1 (n := 2) [.ref x6, .ref x7] [] hx hb hml hown hts hk hr hz hS (zm_X11_twos l D z ex9) ex8 rfl tw_1148 tw_1150 ts_42 tw_11 tw_1151 (by decide +kernel) (by decide) ⟨(Nat.zero_le _), (Nat.zero_le _)⟩ rfl hl.1 (Nat.le_of_ble_eq_true rfl) dX11_bit_25 rfl (fun H locs hr hS => ?_)
      refine lv_astore_n (lv' := [(3, .ref x9.1), (0, .ref u0), (1, .int u1), (2, .int u2)]) hx hb dX11_bit_28 rfl hl (by decide) rfl (fun ls hl => ?_)
      refine lv_iload_n hx hb dX11_bit_29 rfl (lv_at hl 3 rfl) ?_
      refine lv_sipush (v := 1023) hx hb dX11_bit_30 (by decide) ?_
      refine va_mmin hx hb (hml.trans hl.1.symm) hown (hts _ tw_1165) (hts _ tw_463) (hts _ tw_15) (hts _ tw_464) (by decide) (Nat.le_of_ble_eq_true rfl) (Nat.zero_le _) (Nat.zero_le _) dX11_bit_33 ?_
      refine lv_topi (fun x10 ex10 => ?_)
      replace hs := lt_inv hs x10 ex10
      refine lv_istore (lv' := [(4, .int x10), (3, .ref x9.1), (0, .ref u0), (1, .int u1), (2, .int u2)]) hx hb dX11_bit_36 hl (by decide) rfl (fun ls hl => ?_)
      refine lv_aload_n hx hb dX11_bit_38 rfl (lv_at hl 1 rfl) ?_
      refine lv_iload hx hb dX11_bit_39 (lv_at hl 0 rfl) ?_
      refine lv_bipush (v := 16) hx hb dX11_bit_41 (by decide) ?_
      refine lv_idiv hx hb dX11_bit_43 (by decide) ?_
      obtain ⟨x11, ex11, hs⟩ := bi_inv hs
      refine hv_aI hx hb hk hr ex11 dX11_bit_44 ?_
      refine lv_iload hx hb dX11_bit_45 (lv_at hl 0 rfl) ?_
      refine lv_bipush (v := 16) hx hb dX11_bit_47 (by decide) ?_
      refine lv_irem hx hb dX11_bit_49 (by decide) ?_
      refine lv_ishr hx hb dX11_bit_50 ?_
      refine lv_iconst (v := 1) hx hb dX11_bit_51 (by decide) ?_
      refine lv_iand hx hb dX11_bit_52 ?_
      obtain ⟨rfl, rfl⟩ := Prod.mk.inj (Option.some.inj hs)
      exact hv_iret hx hb hrt hlk hr hS dX11_bit_53
    · rw [if_neg c4] at hs
      refine lv_iconst (v := (-1)) hx hb dX11_bit_12 (by decide) ?_
      obtain ⟨rfl, rfl⟩ := Prod.mk.inj (Option.some.inj hs)
      exact hv_iret hx hb hrt hlk hr hS dX11_bit_13
theorem dX11_fromTwos_0 : decode cX11_fromTwos 0 = .ok (.aload_n 1, 1) := by decide +kernel
theorem dX11_fromTwos_1 : decode cX11_fromTwos 1 = .ok (.bipush 63, 2) := by decide +kernel
theorem dX11_fromTwos_3 : decode cX11_fromTwos 3 = .ok (.iaload, 1) := by decide +kernel
theorem dX11_fromTwos_4 : decode cX11_fromTwos 4 = .ok (.ldc 222, 2) := by decide +kernel
theorem dX11_fromTwos_6 : decode cX11_fromTwos 6 = .ok (.if_icmp .lt 7, 3) := by decide +kernel
theorem dX11_fromTwos_9 : decode cX11_fromTwos 9 = .ok (.iconst 1, 1) := by decide +kernel
theorem dX11_fromTwos_10 : decode cX11_fromTwos 10 = .ok (.goto 4, 3) := by decide +kernel
theorem dX11_fromTwos_13 : decode cX11_fromTwos 13 = .ok (.iconst 0, 1) := by decide +kernel
theorem dX11_fromTwos_14 : decode cX11_fromTwos 14 = .ok (.istore_n 2, 1) := by decide +kernel
theorem dX11_fromTwos_15 : decode cX11_fromTwos 15 = .ok (.aload_n 0, 1) := by decide +kernel
theorem dX11_fromTwos_16 : decode cX11_fromTwos 16 = .ok (.invokevirtual 14, 3) := by decide +kernel
theorem dX11_fromTwos_19 : decode cX11_fromTwos 19 = .ok (.astore_n 3, 1) := by decide +kernel
theorem dX11_fromTwos_20 : decode cX11_fromTwos 20 = .ok (.iconst 0, 1) := by decide +kernel
theorem dX11_fromTwos_21 : decode cX11_fromTwos 21 = .ok (.istore 4, 2) := by decide +kernel
theorem dX11_fromTwos_23 : decode cX11_fromTwos 23 = .ok (.iload 4, 2) := by decide +kernel
theorem dX11_fromTwos_25 : decode cX11_fromTwos 25 = .ok (.bipush 64, 2) := by decide +kernel
theorem dX11_fromTwos_27 : decode cX11_fromTwos 27 = .ok (.if_icmp .ge 34, 3) := by decide +kernel
theorem dX11_fromTwos_30 : decode cX11_fromTwos 30 = .ok (.aload_n 3, 1) := by decide +kernel
theorem dX11_fromTwos_31 : decode cX11_fromTwos 31 = .ok (.getfield 18, 3) := by decide +kernel
theorem dX11_fromTwos_34 : decode cX11_fromTwos 34 = .ok (.iload 4, 2) := by decide +kernel
theorem dX11_fromTwos_36 : decode cX11_fromTwos 36 = .ok (.iload_n 2, 1) := by decide +kernel
theorem dX11_fromTwos_37 : decode cX11_fromTwos 37 = .ok (.ifCond .eq 13, 3) := by decide +kernel
theorem dX11_fromTwos_40 : decode cX11_fromTwos 40 = .ok (.ldc 59, 2) := by decide +kernel
theorem dX11_fromTwos_42 : decode cX11_fromTwos 42 = .ok (.aload_n 1, 1) := by decide +kernel
theorem dX11_fromTwos_43 : decode cX11_fromTwos 43 = .ok (.iload 4, 2) := by decide +kernel
theorem dX11_fromTwos_45 : decode cX11_fromTwos 45 = .ok (.iaload, 1) := by decide +kernel
theorem dX11_fromTwos_46 : decode cX11_fromTwos 46 = .ok (.isub, 1) := by decide +kernel
theorem dX11_fromTwos_47 : decode cX11_fromTwos 47 = .ok (.goto 7, 3) := by decide +kernel
theorem dX11_fromTwos_50 : decode cX11_fromTwos 50 = .ok (.aload_n 1, 1) := by decide +kernel
theorem dX11_fromTwos_51 : decode cX11_fromTwos 51 = .ok (.iload 4, 2) := by decide +kernel
theorem dX11_fromTwos_53 : decode cX11_fromTwos 53 = .ok (.iaload, 1) := by decide +kernel
theorem dX11_fromTwos_54 : decode cX11_fromTwos 54 = .ok (.iastore, 1) := by decide +kernel
theorem dX11_fromTwos_55 : decode cX11_fromTwos 55 = .ok (.iinc 4 1, 3) := by decide +kernel
theorem dX11_fromTwos_58 : decode cX11_fromTwos 58 = .ok (.goto (-35), 3) := by decide +kernel
theorem dX11_fromTwos_61 : decode cX11_fromTwos 61 = .ok (.aload_n 3, 1) := by decide +kernel
theorem dX11_fromTwos_62 : decode cX11_fromTwos 62 = .ok (.iconst 0, 1) := by decide +kernel
theorem dX11_fromTwos_63 : decode cX11_fromTwos 63 = .ok (.bipush 64, 2) := by decide +kernel
theorem dX11_fromTwos_65 : decode cX11_fromTwos 65 = .ok (.invokevirtual 26, 3) := by decide +kernel
theorem dX11_fromTwos_68 : decode cX11_fromTwos 68 = .ok (.astore 4, 2) := by decide +kernel
theorem dX11_fromTwos_70 : decode cX11_fromTwos 70 = .ok (.iload_n 2, 1) := by decide +kernel
theorem dX11_fromTwos_71 : decode cX11_fromTwos 71 = .ok (.ifCond .eq 20, 3) := by decide +kernel
theorem dX11_fromTwos_74 : decode cX11_fromTwos 74 = .ok (.aload_n 0, 1) := by decide +kernel
theorem dX11_fromTwos_75 : decode cX11_fromTwos 75 = .ok (.aload_n 0, 1) := by decide +kernel
theorem dX11_fromTwos_76 : decode cX11_fromTwos 76 = .ok (.aload 4, 2) := by decide +kernel
theorem dX11_fromTwos_78 : decode cX11_fromTwos 78 = .ok (.aload_n 0, 1) := by decide +kernel
theorem dX11_fromTwos_79 : decode cX11_fromTwos 79 = .ok (.getfield 113, 3) := by decide +kernel
theorem dX11_fromTwos_82 : decode cX11_fromTwos 82 = .ok (.invokevirtual 116, 3) := by decide +kernel
theorem dX11_fromTwos_85 : decode cX11_fromTwos 85 = .ok (.invokevirtual 67, 3) := by decide +kernel
theorem dX11_fromTwos_88 : decode cX11_fromTwos 88 = .ok (.goto 5, 3) := by decide +kernel
theorem dX11_fromTwos_91 : decode cX11_fromTwos 91 = .ok (.aload 4, 2) := by decide +kernel
theorem dX11_fromTwos_93 : decode cX11_fromTwos 93 = .ok (.areturn, 1) := by decide +kernel
def zj_X11_fromTwos_54 (w0 : Nat) (w1 : Nat) (w2 : Int32) (w3 : Nat) (g11 : AH) (y4_54 : Int32) (t0_54 : Int32) (t1_54 : Int32) (t2_54 : Nat) : Option ((AH × Int32) ⊕ (AH)) :=
  (sI g11 t2_54 0 t1_54 t0_54).bind fun g12 => some (Sum.inl ((g12, y4_54 + (1 : Int32))))
def zb_X11_fromTwos_23 (w0 : Nat) (w1 : Nat) (w2 : Int32) (w3 : Nat) (g6 : AH) (w4 : Int32) : Option ((AH × Int32) ⊕ (AH)) :=
  (if (64 : Int32) ≤ w4 then some (Sum.inr g6) else (gR g6 w3 10 2).bind fun x8 => (if w2 = 0 then (aI g6 w1 0 w4).bind fun x10 => zj_X11_fromTwos_54 w0 w1 w2 w3 g6 w4 x10 w4 x8 else (aI g6 w1 0 w4).bind fun x13 => zj_X11_fromTwos_54 w0 w1 w2 w3 g6 w4 (((65535 : Int32)) - x13) w4 x8))
def zj_X11_fromTwos_14 (g3 : AH) (y0_14 : Nat) (y1_14 : Nat) (t0_14 : Int32) : Option (Nat × AH) :=
  (chk g3 y0_14 11).bind fun _ => (zs_X11_take g3 y0_14).bind fun x5 => (iter (fun q : AH × Int32 => zb_X11_fromTwos_23 y0_14 y1_14 t0_14 x5.1 q.1 q.2) FU ((x5.2, (0 : Int32)))).bind fun r14 => (chk r14 x5.1 10).bind fun _ => (zs_X10_of r14 x5.1 ((0 : Int32)) ((64 : Int32))).bind fun x16 => (if t0_14 = 0 then some (x16.1, x16.2) else (gR x16.2 y0_14 11 4).bind fun x18 => (chk x16.2 y0_14 11).bind fun _ => (zs_X11_sum_ x16.2 y0_14 x16.1 x18).bind fun x20 => (chk x20.2 y0_14 11).bind fun _ => (zs_X11_negative x20.2 y0_14 x20.1).bind fun x22 => some (x22.1, x22.2))
def zs_X11_fromTwos (h : AH) (u0 : Nat) (u1 : Nat) : Option (Nat × AH) :=
  (aI h u1 0 ((63 : Int32))).bind fun x1 => (if x1 < (32768 : Int32) then zj_X11_fromTwos_14 h u0 u1 ((0 : Int32)) else zj_X11_fromTwos_14 h u0 u1 ((1 : Int32)))
set_option maxRecDepth 100000 in
set_option maxHeartbeats 4000000 in
theorem zm_X11_fromTwos (l : Launch) (D : hG) (z : Nat) {h : AH} {u0 : Nat} {u1 : Nat} {r : Nat} {h' : AH} (hs : zs_X11_fromTwos h u0 u1 = some (r, h')) : hC l D z yX11_fromTwos cX11_fromTwos 5 (Option.some (Jvm.ClassFile.FieldType.object "WideWholesModel$Whole")) 4 113 0 0 [.ref u0, .ref u1] h h' (some (.ref r)) := by
  refine hC_of (by decide) (Nat.le_of_ble_eq_true rfl) ?_
  intro p e s m below meth c hx hb hml hrt hlk hown hnm hts hk hr hz ls hl
  replace hown : s.vm.findClass RX11 = some m.cls := hown
  replace hl : lv_has ls 5 [(0, .ref u0), (1, .ref u1)] := hl
  have hS : va_S (hA z) s.heap s.heap [] := va_S.rf
  suffices hgo : ∀ (H : Heap) (locs : List Loc), hR D z h H → va_S (hA z) s.heap H locs → W p l e ({ frames := 4, cells := 0, slots := 0, locals := 113 } : Room) s m ([.ref u0, .ref u1] : List Value).toArray below meth c H locs 0 0 (MQ below (hQ D z h' (some (.ref r))) ([.ref u0, .ref u1] : List Value).toArray s 0 0 (hA z)) (F0 m 0 ls []) from hgo _ _ hr hS
  clear hr hS
  intro H locs hr hS
  have hJ14 : ∀ (g3 : AH) (y0_14 : Nat) (y1_14 : Nat) (t0_14 : Int32) (H : Heap) (locs : List Loc) (ls : Array Slot), zj_X11_fromTwos_14 g3 y0_14 y1_14 t0_14 = some (r, h') → hR D z g3 H → va_S (hA z) s.heap H locs → lv_has ls 5 [(0, .ref y0_14), (1, .ref y1_14)] → W p l e ({ frames := 4, cells := 0, slots := 0, locals := 113 } : Room) s m ([.ref u0, .ref u1] : List Value).toArray below meth c H locs 0 0 (MQ below (hQ D z h' (some (.ref r))) ([.ref u0, .ref u1] : List Value).toArray s 0 0 (hA z)) (F0 m 14 ls [.int t0_14]) := by
    intro g3 y0_14 y1_14 t0_14 H locs ls hs hr hS hl
    unfold zj_X11_fromTwos_14 at hs
    refine lv_istore_n (lv' := [(2, .int t0_14), (0, .ref y0_14), (1, .ref y1_14)]) hx hb dX11_fromTwos_14 rfl hl (by decide) rfl (fun ls hl => ?_)
    refine lv_aload_n hx hb dX11_fromTwos_15 rfl (lv_at hl 1 rfl) ?_
    obtain ⟨_, ex4, hs⟩ := bi_inv hs
    obtain ⟨x5, ex5, hs⟩ := bi_inv hs
    refine hv_V1 (n := 0) [] [] hx hb hml hown hts hk hr hz hS (zm_X11_take l D z ex5) ex4 rfl tw_964 tw_966 ts_23 tw_11 tw_967 (by decide +kernel) (by decide) ⟨(Nat.zero_le _), (Nat.zero_le _)⟩ rfl hl.1 (Nat.le_of_ble_eq_true rfl) dX11_fromTwos_16 rfl (fun H locs hr hS => ?_)
    refine lv_astore_n (lv' := [(3, .ref x5.1), (2, .int t0_14), (0, .ref y0_14), (1, .ref y1_14)]) hx hb dX11_fromTwos_19 rfl hl (by decide) rfl (fun ls hl => ?_)
    refine lv_iconst (v := 0) hx hb dX11_fromTwos_20 (by decide) ?_
    refine lv_istore (lv' := [(4, .int ((0 : Int32))), (3, .ref x5.1), (2, .int t0_14), (0, .ref y0_14), (1, .ref y1_14)]) hx hb dX11_fromTwos_21 hl (by decide) rfl (fun ls hl => ?_)
    obtain ⟨r14, er14, hs⟩ := bi_inv hs
    refine iter_W (fun (q : AH × Int32) => ∀ (H : Heap) (locs : List Loc) (ls : Array Slot), hR D z q.1 H → va_S (hA z) s.heap H locs → lv_has ls 5 [(0, .ref y0_14), (1, .ref y1_14), (2, .int t0_14), (3, .ref x5.1), (4, .int q.2)] → W p l e ({ frames := 4, cells := 0, slots := 0, locals := 113 } : Room) s m ([.ref u0, .ref u1] : List Value).toArray below meth c H locs 0 0 (MQ below (hQ D z h' (some (.ref r))) ([.ref u0, .ref u1] : List Value).toArray s 0 0 (hA z)) (F0 m 23 ls [])) (fun (x : AH) => ∀ (H : Heap) (locs : List Loc) (ls : Array Slot), hR D z x H → va_S (hA z) s.heap H locs → lv_has ls 5 [(0, .ref y0_14), (2, .int t0_14), (3, .ref x5.1)] → W p l e ({ frames := 4, cells := 0, slots := 0, locals := 113 } : Room) s m ([.ref u0, .ref u1] : List Value).toArray below meth c H locs 0 0 (MQ below (hQ D z h' (some (.ref r))) ([.ref u0, .ref u1] : List Value).toArray s 0 0 (hA z)) (F0 m 61 ls [])) ?_ FU _ r14 er14 ?_ H locs ls hr hS (lv_sub hl [3, 4, 2, 1, 0] rfl)
    · intro q o hs hcont hexit
      obtain ⟨g6, w4⟩ := q
      replace hs : zb_X11_fromTwos_23 y0_14 y1_14 t0_14 x5.1 g6 w4 = some o := hs
      intro H locs ls hr hS hl
      have hJ54 : ∀ (g11 : AH) (y4_54 : Int32) (t0_54 : Int32) (t1_54 : Int32) (t2_54 : Nat) (H : Heap) (locs : List Loc) (ls : Array Slot), zj_X11_fromTwos_54 y0_14 y1_14 t0_14 x5.1 g11 y4_54 t0_54 t1_54 t2_54 = some o → hR D z g11 H → va_S (hA z) s.heap H locs → lv_has ls 5 [(0, .ref y0_14), (1, .ref y1_14), (2, .int t0_14), (3, .ref x5.1), (4, .int y4_54)] → W p l e ({ frames := 4, cells := 0, slots := 0, locals := 113 } : Room) s m ([.ref u0, .ref u1] : List Value).toArray below meth c H locs 0 0 (MQ below (hQ D z h' (some (.ref r))) ([.ref u0, .ref u1] : List Value).toArray s 0 0 (hA z)) (F0 m 54 ls [.int t0_54, .int t1_54, .ref t2_54]) := by
        intro g11 y4_54 t0_54 t1_54 t2_54 H locs ls hs hr hS hl
        unfold zj_X11_fromTwos_54 at hs
        obtain ⟨g12, eg12, hs⟩ := bi_inv hs
        refine hv_sI hx hb hk hr hS eg12 dX11_fromTwos_54 (fun H locs hr hS => ?_)
        refine lv_iinc (v := y4_54 + (1 : Int32)) (lv' := [(4, .int (y4_54 + (1 : Int32))), (0, .ref y0_14), (1, .ref y1_14), (2, .int t0_14), (3, .ref x5.1)]) hx hb dX11_fromTwos_55 hl (k := 4) rfl (ii_v _ (by decide)) (by decide) rfl (fun ls hl => ?_)
        refine lv_goto (tgt := 23) hx hb dX11_fromTwos_58 (by decide) ?_
        obtain rfl := Option.some.inj hs
        exact hcont _ rfl H locs ls hr hS (lv_sub hl [1, 2, 3, 4, 0] rfl)
      unfold zb_X11_fromTwos_23 at hs
      refine lv_iload hx hb dX11_fromTwos_23 (lv_at hl 4 rfl) ?_
      refine lv_bipush (v := 64) hx hb dX11_fromTwos_25 (by decide) ?_
      refine lv_icmp_ge (tgt := 61) hx hb dX11_fromTwos_27 (by decide) (fun c7 => ?_) (fun c7 => ?_)
      · rw [if_pos c7] at hs
        obtain rfl := Option.some.inj hs
        exact hexit _ rfl H locs ls hr hS (lv_sub hl [0, 2, 3] rfl)
      · rw [if_neg c7] at hs
        refine lv_aload_n hx hb dX11_fromTwos_30 rfl (lv_at hl 3 rfl) ?_
        obtain ⟨x8, ex8, hs⟩ := bi_inv hs
        refine hv_gR (C := RX10) (T := TX10) (N := 3) (ci := 10) hx hb hts inX10 hown hk hr rfl 2 (by decide) (hts _ tw_867) ex8 dX11_fromTwos_31 ?_
        refine lv_iload hx hb dX11_fromTwos_34 (lv_at hl 4 rfl) ?_
        refine lv_iload_n hx hb dX11_fromTwos_36 rfl (lv_at hl 2 rfl) ?_
        refine lv_if_eq (tgt := 50) hx hb dX11_fromTwos_37 (by decide) (fun c9 => ?_) (fun c9 => ?_)
        · rw [if_pos c9] at hs
          refine lv_aload_n hx hb dX11_fromTwos_50 rfl (lv_at hl 1 rfl) ?_
          refine lv_iload hx hb dX11_fromTwos_51 (lv_at hl 4 rfl) ?_
          obtain ⟨x10, ex10, hs⟩ := bi_inv hs
          refine hv_aI hx hb hk hr ex10 dX11_fromTwos_53 ?_
          exact hJ54 g6 w4 x10 w4 x8 H locs ls hs hr hS (lv_sub hl [0, 1, 2, 3, 4] rfl)
        · rw [if_neg c9] at hs
          refine lv_ldc hx hb hown (hts _ tw_1026) dX11_fromTwos_40 ?_
          refine lv_aload_n hx hb dX11_fromTwos_42 rfl (lv_at hl 1 rfl) ?_
          refine lv_iload hx hb dX11_fromTwos_43 (lv_at hl 4 rfl) ?_
          obtain ⟨x13, ex13, hs⟩ := bi_inv hs
          refine hv_aI hx hb hk hr ex13 dX11_fromTwos_45 ?_
          refine lv_isub hx hb dX11_fromTwos_46 ?_
          refine lv_goto (tgt := 54) hx hb dX11_fromTwos_47 (by decide) ?_
          exact hJ54 g6 w4 (((65535 : Int32)) - x13) w4 x8 H locs ls hs hr hS (lv_sub hl [0, 1, 2, 3, 4] rfl)
    · intro H locs ls hr hS hl
      refine lv_aload_n hx hb dX11_fromTwos_61 rfl (lv_at hl 2 rfl) ?_
      refine lv_iconst (v := 0) hx hb dX11_fromTwos_62 (by decide) ?_
      refine lv_bipush (v := 64) hx hb dX11_fromTwos_63 (by decide) ?_
      obtain ⟨_, ex15, hs⟩ := bi_inv hs
      obtain ⟨x16, ex16, hs⟩ := bi_inv hs
      refine hv_V1 (n := 2) [.int ((0 : Int32)), .int ((64 : Int32))] [] hx hb hml hown hts hk hr hz hS (zm_X10_of l D z ex16) ex15 rfl tw_969 tw_970 tw_971 tw_12 tw_972 (by decide +kernel) (by decide) ⟨(Nat.zero_le _), (Nat.zero_le _)⟩ rfl hl.1 (Nat.le_of_ble_eq_true rfl) dX11_fromTwos_65 rfl (fun H locs hr hS => ?_)
      refine lv_astore (lv' := [(4, .ref x16.1), (0, .ref y0_14), (2, .int t0_14), (3, .ref x5.1)]) hx hb dX11_fromTwos_68 hl (by decide) rfl (fun ls hl => ?_)
      refine lv_iload_n hx hb dX11_fromTwos_70 rfl (lv_at hl 2 rfl) ?_
      refine lv_if_eq (tgt := 91) hx hb dX11_fromTwos_71 (by decide) (fun c17 => ?_) (fun c17 => ?_)
      · rw [if_pos c17] at hs
        refine lv_aload hx hb dX11_fromTwos_91 (lv_at hl 0 rfl) ?_
        obtain ⟨rfl, rfl⟩ := Prod.mk.inj (Option.some.inj hs)
        exact hv_aret hx hb hrt (by first | exact Or.inl ⟨_, rfl⟩ | exact Or.inr ⟨_, rfl⟩) hlk hr hS dX11_fromTwos_93
      · rw [if_neg c17] at hs
        refine lv_aload_n hx hb dX11_fromTwos_74 rfl (lv_at hl 1 rfl) ?_
        refine lv_aload_n hx hb dX11_fromTwos_75 rfl (lv_at hl 1 rfl) ?_
        refine lv_aload hx hb dX11_fromTwos_76 (lv_at hl 0 rfl) ?_
        refine lv_aload_n hx hb dX11_fromTwos_78 rfl (lv_at hl 1 rfl) ?_
        obtain ⟨x18, ex18, hs⟩ := bi_inv hs
        refine hv_gR (C := RX11) (T := TX11) (N := 23) (ci := 11) hx hb hts inX11 hown hk hr rfl 4 (by decide) (hts _ tw_886) ex18 dX11_fromTwos_79 ?_
        obtain ⟨_, ex19, hs⟩ := bi_inv hs
        obtain ⟨x20, ex20, hs⟩ := bi_inv hs
        refine hv_V1 (n := 2) [.ref x16.1, .ref x18] [.ref y0_14] hx hb hml hown hts hk hr hz hS (zm_X11_sum_ l D z ex20) ex19 rfl tw_1007 tw_1009 ts_27 tw_11 tw_1010 (by decide +kernel) (by decide) ⟨(Nat.zero_le _), (Nat.zero_le _)⟩ rfl hl.1 (Nat.le_of_ble_eq_true rfl) dX11_fromTwos_82 rfl (fun H locs hr hS => ?_)
        obtain ⟨_, ex21, hs⟩ := bi_inv hs
        obtain ⟨x22, ex22, hs⟩ := bi_inv hs
        refine hv_V1 (n := 1) [.ref x20.1] [] hx hb hml hown hts hk hr hz hS (zm_X11_negative l D z ex22) ex21 rfl tw_1028 tw_1030 ts_30 tw_11 tw_1031 (by decide +kernel) (by decide) ⟨(Nat.zero_le _), (Nat.zero_le _)⟩ rfl hl.1 (Nat.le_of_ble_eq_true rfl) dX11_fromTwos_85 rfl (fun H locs hr hS => ?_)
        refine lv_goto (tgt := 93) hx hb dX11_fromTwos_88 (by decide) ?_
        obtain ⟨rfl, rfl⟩ := Prod.mk.inj (Option.some.inj hs)
        exact hv_aret hx hb hrt (by first | exact Or.inl ⟨_, rfl⟩ | exact Or.inr ⟨_, rfl⟩) hlk hr hS dX11_fromTwos_93
  unfold zs_X11_fromTwos at hs
  refine lv_aload_n hx hb dX11_fromTwos_0 rfl (lv_at hl 1 rfl) ?_
  refine lv_bipush (v := 63) hx hb dX11_fromTwos_1 (by decide) ?_
  obtain ⟨x1, ex1, hs⟩ := bi_inv hs
  refine hv_aI hx hb hk hr ex1 dX11_fromTwos_3 ?_
  refine lv_ldc hx hb hown (hts _ tw_1156) dX11_fromTwos_4 ?_
  refine lv_icmp_lt (tgt := 13) hx hb dX11_fromTwos_6 (by decide) (fun c2 => ?_) (fun c2 => ?_)
  · rw [if_pos c2] at hs
    refine lv_iconst (v := 0) hx hb dX11_fromTwos_13 (by decide) ?_
    exact hJ14 h u0 u1 ((0 : Int32)) H locs ls hs hr hS (lv_sub hl [0, 1] rfl)
  · rw [if_neg c2] at hs
    refine lv_iconst (v := 1) hx hb dX11_fromTwos_9 (by decide) ?_
    refine lv_goto (tgt := 14) hx hb dX11_fromTwos_10 (by decide) ?_
    exact hJ14 h u0 u1 ((1 : Int32)) H locs ls hs hr hS (lv_sub hl [0, 1] rfl)
theorem dX11_bits_0 : decode cX11_bits 0 = .ok (.aload_n 0, 1) := by decide +kernel
theorem dX11_bits_1 : decode cX11_bits 1 = .ok (.iload_n 2, 1) := by decide +kernel
theorem dX11_bits_2 : decode cX11_bits 2 = .ok (.invokevirtual 177, 3) := by decide +kernel
theorem dX11_bits_5 : decode cX11_bits 5 = .ok (.ifCond .eq 29, 3) := by decide +kernel
theorem dX11_bits_8 : decode cX11_bits 8 = .ok (.aload_n 0, 1) := by decide +kernel
theorem dX11_bits_9 : decode cX11_bits 9 = .ok (.iload_n 3, 1) := by decide +kernel
theorem dX11_bits_10 : decode cX11_bits 10 = .ok (.invokevirtual 177, 3) := by decide +kernel
theorem dX11_bits_13 : decode cX11_bits 13 = .ok (.ifCond .eq 21, 3) := by decide +kernel
theorem dX11_bits_16 : decode cX11_bits 16 = .ok (.aload_n 0, 1) := by decide +kernel
theorem dX11_bits_17 : decode cX11_bits 17 = .ok (.iload 4, 2) := by decide +kernel
theorem dX11_bits_19 : decode cX11_bits 19 = .ok (.invokevirtual 177, 3) := by decide +kernel
theorem dX11_bits_22 : decode cX11_bits 22 = .ok (.ifCond .eq 12, 3) := by decide +kernel
theorem dX11_bits_25 : decode cX11_bits 25 = .ok (.iload_n 1, 1) := by decide +kernel
theorem dX11_bits_26 : decode cX11_bits 26 = .ok (.ifCond .lt 8, 3) := by decide +kernel
theorem dX11_bits_29 : decode cX11_bits 29 = .ok (.iload_n 1, 1) := by decide +kernel
theorem dX11_bits_30 : decode cX11_bits 30 = .ok (.iconst 3, 1) := by decide +kernel
theorem dX11_bits_31 : decode cX11_bits 31 = .ok (.if_icmp .le 5, 3) := by decide +kernel
theorem dX11_bits_34 : decode cX11_bits 34 = .ok (.iconst (-1), 1) := by decide +kernel
theorem dX11_bits_35 : decode cX11_bits 35 = .ok (.ireturn, 1) := by decide +kernel
theorem dX11_bits_36 : decode cX11_bits 36 = .ok (.aload_n 0, 1) := by decide +kernel
theorem dX11_bits_37 : decode cX11_bits 37 = .ok (.aload_n 0, 1) := by decide +kernel
theorem dX11_bits_38 : decode cX11_bits 38 = .ok (.getfield 142, 3) := by decide +kernel
theorem dX11_bits_41 : decode cX11_bits 41 = .ok (.iload_n 2, 1) := by decide +kernel
theorem dX11_bits_42 : decode cX11_bits 42 = .ok (.aaload, 1) := by decide +kernel
theorem dX11_bits_43 : decode cX11_bits 43 = .ok (.aload_n 0, 1) := by decide +kernel
theorem dX11_bits_44 : decode cX11_bits 44 = .ok (.getfield 158, 3) := by decide +kernel
theorem dX11_bits_47 : decode cX11_bits 47 = .ok (.invokevirtual 223, 3) := by decide +kernel
theorem dX11_bits_50 : decode cX11_bits 50 = .ok (.astore 5, 2) := by decide +kernel
theorem dX11_bits_52 : decode cX11_bits 52 = .ok (.aload_n 0, 1) := by decide +kernel
theorem dX11_bits_53 : decode cX11_bits 53 = .ok (.aload_n 0, 1) := by decide +kernel
theorem dX11_bits_54 : decode cX11_bits 54 = .ok (.getfield 142, 3) := by decide +kernel
theorem dX11_bits_57 : decode cX11_bits 57 = .ok (.iload_n 3, 1) := by decide +kernel
theorem dX11_bits_58 : decode cX11_bits 58 = .ok (.aaload, 1) := by decide +kernel
theorem dX11_bits_59 : decode cX11_bits 59 = .ok (.aload_n 0, 1) := by decide +kernel
theorem dX11_bits_60 : decode cX11_bits 60 = .ok (.getfield 161, 3) := by decide +kernel
theorem dX11_bits_63 : decode cX11_bits 63 = .ok (.invokevirtual 223, 3) := by decide +kernel
theorem dX11_bits_66 : decode cX11_bits 66 = .ok (.astore 6, 2) := by decide +kernel
theorem dX11_bits_68 : decode cX11_bits 68 = .ok (.iconst 0, 1) := by decide +kernel
theorem dX11_bits_69 : decode cX11_bits 69 = .ok (.istore 7, 2) := by decide +kernel
theorem dX11_bits_71 : decode cX11_bits 71 = .ok (.iload 7, 2) := by decide +kernel
theorem dX11_bits_73 : decode cX11_bits 73 = .ok (.bipush 64, 2) := by decide +kernel
theorem dX11_bits_75 : decode cX11_bits 75 = .ok (.if_icmp .ge 84, 3) := by decide +kernel
theorem dX11_bits_78 : decode cX11_bits 78 = .ok (.aload 5, 2) := by decide +kernel
theorem dX11_bits_80 : decode cX11_bits 80 = .ok (.iload 7, 2) := by decide +kernel
theorem dX11_bits_82 : decode cX11_bits 82 = .ok (.iload_n 1, 1) := by decide +kernel
theorem dX11_bits_83 : decode cX11_bits 83 = .ok (.ifCond .ne 17, 3) := by decide +kernel
theorem dX11_bits_86 : decode cX11_bits 86 = .ok (.aload 5, 2) := by decide +kernel
theorem dX11_bits_88 : decode cX11_bits 88 = .ok (.iload 7, 2) := by decide +kernel
theorem dX11_bits_90 : decode cX11_bits 90 = .ok (.iaload, 1) := by decide +kernel
theorem dX11_bits_91 : decode cX11_bits 91 = .ok (.aload 6, 2) := by decide +kernel
theorem dX11_bits_93 : decode cX11_bits 93 = .ok (.iload 7, 2) := by decide +kernel
theorem dX11_bits_95 : decode cX11_bits 95 = .ok (.iaload, 1) := by decide +kernel
theorem dX11_bits_96 : decode cX11_bits 96 = .ok (.iand, 1) := by decide +kernel
theorem dX11_bits_97 : decode cX11_bits 97 = .ok (.goto 55, 3) := by decide +kernel
theorem dX11_bits_100 : decode cX11_bits 100 = .ok (.iload_n 1, 1) := by decide +kernel
theorem dX11_bits_101 : decode cX11_bits 101 = .ok (.iconst 1, 1) := by decide +kernel
theorem dX11_bits_102 : decode cX11_bits 102 = .ok (.if_icmp .ne 17, 3) := by decide +kernel
theorem dX11_bits_105 : decode cX11_bits 105 = .ok (.aload 5, 2) := by decide +kernel
theorem dX11_bits_107 : decode cX11_bits 107 = .ok (.iload 7, 2) := by decide +kernel
theorem dX11_bits_109 : decode cX11_bits 109 = .ok (.iaload, 1) := by decide +kernel
theorem dX11_bits_110 : decode cX11_bits 110 = .ok (.aload 6, 2) := by decide +kernel
theorem dX11_bits_112 : decode cX11_bits 112 = .ok (.iload 7, 2) := by decide +kernel
theorem dX11_bits_114 : decode cX11_bits 114 = .ok (.iaload, 1) := by decide +kernel
theorem dX11_bits_115 : decode cX11_bits 115 = .ok (.ior, 1) := by decide +kernel
theorem dX11_bits_116 : decode cX11_bits 116 = .ok (.goto 36, 3) := by decide +kernel
theorem dX11_bits_119 : decode cX11_bits 119 = .ok (.iload_n 1, 1) := by decide +kernel
theorem dX11_bits_120 : decode cX11_bits 120 = .ok (.iconst 2, 1) := by decide +kernel
theorem dX11_bits_121 : decode cX11_bits 121 = .ok (.if_icmp .ne 17, 3) := by decide +kernel
theorem dX11_bits_124 : decode cX11_bits 124 = .ok (.aload 5, 2) := by decide +kernel
theorem dX11_bits_126 : decode cX11_bits 126 = .ok (.iload 7, 2) := by decide +kernel
theorem dX11_bits_128 : decode cX11_bits 128 = .ok (.iaload, 1) := by decide +kernel
theorem dX11_bits_129 : decode cX11_bits 129 = .ok (.aload 6, 2) := by decide +kernel
theorem dX11_bits_131 : decode cX11_bits 131 = .ok (.iload 7, 2) := by decide +kernel
theorem dX11_bits_133 : decode cX11_bits 133 = .ok (.iaload, 1) := by decide +kernel
theorem dX11_bits_134 : decode cX11_bits 134 = .ok (.ixor, 1) := by decide +kernel
theorem dX11_bits_135 : decode cX11_bits 135 = .ok (.goto 17, 3) := by decide +kernel
theorem dX11_bits_138 : decode cX11_bits 138 = .ok (.aload 5, 2) := by decide +kernel
theorem dX11_bits_140 : decode cX11_bits 140 = .ok (.iload 7, 2) := by decide +kernel
theorem dX11_bits_142 : decode cX11_bits 142 = .ok (.iaload, 1) := by decide +kernel
theorem dX11_bits_143 : decode cX11_bits 143 = .ok (.ldc 59, 2) := by decide +kernel
theorem dX11_bits_145 : decode cX11_bits 145 = .ok (.aload 6, 2) := by decide +kernel
theorem dX11_bits_147 : decode cX11_bits 147 = .ok (.iload 7, 2) := by decide +kernel
theorem dX11_bits_149 : decode cX11_bits 149 = .ok (.iaload, 1) := by decide +kernel
theorem dX11_bits_150 : decode cX11_bits 150 = .ok (.isub, 1) := by decide +kernel
theorem dX11_bits_151 : decode cX11_bits 151 = .ok (.iand, 1) := by decide +kernel
theorem dX11_bits_152 : decode cX11_bits 152 = .ok (.iastore, 1) := by decide +kernel
theorem dX11_bits_153 : decode cX11_bits 153 = .ok (.iinc 7 1, 3) := by decide +kernel
theorem dX11_bits_156 : decode cX11_bits 156 = .ok (.goto (-85), 3) := by decide +kernel
theorem dX11_bits_159 : decode cX11_bits 159 = .ok (.aload_n 0, 1) := by decide +kernel
theorem dX11_bits_160 : decode cX11_bits 160 = .ok (.iload 4, 2) := by decide +kernel
theorem dX11_bits_162 : decode cX11_bits 162 = .ok (.aload_n 0, 1) := by decide +kernel
theorem dX11_bits_163 : decode cX11_bits 163 = .ok (.aload 5, 2) := by decide +kernel
theorem dX11_bits_165 : decode cX11_bits 165 = .ok (.invokevirtual 227, 3) := by decide +kernel
theorem dX11_bits_168 : decode cX11_bits 168 = .ok (.invokevirtual 180, 3) := by decide +kernel
theorem dX11_bits_171 : decode cX11_bits 171 = .ok (.ireturn, 1) := by decide +kernel
def zj_X11_bits_152 (w0 : Nat) (w1 : Int32) (w4 : Int32) (w5 : Nat) (w6 : Nat) (g29 : AH) (y7_152 : Int32) (t0_152 : Int32) (t1_152 : Int32) (t2_152 : Nat) : Option ((AH × Int32) ⊕ (AH)) :=
  (sI g29 t2_152 0 t1_152 t0_152).bind fun g30 => some (Sum.inl ((g30, y7_152 + (1 : Int32))))
def zb_X11_bits_71 (w0 : Nat) (w1 : Int32) (w4 : Int32) (w5 : Nat) (w6 : Nat) (g22 : AH) (w7 : Int32) : Option ((AH × Int32) ⊕ (AH)) :=
  (if (64 : Int32) ≤ w7 then some (Sum.inr g22) else (if w1 = 0 then (aI g22 w5 0 w7).bind fun x35 => (aI g22 w6 0 w7).bind fun x36 => zj_X11_bits_152 w0 w1 w4 w5 w6 g22 w7 (x35 &&& x36) w7 w5 else (if w1 = (1 : Int32) then (aI g22 w5 0 w7).bind fun x33 => (aI g22 w6 0 w7).bind fun x34 => zj_X11_bits_152 w0 w1 w4 w5 w6 g22 w7 (x33 ||| x34) w7 w5 else (if w1 = (2 : Int32) then (aI g22 w5 0 w7).bind fun x31 => (aI g22 w6 0 w7).bind fun x32 => zj_X11_bits_152 w0 w1 w4 w5 w6 g22 w7 (x31 ^^^ x32) w7 w5 else (aI g22 w5 0 w7).bind fun x27 => (aI g22 w6 0 w7).bind fun x28 => zj_X11_bits_152 w0 w1 w4 w5 w6 g22 w7 (x27 &&& (((65535 : Int32)) - x28)) w7 w5))))
def zs_X11_bits (h : AH) (u0 : Nat) (u1 : Int32) (u2 : Int32) (u3 : Int32) (u4 : Int32) : Option (Int32 × AH) :=
  (chk h u0 11).bind fun _ => (zs_X11_isSlot h u0 u2).bind fun x2 => (if x2.1 = 0 then some ((-1 : Int32), x2.2) else (chk x2.2 u0 11).bind fun _ => (zs_X11_isSlot x2.2 u0 u3).bind fun x5 => (if x5.1 = 0 then some ((-1 : Int32), x5.2) else (chk x5.2 u0 11).bind fun _ => (zs_X11_isSlot x5.2 u0 u4).bind fun x8 => (if x8.1 = 0 then some ((-1 : Int32), x8.2) else (if u1 < 0 then some ((-1 : Int32), x8.2) else (if u1 ≤ (3 : Int32) then (gR x8.2 u0 11 9).bind fun x12 => (aR x8.2 x12 5 u2).bind fun x13 => (gR x8.2 u0 11 16).bind fun x14 => (chk x8.2 u0 11).bind fun _ => (zs_X11_twos x8.2 u0 x13 x14).bind fun x16 => (gR x16.2 u0 11 9).bind fun x17 => (aR x16.2 x17 5 u3).bind fun x18 => (gR x16.2 u0 11 17).bind fun x19 => (chk x16.2 u0 11).bind fun _ => (zs_X11_twos x16.2 u0 x18 x19).bind fun x21 => (iter (fun q : AH × Int32 => zb_X11_bits_71 u0 u1 u4 x16.1 x21.1 q.1 q.2) FU ((x21.2, (0 : Int32)))).bind fun r37 => (chk r37 u0 11).bind fun _ => (zs_X11_fromTwos r37 u0 x16.1).bind fun x39 => (chk x39.2 u0 11).bind fun _ => (zs_X11_keep x39.2 u0 u4 x39.1).bind fun x41 => some (x41.1, x41.2) else some ((-1 : Int32), x8.2))))))
set_option maxRecDepth 100000 in
set_option maxHeartbeats 4000000 in
theorem zm_X11_bits (l : Launch) (D : hG) (z : Nat) {h : AH} {u0 : Nat} {u1 : Int32} {u2 : Int32} {u3 : Int32} {u4 : Int32} {r : Int32} {h' : AH} (hs : zs_X11_bits h u0 u1 u2 u3 u4 = some (r, h')) : hC l D z yX11_bits cX11_bits 8 (Option.some Jvm.ClassFile.FieldType.int) 6 160 0 0 [.ref u0, .int u1, .int u2, .int u3, .int u4] h h' (some (.int r)) := by
  refine hC_of (by decide) (Nat.le_of_ble_eq_true rfl) ?_
  intro p e s m below meth c hx hb hml hrt hlk hown hnm hts hk hr hz ls hl
  replace hown : s.vm.findClass RX11 = some m.cls := hown
  replace hl : lv_has ls 8 [(0, .ref u0), (1, .int u1), (2, .int u2), (3, .int u3), (4, .int u4)] := hl
  have hS : va_S (hA z) s.heap s.heap [] := va_S.rf
  suffices hgo : ∀ (H : Heap) (locs : List Loc), hR D z h H → va_S (hA z) s.heap H locs → W p l e ({ frames := 6, cells := 0, slots := 0, locals := 160 } : Room) s m ([.ref u0, .int u1, .int u2, .int u3, .int u4] : List Value).toArray below meth c H locs 0 0 (MQ below (hQ D z h' (some (.int r))) ([.ref u0, .int u1, .int u2, .int u3, .int u4] : List Value).toArray s 0 0 (hA z)) (F0 m 0 ls []) from hgo _ _ hr hS
  clear hr hS
  intro H locs hr hS
  unfold zs_X11_bits at hs
  refine lv_aload_n hx hb dX11_bits_0 rfl (lv_at hl 0 rfl) ?_
  refine lv_iload_n hx hb dX11_bits_1 rfl (lv_at hl 2 rfl) ?_
  obtain ⟨_, ex1, hs⟩ := bi_inv hs
  obtain ⟨x2, ex2, hs⟩ := bi_inv hs
  refine hv_V1 (n := 1) [.int u2] [] hx hb hml hown hts hk hr hz hS (zm_X11_isSlot l D z ex2) ex1 rfl tw_956 tw_958 ts_21 tw_11 tw_959 (by decide +kernel) (by decide) ⟨(Nat.zero_le _), (Nat.zero_le _)⟩ rfl hl.1 (Nat.le_of_ble_eq_true rfl) dX11_bits_2 rfl (fun H locs hr hS => ?_)
  refine lv_if_eq (tgt := 34) hx hb dX11_bits_5 (by decide) (fun c3 => ?_) (fun c3 => ?_)
  · rw [if_pos c3] at hs
    refine lv_iconst (v := (-1)) hx hb dX11_bits_34 (by decide) ?_
    obtain ⟨rfl, rfl⟩ := Prod.mk.inj (Option.some.inj hs)
    exact hv_iret hx hb hrt hlk hr hS dX11_bits_35
  · rw [if_neg c3] at hs
    refine lv_aload_n hx hb dX11_bits_8 rfl (lv_at hl 0 rfl) ?_
    refine lv_iload_n hx hb dX11_bits_9 rfl (lv_at hl 3 rfl) ?_
    obtain ⟨_, ex4, hs⟩ := bi_inv hs
    obtain ⟨x5, ex5, hs⟩ := bi_inv hs
    refine hv_V1 (n := 1) [.int u3] [] hx hb hml hown hts hk hr hz hS (zm_X11_isSlot l D z ex5) ex4 rfl tw_956 tw_958 ts_21 tw_11 tw_959 (by decide +kernel) (by decide) ⟨(Nat.zero_le _), (Nat.zero_le _)⟩ rfl hl.1 (Nat.le_of_ble_eq_true rfl) dX11_bits_10 rfl (fun H locs hr hS => ?_)
    refine lv_if_eq (tgt := 34) hx hb dX11_bits_13 (by decide) (fun c6 => ?_) (fun c6 => ?_)
    · rw [if_pos c6] at hs
      refine lv_iconst (v := (-1)) hx hb dX11_bits_34 (by decide) ?_
      obtain ⟨rfl, rfl⟩ := Prod.mk.inj (Option.some.inj hs)
      exact hv_iret hx hb hrt hlk hr hS dX11_bits_35
    · rw [if_neg c6] at hs
      refine lv_aload_n hx hb dX11_bits_16 rfl (lv_at hl 0 rfl) ?_
      refine lv_iload hx hb dX11_bits_17 (lv_at hl 4 rfl) ?_
      obtain ⟨_, ex7, hs⟩ := bi_inv hs
      obtain ⟨x8, ex8, hs⟩ := bi_inv hs
      refine hv_V1 (n := 1) [.int u4] [] hx hb hml hown hts hk hr hz hS (zm_X11_isSlot l D z ex8) ex7 rfl tw_956 tw_958 ts_21 tw_11 tw_959 (by decide +kernel) (by decide) ⟨(Nat.zero_le _), (Nat.zero_le _)⟩ rfl hl.1 (Nat.le_of_ble_eq_true rfl) dX11_bits_19 rfl (fun H locs hr hS => ?_)
      refine lv_if_eq (tgt := 34) hx hb dX11_bits_22 (by decide) (fun c9 => ?_) (fun c9 => ?_)
      · rw [if_pos c9] at hs
        refine lv_iconst (v := (-1)) hx hb dX11_bits_34 (by decide) ?_
        obtain ⟨rfl, rfl⟩ := Prod.mk.inj (Option.some.inj hs)
        exact hv_iret hx hb hrt hlk hr hS dX11_bits_35
      · rw [if_neg c9] at hs
        refine lv_iload_n hx hb dX11_bits_25 rfl (lv_at hl 1 rfl) ?_
        refine lv_if_lt (tgt := 34) hx hb dX11_bits_26 (by decide) (fun c10 => ?_) (fun c10 => ?_)
        · rw [if_pos c10] at hs
          refine lv_iconst (v := (-1)) hx hb dX11_bits_34 (by decide) ?_
          obtain ⟨rfl, rfl⟩ := Prod.mk.inj (Option.some.inj hs)
          exact hv_iret hx hb hrt hlk hr hS dX11_bits_35
        · rw [if_neg c10] at hs
          refine lv_iload_n hx hb dX11_bits_29 rfl (lv_at hl 1 rfl) ?_
          refine lv_iconst (v := 3) hx hb dX11_bits_30 (by decide) ?_
          refine lv_icmp_le (tgt := 36) hx hb dX11_bits_31 (by decide) (fun c11 => ?_) (fun c11 => ?_)
          · rw [if_pos c11] at hs
            refine lv_aload_n hx hb dX11_bits_36 rfl (lv_at hl 0 rfl) ?_
            refine lv_aload_n hx hb dX11_bits_37 rfl (lv_at hl 0 rfl) ?_
            obtain ⟨x12, ex12, hs⟩ := bi_inv hs
            refine hv_gR (C := RX11) (T := TX11) (N := 23) (ci := 11) hx hb hts inX11 hown hk hr rfl 9 (by decide) (hts _ tw_891) ex12 dX11_bits_38 ?_
            refine lv_iload_n hx hb dX11_bits_41 rfl (lv_at hl 2 rfl) ?_
            obtain ⟨x13, ex13, hs⟩ := bi_inv hs
            refine hv_aR (kd := 5) hx hb hk hr rfl ex13 dX11_bits_42 ?_
            refine lv_aload_n hx hb dX11_bits_43 rfl (lv_at hl 0 rfl) ?_
            obtain ⟨x14, ex14, hs⟩ := bi_inv hs
            refine hv_gR (C := RX11) (T := TX11) (N := 23) (ci := 11) hx hb hts inX11 hown hk hr rfl 16 (by decide) (hts _ tw_898) ex14 dX11_bits_44 ?_
            obtain ⟨_, ex15, hs⟩ := bi_inv hs
            obtain ⟨x16, ex16, hs⟩ := bi_inv hs
            refine hv_V1 (n := 2) [.ref x13, .ref x14] [] hx hb hml hown hts hk hr hz hS (zm_X11_twos l D z ex16) ex15 rfl tw_1148 tw_1150 ts_42 tw_11 tw_1151 (by decide +kernel) (by decide) ⟨(Nat.zero_le _), (Nat.zero_le _)⟩ rfl hl.1 (Nat.le_of_ble_eq_true rfl) dX11_bits_47 rfl (fun H locs hr hS => ?_)
            refine lv_astore (lv' := [(5, .ref x16.1), (0, .ref u0), (1, .int u1), (2, .int u2), (3, .int u3), (4, .int u4)]) hx hb dX11_bits_50 hl (by decide) rfl (fun ls hl => ?_)
            refine lv_aload_n hx hb dX11_bits_52 rfl (lv_at hl 1 rfl) ?_
            refine lv_aload_n hx hb dX11_bits_53 rfl (lv_at hl 1 rfl) ?_
            obtain ⟨x17, ex17, hs⟩ := bi_inv hs
            refine hv_gR (C := RX11) (T := TX11) (N := 23) (ci := 11) hx hb hts inX11 hown hk hr rfl 9 (by decide) (hts _ tw_891) ex17 dX11_bits_54 ?_
            refine lv_iload_n hx hb dX11_bits_57 rfl (lv_at hl 4 rfl) ?_
            obtain ⟨x18, ex18, hs⟩ := bi_inv hs
            refine hv_aR (kd := 5) hx hb hk hr rfl ex18 dX11_bits_58 ?_
            refine lv_aload_n hx hb dX11_bits_59 rfl (lv_at hl 1 rfl) ?_
            obtain ⟨x19, ex19, hs⟩ := bi_inv hs
            refine hv_gR (C := RX11) (T := TX11) (N := 23) (ci := 11) hx hb hts inX11 hown hk hr rfl 17 (by decide) (hts _ tw_899) ex19 dX11_bits_60 ?_
            obtain ⟨_, ex20, hs⟩ := bi_inv hs
            obtain ⟨x21, ex21, hs⟩ := bi_inv hs
            refine hv_V1 (n := 2) [.ref x18, .ref x19] [] hx hb hml hown hts hk hr hz hS (zm_X11_twos l D z ex21) ex20 rfl tw_1148 tw_1150 ts_42 tw_11 tw_1151 (by decide +kernel) (by decide) ⟨(Nat.zero_le _), (Nat.zero_le _)⟩ rfl hl.1 (Nat.le_of_ble_eq_true rfl) dX11_bits_63 rfl (fun H locs hr hS => ?_)
            refine lv_astore (lv' := [(6, .ref x21.1), (5, .ref x16.1), (0, .ref u0), (1, .int u1), (2, .int u2), (3, .int u3), (4, .int u4)]) hx hb dX11_bits_66 hl (by decide) rfl (fun ls hl => ?_)
            refine lv_iconst (v := 0) hx hb dX11_bits_68 (by decide) ?_
            refine lv_istore (lv' := [(7, .int ((0 : Int32))), (6, .ref x21.1), (5, .ref x16.1), (0, .ref u0), (1, .int u1), (2, .int u2), (3, .int u3), (4, .int u4)]) hx hb dX11_bits_69 hl (by decide) rfl (fun ls hl => ?_)
            obtain ⟨r37, er37, hs⟩ := bi_inv hs
            refine iter_W (fun (q : AH × Int32) => ∀ (H : Heap) (locs : List Loc) (ls : Array Slot), hR D z q.1 H → va_S (hA z) s.heap H locs → lv_has ls 8 [(0, .ref u0), (1, .int u1), (4, .int u4), (5, .ref x16.1), (6, .ref x21.1), (7, .int q.2)] → W p l e ({ frames := 6, cells := 0, slots := 0, locals := 160 } : Room) s m ([.ref u0, .int u1, .int u2, .int u3, .int u4] : List Value).toArray below meth c H locs 0 0 (MQ below (hQ D z h' (some (.int r))) ([.ref u0, .int u1, .int u2, .int u3, .int u4] : List Value).toArray s 0 0 (hA z)) (F0 m 71 ls [])) (fun (x : AH) => ∀ (H : Heap) (locs : List Loc) (ls : Array Slot), hR D z x H → va_S (hA z) s.heap H locs → lv_has ls 8 [(0, .ref u0), (4, .int u4), (5, .ref x16.1)] → W p l e ({ frames := 6, cells := 0, slots := 0, locals := 160 } : Room) s m ([.ref u0, .int u1, .int u2, .int u3, .int u4] : List Value).toArray below meth c H locs 0 0 (MQ below (hQ D z h' (some (.int r))) ([.ref u0, .int u1, .int u2, .int u3, .int u4] : List Value).toArray s 0 0 (hA z)) (F0 m 159 ls [])) ?_ FU _ r37 er37 ?_ H locs ls hr hS (lv_sub hl [3, 4, 7, 2, 1, 0] rfl)
            · intro q o hs hcont hexit
              obtain ⟨g22, w7⟩ := q
              replace hs : zb_X11_bits_71 u0 u1 u4 x16.1 x21.1 g22 w7 = some o := hs
              intro H locs ls hr hS hl
              have hJ152 : ∀ (g29 : AH) (y7_152 : Int32) (t0_152 : Int32) (t1_152 : Int32) (t2_152 : Nat) (H : Heap) (locs : List Loc) (ls : Array Slot), zj_X11_bits_152 u0 u1 u4 x16.1 x21.1 g29 y7_152 t0_152 t1_152 t2_152 = some o → hR D z g29 H → va_S (hA z) s.heap H locs → lv_has ls 8 [(0, .ref u0), (1, .int u1), (4, .int u4), (5, .ref x16.1), (6, .ref x21.1), (7, .int y7_152)] → W p l e ({ frames := 6, cells := 0, slots := 0, locals := 160 } : Room) s m ([.ref u0, .int u1, .int u2, .int u3, .int u4] : List Value).toArray below meth c H locs 0 0 (MQ below (hQ D z h' (some (.int r))) ([.ref u0, .int u1, .int u2, .int u3, .int u4] : List Value).toArray s 0 0 (hA z)) (F0 m 152 ls [.int t0_152, .int t1_152, .ref t2_152]) := by
                intro g29 y7_152 t0_152 t1_152 t2_152 H locs ls hs hr hS hl
                unfold zj_X11_bits_152 at hs
                obtain ⟨g30, eg30, hs⟩ := bi_inv hs
                refine hv_sI hx hb hk hr hS eg30 dX11_bits_152 (fun H locs hr hS => ?_)
                refine lv_iinc (v := y7_152 + (1 : Int32)) (lv' := [(7, .int (y7_152 + (1 : Int32))), (0, .ref u0), (1, .int u1), (4, .int u4), (5, .ref x16.1), (6, .ref x21.1)]) hx hb dX11_bits_153 hl (k := 5) rfl (ii_v _ (by decide)) (by decide) rfl (fun ls hl => ?_)
                refine lv_goto (tgt := 71) hx hb dX11_bits_156 (by decide) ?_
                obtain rfl := Option.some.inj hs
                exact hcont _ rfl H locs ls hr hS (lv_sub hl [1, 2, 3, 4, 5, 0] rfl)
              unfold zb_X11_bits_71 at hs
              refine lv_iload hx hb dX11_bits_71 (lv_at hl 5 rfl) ?_
              refine lv_bipush (v := 64) hx hb dX11_bits_73 (by decide) ?_
              refine lv_icmp_ge (tgt := 159) hx hb dX11_bits_75 (by decide) (fun c23 => ?_) (fun c23 => ?_)
              · rw [if_pos c23] at hs
                obtain rfl := Option.some.inj hs
                exact hexit _ rfl H locs ls hr hS (lv_sub hl [0, 2, 3] rfl)
              · rw [if_neg c23] at hs
                refine lv_aload hx hb dX11_bits_78 (lv_at hl 3 rfl) ?_
                refine lv_iload hx hb dX11_bits_80 (lv_at hl 5 rfl) ?_
                refine lv_iload_n hx hb dX11_bits_82 rfl (lv_at hl 1 rfl) ?_
                refine lv_if_ne (tgt := 100) hx hb dX11_bits_83 (by decide) (fun c24 => ?_) (fun c24 => ?_)
                · rw [if_neg c24] at hs
                  refine lv_iload_n hx hb dX11_bits_100 rfl (lv_at hl 1 rfl) ?_
                  refine lv_iconst (v := 1) hx hb dX11_bits_101 (by decide) ?_
                  refine lv_icmp_ne (tgt := 119) hx hb dX11_bits_102 (by decide) (fun c25 => ?_) (fun c25 => ?_)
                  · rw [if_neg c25] at hs
                    refine lv_iload_n hx hb dX11_bits_119 rfl (lv_at hl 1 rfl) ?_
                    refine lv_iconst (v := 2) hx hb dX11_bits_120 (by decide) ?_
                    refine lv_icmp_ne (tgt := 138) hx hb dX11_bits_121 (by decide) (fun c26 => ?_) (fun c26 => ?_)
                    · rw [if_neg c26] at hs
                      refine lv_aload hx hb dX11_bits_138 (lv_at hl 3 rfl) ?_
                      refine lv_iload hx hb dX11_bits_140 (lv_at hl 5 rfl) ?_
                      obtain ⟨x27, ex27, hs⟩ := bi_inv hs
                      refine hv_aI hx hb hk hr ex27 dX11_bits_142 ?_
                      refine lv_ldc hx hb hown (hts _ tw_1026) dX11_bits_143 ?_
                      refine lv_aload hx hb dX11_bits_145 (lv_at hl 4 rfl) ?_
                      refine lv_iload hx hb dX11_bits_147 (lv_at hl 5 rfl) ?_
                      obtain ⟨x28, ex28, hs⟩ := bi_inv hs
                      refine hv_aI hx hb hk hr ex28 dX11_bits_149 ?_
                      refine lv_isub hx hb dX11_bits_150 ?_
                      refine lv_iand hx hb dX11_bits_151 ?_
                      exact hJ152 g22 w7 (x27 &&& (((65535 : Int32)) - x28)) w7 x16.1 H locs ls hs hr hS (lv_sub hl [0, 1, 2, 3, 4, 5] rfl)
                    · rw [if_pos c26] at hs
                      refine lv_aload hx hb dX11_bits_124 (lv_at hl 3 rfl) ?_
                      refine lv_iload hx hb dX11_bits_126 (lv_at hl 5 rfl) ?_
                      obtain ⟨x31, ex31, hs⟩ := bi_inv hs
                      refine hv_aI hx hb hk hr ex31 dX11_bits_128 ?_
                      refine lv_aload hx hb dX11_bits_129 (lv_at hl 4 rfl) ?_
                      refine lv_iload hx hb dX11_bits_131 (lv_at hl 5 rfl) ?_
                      obtain ⟨x32, ex32, hs⟩ := bi_inv hs
                      refine hv_aI hx hb hk hr ex32 dX11_bits_133 ?_
                      refine lv_ixor hx hb dX11_bits_134 ?_
                      refine lv_goto (tgt := 152) hx hb dX11_bits_135 (by decide) ?_
                      exact hJ152 g22 w7 (x31 ^^^ x32) w7 x16.1 H locs ls hs hr hS (lv_sub hl [0, 1, 2, 3, 4, 5] rfl)
                  · rw [if_pos c25] at hs
                    refine lv_aload hx hb dX11_bits_105 (lv_at hl 3 rfl) ?_
                    refine lv_iload hx hb dX11_bits_107 (lv_at hl 5 rfl) ?_
                    obtain ⟨x33, ex33, hs⟩ := bi_inv hs
                    refine hv_aI hx hb hk hr ex33 dX11_bits_109 ?_
                    refine lv_aload hx hb dX11_bits_110 (lv_at hl 4 rfl) ?_
                    refine lv_iload hx hb dX11_bits_112 (lv_at hl 5 rfl) ?_
                    obtain ⟨x34, ex34, hs⟩ := bi_inv hs
                    refine hv_aI hx hb hk hr ex34 dX11_bits_114 ?_
                    refine lv_ior hx hb dX11_bits_115 ?_
                    refine lv_goto (tgt := 152) hx hb dX11_bits_116 (by decide) ?_
                    exact hJ152 g22 w7 (x33 ||| x34) w7 x16.1 H locs ls hs hr hS (lv_sub hl [0, 1, 2, 3, 4, 5] rfl)
                · rw [if_pos c24] at hs
                  refine lv_aload hx hb dX11_bits_86 (lv_at hl 3 rfl) ?_
                  refine lv_iload hx hb dX11_bits_88 (lv_at hl 5 rfl) ?_
                  obtain ⟨x35, ex35, hs⟩ := bi_inv hs
                  refine hv_aI hx hb hk hr ex35 dX11_bits_90 ?_
                  refine lv_aload hx hb dX11_bits_91 (lv_at hl 4 rfl) ?_
                  refine lv_iload hx hb dX11_bits_93 (lv_at hl 5 rfl) ?_
                  obtain ⟨x36, ex36, hs⟩ := bi_inv hs
                  refine hv_aI hx hb hk hr ex36 dX11_bits_95 ?_
                  refine lv_iand hx hb dX11_bits_96 ?_
                  refine lv_goto (tgt := 152) hx hb dX11_bits_97 (by decide) ?_
                  exact hJ152 g22 w7 (x35 &&& x36) w7 x16.1 H locs ls hs hr hS (lv_sub hl [0, 1, 2, 3, 4, 5] rfl)
            · intro H locs ls hr hS hl
              refine lv_aload_n hx hb dX11_bits_159 rfl (lv_at hl 0 rfl) ?_
              refine lv_iload hx hb dX11_bits_160 (lv_at hl 1 rfl) ?_
              refine lv_aload_n hx hb dX11_bits_162 rfl (lv_at hl 0 rfl) ?_
              refine lv_aload hx hb dX11_bits_163 (lv_at hl 2 rfl) ?_
              obtain ⟨_, ex38, hs⟩ := bi_inv hs
              obtain ⟨x39, ex39, hs⟩ := bi_inv hs
              refine hv_V1 (n := 1) [.ref x16.1] [.int u4, .ref u0] hx hb hml hown hts hk hr hz hS (zm_X11_fromTwos l D z ex39) ex38 rfl tw_1152 tw_1154 ts_43 tw_11 tw_1155 (by decide +kernel) (by decide) ⟨(Nat.zero_le _), (Nat.zero_le _)⟩ rfl hl.1 (Nat.le_of_ble_eq_true rfl) dX11_bits_165 rfl (fun H locs hr hS => ?_)
              obtain ⟨_, ex40, hs⟩ := bi_inv hs
              obtain ⟨x41, ex41, hs⟩ := bi_inv hs
              refine hv_V1 (n := 2) [.int u4, .ref x39.1] [] hx hb hml hown hts hk hr hz hS (zm_X11_keep l D z ex41) ex40 rfl tw_973 tw_975 ts_24 tw_11 tw_976 (by decide +kernel) (by decide) ⟨(Nat.zero_le _), (Nat.zero_le _)⟩ rfl hl.1 (Nat.le_of_ble_eq_true rfl) dX11_bits_168 rfl (fun H locs hr hS => ?_)
              obtain ⟨rfl, rfl⟩ := Prod.mk.inj (Option.some.inj hs)
              exact hv_iret hx hb hrt hlk hr hS dX11_bits_171
          · rw [if_neg c11] at hs
            refine lv_iconst (v := (-1)) hx hb dX11_bits_34 (by decide) ?_
            obtain ⟨rfl, rfl⟩ := Prod.mk.inj (Option.some.inj hs)
            exact hv_iret hx hb hrt hlk hr hS dX11_bits_35
theorem dX11_compare_0 : decode cX11_compare 0 = .ok (.aload_n 0, 1) := by decide +kernel
theorem dX11_compare_1 : decode cX11_compare 1 = .ok (.getfield 38, 3) := by decide +kernel
theorem dX11_compare_4 : decode cX11_compare 4 = .ok (.aload_n 1, 1) := by decide +kernel
theorem dX11_compare_5 : decode cX11_compare 5 = .ok (.getfield 38, 3) := by decide +kernel
theorem dX11_compare_8 : decode cX11_compare 8 = .ok (.if_icmp .eq 16, 3) := by decide +kernel
theorem dX11_compare_11 : decode cX11_compare 11 = .ok (.aload_n 0, 1) := by decide +kernel
theorem dX11_compare_12 : decode cX11_compare 12 = .ok (.getfield 38, 3) := by decide +kernel
theorem dX11_compare_15 : decode cX11_compare 15 = .ok (.ifCond .eq 7, 3) := by decide +kernel
theorem dX11_compare_18 : decode cX11_compare 18 = .ok (.iconst (-1), 1) := by decide +kernel
theorem dX11_compare_19 : decode cX11_compare 19 = .ok (.goto 4, 3) := by decide +kernel
theorem dX11_compare_22 : decode cX11_compare 22 = .ok (.iconst 1, 1) := by decide +kernel
theorem dX11_compare_23 : decode cX11_compare 23 = .ok (.ireturn, 1) := by decide +kernel
theorem dX11_compare_24 : decode cX11_compare 24 = .ok (.aload_n 0, 1) := by decide +kernel
theorem dX11_compare_25 : decode cX11_compare 25 = .ok (.aload_n 1, 1) := by decide +kernel
theorem dX11_compare_26 : decode cX11_compare 26 = .ok (.invokestatic 45, 3) := by decide +kernel
theorem dX11_compare_29 : decode cX11_compare 29 = .ok (.istore_n 2, 1) := by decide +kernel
theorem dX11_compare_30 : decode cX11_compare 30 = .ok (.aload_n 0, 1) := by decide +kernel
theorem dX11_compare_31 : decode cX11_compare 31 = .ok (.getfield 38, 3) := by decide +kernel
theorem dX11_compare_34 : decode cX11_compare 34 = .ok (.ifCond .eq 8, 3) := by decide +kernel
theorem dX11_compare_37 : decode cX11_compare 37 = .ok (.iload_n 2, 1) := by decide +kernel
theorem dX11_compare_38 : decode cX11_compare 38 = .ok (.ineg, 1) := by decide +kernel
theorem dX11_compare_39 : decode cX11_compare 39 = .ok (.goto 4, 3) := by decide +kernel
theorem dX11_compare_42 : decode cX11_compare 42 = .ok (.iload_n 2, 1) := by decide +kernel
theorem dX11_compare_43 : decode cX11_compare 43 = .ok (.ireturn, 1) := by decide +kernel
def zs_X11_compare (h : AH) (u0 : Nat) (u1 : Nat) : Option Int32 :=
  (gI h u0 10 0).bind fun x1 => (gI h u1 10 0).bind fun x2 => (if x1 = x2 then (zs_X11_compareSizes h u0 u1).bind fun x4 => (gI h u0 10 0).bind fun x5 => (if x5 = 0 then some x4 else some (-x4)) else (gI h u0 10 0).bind fun x7 => (if x7 = 0 then some ((1 : Int32)) else some ((-1 : Int32))))
set_option maxRecDepth 100000 in
set_option maxHeartbeats 4000000 in
theorem zm_X11_compare (l : Launch) (D : hG) (z : Nat) {h : AH} {u0 : Nat} {u1 : Nat} {r : Int32} (hs : zs_X11_compare h u0 u1 = some r) : hC l D z yX11_compare cX11_compare 3 (Option.some Jvm.ClassFile.FieldType.int) 1 22 0 0 [.ref u0, .ref u1] h h (some (.int r)) := by
  refine hC_of (by decide) (Nat.le_of_ble_eq_true rfl) ?_
  intro p e s m below meth c hx hb hml hrt hlk hown hnm hts hk hr hz ls hl
  replace hown : s.vm.findClass RX11 = some m.cls := hown
  replace hl : lv_has ls 3 [(0, .ref u0), (1, .ref u1)] := hl
  have hS : va_S (hA z) s.heap s.heap [] := va_S.rf
  suffices hgo : ∀ (H : Heap) (locs : List Loc), hR D z h H → va_S (hA z) s.heap H locs → W p l e ({ frames := 1, cells := 0, slots := 0, locals := 22 } : Room) s m ([.ref u0, .ref u1] : List Value).toArray below meth c H locs 0 0 (MQ below (hQ D z h (some (.int r))) ([.ref u0, .ref u1] : List Value).toArray s 0 0 (hA z)) (F0 m 0 ls []) from hgo _ _ hr hS
  clear hr hS
  intro H locs hr hS
  unfold zs_X11_compare at hs
  refine lv_aload_n hx hb dX11_compare_0 rfl (lv_at hl 0 rfl) ?_
  obtain ⟨x1, ex1, hs⟩ := bi_inv hs
  refine hv_gI (C := RX10) (T := TX10) (N := 3) (ci := 10) hx hb hts inX10 hown hk hr rfl 0 (by decide) (hts _ tw_863) ex1 dX11_compare_1 ?_
  refine lv_aload_n hx hb dX11_compare_4 rfl (lv_at hl 1 rfl) ?_
  obtain ⟨x2, ex2, hs⟩ := bi_inv hs
  refine hv_gI (C := RX10) (T := TX10) (N := 3) (ci := 10) hx hb hts inX10 hown hk hr rfl 0 (by decide) (hts _ tw_863) ex2 dX11_compare_5 ?_
  refine lv_icmp_eq (tgt := 24) hx hb dX11_compare_8 (by decide) (fun c3 => ?_) (fun c3 => ?_)
  · rw [if_pos c3] at hs
    refine lv_aload_n hx hb dX11_compare_24 rfl (lv_at hl 0 rfl) ?_
    refine lv_aload_n hx hb dX11_compare_25 rfl (lv_at hl 1 rfl) ?_
    obtain ⟨x4, ex4, hs⟩ := bi_inv hs
    refine hv_S1 (n := 2) [.ref u0, .ref u1] [] hx hb hml hown hts hk hr hz hS (zm_X11_compareSizes l D z ex4) tw_1019 tw_1020 tw_11 tw_1021 (by decide +kernel) (by decide) ⟨(Nat.zero_le _), (Nat.zero_le _)⟩ rfl hl.1 (Nat.le_of_ble_eq_true rfl) dX11_compare_26 rfl (fun H locs hr hS => ?_)
    refine lv_istore_n (lv' := [(2, .int x4), (0, .ref u0), (1, .ref u1)]) hx hb dX11_compare_29 rfl hl (by decide) rfl (fun ls hl => ?_)
    refine lv_aload_n hx hb dX11_compare_30 rfl (lv_at hl 1 rfl) ?_
    obtain ⟨x5, ex5, hs⟩ := bi_inv hs
    refine hv_gI (C := RX10) (T := TX10) (N := 3) (ci := 10) hx hb hts inX10 hown hk hr rfl 0 (by decide) (hts _ tw_863) ex5 dX11_compare_31 ?_
    refine lv_if_eq (tgt := 42) hx hb dX11_compare_34 (by decide) (fun c6 => ?_) (fun c6 => ?_)
    · rw [if_pos c6] at hs
      refine lv_iload_n hx hb dX11_compare_42 rfl (lv_at hl 0 rfl) ?_
      obtain rfl := Option.some.inj hs
      exact hv_iret hx hb hrt hlk hr hS dX11_compare_43
    · rw [if_neg c6] at hs
      refine lv_iload_n hx hb dX11_compare_37 rfl (lv_at hl 0 rfl) ?_
      refine lv_ineg hx hb dX11_compare_38 ?_
      refine lv_goto (tgt := 43) hx hb dX11_compare_39 (by decide) ?_
      obtain rfl := Option.some.inj hs
      exact hv_iret hx hb hrt hlk hr hS dX11_compare_43
  · rw [if_neg c3] at hs
    refine lv_aload_n hx hb dX11_compare_11 rfl (lv_at hl 0 rfl) ?_
    obtain ⟨x7, ex7, hs⟩ := bi_inv hs
    refine hv_gI (C := RX10) (T := TX10) (N := 3) (ci := 10) hx hb hts inX10 hown hk hr rfl 0 (by decide) (hts _ tw_863) ex7 dX11_compare_12 ?_
    refine lv_if_eq (tgt := 22) hx hb dX11_compare_15 (by decide) (fun c8 => ?_) (fun c8 => ?_)
    · rw [if_pos c8] at hs
      refine lv_iconst (v := 1) hx hb dX11_compare_22 (by decide) ?_
      obtain rfl := Option.some.inj hs
      exact hv_iret hx hb hrt hlk hr hS dX11_compare_23
    · rw [if_neg c8] at hs
      refine lv_iconst (v := (-1)) hx hb dX11_compare_18 (by decide) ?_
      refine lv_goto (tgt := 23) hx hb dX11_compare_19 (by decide) ?_
      obtain rfl := Option.some.inj hs
      exact hv_iret hx hb hrt hlk hr hS dX11_compare_23
theorem dX11_compareRatio_0 : decode cX11_compareRatio 0 = .ok (.aload_n 0, 1) := by decide +kernel
theorem dX11_compareRatio_1 : decode cX11_compareRatio 1 = .ok (.iload_n 1, 1) := by decide +kernel
theorem dX11_compareRatio_2 : decode cX11_compareRatio 2 = .ok (.invokevirtual 236, 3) := by decide +kernel
theorem dX11_compareRatio_5 : decode cX11_compareRatio 5 = .ok (.ifCond .eq 51, 3) := by decide +kernel
theorem dX11_compareRatio_8 : decode cX11_compareRatio 8 = .ok (.aload_n 0, 1) := by decide +kernel
theorem dX11_compareRatio_9 : decode cX11_compareRatio 9 = .ok (.iload_n 2, 1) := by decide +kernel
theorem dX11_compareRatio_10 : decode cX11_compareRatio 10 = .ok (.invokevirtual 236, 3) := by decide +kernel
theorem dX11_compareRatio_13 : decode cX11_compareRatio 13 = .ok (.ifCond .eq 43, 3) := by decide +kernel
theorem dX11_compareRatio_16 : decode cX11_compareRatio 16 = .ok (.iconst 1, 1) := by decide +kernel
theorem dX11_compareRatio_17 : decode cX11_compareRatio 17 = .ok (.aload_n 0, 1) := by decide +kernel
theorem dX11_compareRatio_18 : decode cX11_compareRatio 18 = .ok (.aload_n 0, 1) := by decide +kernel
theorem dX11_compareRatio_19 : decode cX11_compareRatio 19 = .ok (.getfield 145, 3) := by decide +kernel
theorem dX11_compareRatio_22 : decode cX11_compareRatio 22 = .ok (.iload_n 1, 1) := by decide +kernel
theorem dX11_compareRatio_23 : decode cX11_compareRatio 23 = .ok (.aaload, 1) := by decide +kernel
theorem dX11_compareRatio_24 : decode cX11_compareRatio 24 = .ok (.aload_n 0, 1) := by decide +kernel
theorem dX11_compareRatio_25 : decode cX11_compareRatio 25 = .ok (.getfield 148, 3) := by decide +kernel
theorem dX11_compareRatio_28 : decode cX11_compareRatio 28 = .ok (.iload_n 2, 1) := by decide +kernel
theorem dX11_compareRatio_29 : decode cX11_compareRatio 29 = .ok (.aaload, 1) := by decide +kernel
theorem dX11_compareRatio_30 : decode cX11_compareRatio 30 = .ok (.invokevirtual 122, 3) := by decide +kernel
theorem dX11_compareRatio_33 : decode cX11_compareRatio 33 = .ok (.aload_n 0, 1) := by decide +kernel
theorem dX11_compareRatio_34 : decode cX11_compareRatio 34 = .ok (.aload_n 0, 1) := by decide +kernel
theorem dX11_compareRatio_35 : decode cX11_compareRatio 35 = .ok (.getfield 145, 3) := by decide +kernel
theorem dX11_compareRatio_38 : decode cX11_compareRatio 38 = .ok (.iload_n 2, 1) := by decide +kernel
theorem dX11_compareRatio_39 : decode cX11_compareRatio 39 = .ok (.aaload, 1) := by decide +kernel
theorem dX11_compareRatio_40 : decode cX11_compareRatio 40 = .ok (.aload_n 0, 1) := by decide +kernel
theorem dX11_compareRatio_41 : decode cX11_compareRatio 41 = .ok (.getfield 148, 3) := by decide +kernel
theorem dX11_compareRatio_44 : decode cX11_compareRatio 44 = .ok (.iload_n 1, 1) := by decide +kernel
theorem dX11_compareRatio_45 : decode cX11_compareRatio 45 = .ok (.aaload, 1) := by decide +kernel
theorem dX11_compareRatio_46 : decode cX11_compareRatio 46 = .ok (.invokevirtual 122, 3) := by decide +kernel
theorem dX11_compareRatio_49 : decode cX11_compareRatio 49 = .ok (.invokestatic 197, 3) := by decide +kernel
theorem dX11_compareRatio_52 : decode cX11_compareRatio 52 = .ok (.iadd, 1) := by decide +kernel
theorem dX11_compareRatio_53 : decode cX11_compareRatio 53 = .ok (.goto 4, 3) := by decide +kernel
theorem dX11_compareRatio_56 : decode cX11_compareRatio 56 = .ok (.iconst (-1), 1) := by decide +kernel
theorem dX11_compareRatio_57 : decode cX11_compareRatio 57 = .ok (.ireturn, 1) := by decide +kernel
def zs_X11_compareRatio (h : AH) (u0 : Nat) (u1 : Int32) (u2 : Int32) : Option (Int32 × AH) :=
  (chk h u0 11).bind fun _ => (zs_X11_isRatio h u0 u1).bind fun x2 => (if x2.1 = 0 then some ((-1 : Int32), x2.2) else (chk x2.2 u0 11).bind fun _ => (zs_X11_isRatio x2.2 u0 u2).bind fun x5 => (if x5.1 = 0 then some ((-1 : Int32), x5.2) else (gR x5.2 u0 11 10).bind fun x7 => (aR x5.2 x7 5 u1).bind fun x8 => (gR x5.2 u0 11 11).bind fun x9 => (aR x5.2 x9 5 u2).bind fun x10 => (chk x5.2 u0 11).bind fun _ => (zs_X11_times x5.2 u0 x8 x10).bind fun x12 => (gR x12.2 u0 11 10).bind fun x13 => (aR x12.2 x13 5 u2).bind fun x14 => (gR x12.2 u0 11 11).bind fun x15 => (aR x12.2 x15 5 u1).bind fun x16 => (chk x12.2 u0 11).bind fun _ => (zs_X11_times x12.2 u0 x14 x16).bind fun x18 => (zs_X11_compare x18.2 x12.1 x18.1).bind fun x19 => some (((1 : Int32)) + x19, x18.2)))
set_option maxRecDepth 100000 in
set_option maxHeartbeats 4000000 in
theorem zm_X11_compareRatio (l : Launch) (D : hG) (z : Nat) {h : AH} {u0 : Nat} {u1 : Int32} {u2 : Int32} {r : Int32} {h' : AH} (hs : zs_X11_compareRatio h u0 u1 u2 = some (r, h')) : hC l D z yX11_compareRatio cX11_compareRatio 3 (Option.some Jvm.ClassFile.FieldType.int) 2 52 0 0 [.ref u0, .int u1, .int u2] h h' (some (.int r)) := by
  refine hC_of (by decide) (Nat.le_of_ble_eq_true rfl) ?_
  intro p e s m below meth c hx hb hml hrt hlk hown hnm hts hk hr hz ls hl
  replace hown : s.vm.findClass RX11 = some m.cls := hown
  replace hl : lv_has ls 3 [(0, .ref u0), (1, .int u1), (2, .int u2)] := hl
  have hS : va_S (hA z) s.heap s.heap [] := va_S.rf
  suffices hgo : ∀ (H : Heap) (locs : List Loc), hR D z h H → va_S (hA z) s.heap H locs → W p l e ({ frames := 2, cells := 0, slots := 0, locals := 52 } : Room) s m ([.ref u0, .int u1, .int u2] : List Value).toArray below meth c H locs 0 0 (MQ below (hQ D z h' (some (.int r))) ([.ref u0, .int u1, .int u2] : List Value).toArray s 0 0 (hA z)) (F0 m 0 ls []) from hgo _ _ hr hS
  clear hr hS
  intro H locs hr hS
  unfold zs_X11_compareRatio at hs
  refine lv_aload_n hx hb dX11_compareRatio_0 rfl (lv_at hl 0 rfl) ?_
  refine lv_iload_n hx hb dX11_compareRatio_1 rfl (lv_at hl 1 rfl) ?_
  obtain ⟨_, ex1, hs⟩ := bi_inv hs
  obtain ⟨x2, ex2, hs⟩ := bi_inv hs
  refine hv_V1 (n := 1) [.int u1] [] hx hb hml hown hts hk hr hz hS (zm_X11_isRatio l D z ex2) ex1 rfl tw_1184 tw_1186 ts_44 tw_11 tw_1187 (by decide +kernel) (by decide) ⟨(Nat.zero_le _), (Nat.zero_le _)⟩ rfl hl.1 (Nat.le_of_ble_eq_true rfl) dX11_compareRatio_2 rfl (fun H locs hr hS => ?_)
  refine lv_if_eq (tgt := 56) hx hb dX11_compareRatio_5 (by decide) (fun c3 => ?_) (fun c3 => ?_)
  · rw [if_pos c3] at hs
    refine lv_iconst (v := (-1)) hx hb dX11_compareRatio_56 (by decide) ?_
    obtain ⟨rfl, rfl⟩ := Prod.mk.inj (Option.some.inj hs)
    exact hv_iret hx hb hrt hlk hr hS dX11_compareRatio_57
  · rw [if_neg c3] at hs
    refine lv_aload_n hx hb dX11_compareRatio_8 rfl (lv_at hl 0 rfl) ?_
    refine lv_iload_n hx hb dX11_compareRatio_9 rfl (lv_at hl 2 rfl) ?_
    obtain ⟨_, ex4, hs⟩ := bi_inv hs
    obtain ⟨x5, ex5, hs⟩ := bi_inv hs
    refine hv_V1 (n := 1) [.int u2] [] hx hb hml hown hts hk hr hz hS (zm_X11_isRatio l D z ex5) ex4 rfl tw_1184 tw_1186 ts_44 tw_11 tw_1187 (by decide +kernel) (by decide) ⟨(Nat.zero_le _), (Nat.zero_le _)⟩ rfl hl.1 (Nat.le_of_ble_eq_true rfl) dX11_compareRatio_10 rfl (fun H locs hr hS => ?_)
    refine lv_if_eq (tgt := 56) hx hb dX11_compareRatio_13 (by decide) (fun c6 => ?_) (fun c6 => ?_)
    · rw [if_pos c6] at hs
      refine lv_iconst (v := (-1)) hx hb dX11_compareRatio_56 (by decide) ?_
      obtain ⟨rfl, rfl⟩ := Prod.mk.inj (Option.some.inj hs)
      exact hv_iret hx hb hrt hlk hr hS dX11_compareRatio_57
    · rw [if_neg c6] at hs
      refine lv_iconst (v := 1) hx hb dX11_compareRatio_16 (by decide) ?_
      refine lv_aload_n hx hb dX11_compareRatio_17 rfl (lv_at hl 0 rfl) ?_
      refine lv_aload_n hx hb dX11_compareRatio_18 rfl (lv_at hl 0 rfl) ?_
      obtain ⟨x7, ex7, hs⟩ := bi_inv hs
      refine hv_gR (C := RX11) (T := TX11) (N := 23) (ci := 11) hx hb hts inX11 hown hk hr rfl 10 (by decide) (hts _ tw_892) ex7 dX11_compareRatio_19 ?_
      refine lv_iload_n hx hb dX11_compareRatio_22 rfl (lv_at hl 1 rfl) ?_
      obtain ⟨x8, ex8, hs⟩ := bi_inv hs
      refine hv_aR (kd := 5) hx hb hk hr rfl ex8 dX11_compareRatio_23 ?_
      refine lv_aload_n hx hb dX11_compareRatio_24 rfl (lv_at hl 0 rfl) ?_
      obtain ⟨x9, ex9, hs⟩ := bi_inv hs
      refine hv_gR (C := RX11) (T := TX11) (N := 23) (ci := 11) hx hb hts inX11 hown hk hr rfl 11 (by decide) (hts _ tw_893) ex9 dX11_compareRatio_25 ?_
      refine lv_iload_n hx hb dX11_compareRatio_28 rfl (lv_at hl 2 rfl) ?_
      obtain ⟨x10, ex10, hs⟩ := bi_inv hs
      refine hv_aR (kd := 5) hx hb hk hr rfl ex10 dX11_compareRatio_29 ?_
      obtain ⟨_, ex11, hs⟩ := bi_inv hs
      obtain ⟨x12, ex12, hs⟩ := bi_inv hs
      refine hv_V1 (n := 2) [.ref x8, .ref x10] [.int ((1 : Int32))] hx hb hml hown hts hk hr hz hS (zm_X11_times l D z ex12) ex11 rfl tw_1003 tw_1005 ts_26 tw_11 tw_1006 (by decide +kernel) (by decide) ⟨(Nat.zero_le _), (Nat.zero_le _)⟩ rfl hl.1 (Nat.le_of_ble_eq_true rfl) dX11_compareRatio_30 rfl (fun H locs hr hS => ?_)
      refine lv_aload_n hx hb dX11_compareRatio_33 rfl (lv_at hl 0 rfl) ?_
      refine lv_aload_n hx hb dX11_compareRatio_34 rfl (lv_at hl 0 rfl) ?_
      obtain ⟨x13, ex13, hs⟩ := bi_inv hs
      refine hv_gR (C := RX11) (T := TX11) (N := 23) (ci := 11) hx hb hts inX11 hown hk hr rfl 10 (by decide) (hts _ tw_892) ex13 dX11_compareRatio_35 ?_
      refine lv_iload_n hx hb dX11_compareRatio_38 rfl (lv_at hl 2 rfl) ?_
      obtain ⟨x14, ex14, hs⟩ := bi_inv hs
      refine hv_aR (kd := 5) hx hb hk hr rfl ex14 dX11_compareRatio_39 ?_
      refine lv_aload_n hx hb dX11_compareRatio_40 rfl (lv_at hl 0 rfl) ?_
      obtain ⟨x15, ex15, hs⟩ := bi_inv hs
      refine hv_gR (C := RX11) (T := TX11) (N := 23) (ci := 11) hx hb hts inX11 hown hk hr rfl 11 (by decide) (hts _ tw_893) ex15 dX11_compareRatio_41 ?_
      refine lv_iload_n hx hb dX11_compareRatio_44 rfl (lv_at hl 1 rfl) ?_
      obtain ⟨x16, ex16, hs⟩ := bi_inv hs
      refine hv_aR (kd := 5) hx hb hk hr rfl ex16 dX11_compareRatio_45 ?_
      obtain ⟨_, ex17, hs⟩ := bi_inv hs
      obtain ⟨x18, ex18, hs⟩ := bi_inv hs
      refine hv_V1 (n := 2) [.ref x14, .ref x16] [.ref x12.1, .int ((1 : Int32))] hx hb hml hown hts hk hr hz hS (zm_X11_times l D z ex18) ex17 rfl tw_1003 tw_1005 ts_26 tw_11 tw_1006 (by decide +kernel) (by decide) ⟨(Nat.zero_le _), (Nat.zero_le _)⟩ rfl hl.1 (Nat.le_of_ble_eq_true rfl) dX11_compareRatio_46 rfl (fun H locs hr hS => ?_)
      obtain ⟨x19, ex19, hs⟩ := bi_inv hs
      refine hv_S1 (n := 2) [.ref x12.1, .ref x18.1] [.int ((1 : Int32))] hx hb hml hown hts hk hr hz hS (zm_X11_compare l D z ex19) tw_1080 tw_1081 tw_11 tw_1082 (by decide +kernel) (by decide) ⟨(Nat.zero_le _), (Nat.zero_le _)⟩ rfl hl.1 (Nat.le_of_ble_eq_true rfl) dX11_compareRatio_49 rfl (fun H locs hr hS => ?_)
      refine lv_iadd hx hb dX11_compareRatio_52 ?_
      refine lv_goto (tgt := 57) hx hb dX11_compareRatio_53 (by decide) ?_
      obtain ⟨rfl, rfl⟩ := Prod.mk.inj (Option.some.inj hs)
      exact hv_iret hx hb hrt hlk hr hS dX11_compareRatio_57
theorem dX11_compare__0 : decode cX11_compare_ 0 = .ok (.aload_n 0, 1) := by decide +kernel
theorem dX11_compare__1 : decode cX11_compare_ 1 = .ok (.iload_n 1, 1) := by decide +kernel
theorem dX11_compare__2 : decode cX11_compare_ 2 = .ok (.invokevirtual 177, 3) := by decide +kernel
theorem dX11_compare__5 : decode cX11_compare_ 5 = .ok (.ifCond .eq 31, 3) := by decide +kernel
theorem dX11_compare__8 : decode cX11_compare_ 8 = .ok (.aload_n 0, 1) := by decide +kernel
theorem dX11_compare__9 : decode cX11_compare_ 9 = .ok (.iload_n 2, 1) := by decide +kernel
theorem dX11_compare__10 : decode cX11_compare_ 10 = .ok (.invokevirtual 177, 3) := by decide +kernel
theorem dX11_compare__13 : decode cX11_compare_ 13 = .ok (.ifCond .eq 23, 3) := by decide +kernel
theorem dX11_compare__16 : decode cX11_compare_ 16 = .ok (.iconst 1, 1) := by decide +kernel
theorem dX11_compare__17 : decode cX11_compare_ 17 = .ok (.aload_n 0, 1) := by decide +kernel
theorem dX11_compare__18 : decode cX11_compare_ 18 = .ok (.getfield 142, 3) := by decide +kernel
theorem dX11_compare__21 : decode cX11_compare_ 21 = .ok (.iload_n 1, 1) := by decide +kernel
theorem dX11_compare__22 : decode cX11_compare_ 22 = .ok (.aaload, 1) := by decide +kernel
theorem dX11_compare__23 : decode cX11_compare_ 23 = .ok (.aload_n 0, 1) := by decide +kernel
theorem dX11_compare__24 : decode cX11_compare_ 24 = .ok (.getfield 142, 3) := by decide +kernel
theorem dX11_compare__27 : decode cX11_compare_ 27 = .ok (.iload_n 2, 1) := by decide +kernel
theorem dX11_compare__28 : decode cX11_compare_ 28 = .ok (.aaload, 1) := by decide +kernel
theorem dX11_compare__29 : decode cX11_compare_ 29 = .ok (.invokestatic 197, 3) := by decide +kernel
theorem dX11_compare__32 : decode cX11_compare_ 32 = .ok (.iadd, 1) := by decide +kernel
theorem dX11_compare__33 : decode cX11_compare_ 33 = .ok (.goto 4, 3) := by decide +kernel
theorem dX11_compare__36 : decode cX11_compare_ 36 = .ok (.iconst (-1), 1) := by decide +kernel
theorem dX11_compare__37 : decode cX11_compare_ 37 = .ok (.ireturn, 1) := by decide +kernel
def zs_X11_compare_ (h : AH) (u0 : Nat) (u1 : Int32) (u2 : Int32) : Option (Int32 × AH) :=
  (chk h u0 11).bind fun _ => (zs_X11_isSlot h u0 u1).bind fun x2 => (if x2.1 = 0 then some ((-1 : Int32), x2.2) else (chk x2.2 u0 11).bind fun _ => (zs_X11_isSlot x2.2 u0 u2).bind fun x5 => (if x5.1 = 0 then some ((-1 : Int32), x5.2) else (gR x5.2 u0 11 9).bind fun x7 => (aR x5.2 x7 5 u1).bind fun x8 => (gR x5.2 u0 11 9).bind fun x9 => (aR x5.2 x9 5 u2).bind fun x10 => (zs_X11_compare x5.2 x8 x10).bind fun x11 => some (((1 : Int32)) + x11, x5.2)))
set_option maxRecDepth 100000 in
set_option maxHeartbeats 4000000 in
theorem zm_X11_compare_ (l : Launch) (D : hG) (z : Nat) {h : AH} {u0 : Nat} {u1 : Int32} {u2 : Int32} {r : Int32} {h' : AH} (hs : zs_X11_compare_ h u0 u1 u2 = some (r, h')) : hC l D z yX11_compare_ cX11_compare_ 3 (Option.some Jvm.ClassFile.FieldType.int) 2 44 0 0 [.ref u0, .int u1, .int u2] h h' (some (.int r)) := by
  refine hC_of (by decide) (Nat.le_of_ble_eq_true rfl) ?_
  intro p e s m below meth c hx hb hml hrt hlk hown hnm hts hk hr hz ls hl
  replace hown : s.vm.findClass RX11 = some m.cls := hown
  replace hl : lv_has ls 3 [(0, .ref u0), (1, .int u1), (2, .int u2)] := hl
  have hS : va_S (hA z) s.heap s.heap [] := va_S.rf
  suffices hgo : ∀ (H : Heap) (locs : List Loc), hR D z h H → va_S (hA z) s.heap H locs → W p l e ({ frames := 2, cells := 0, slots := 0, locals := 44 } : Room) s m ([.ref u0, .int u1, .int u2] : List Value).toArray below meth c H locs 0 0 (MQ below (hQ D z h' (some (.int r))) ([.ref u0, .int u1, .int u2] : List Value).toArray s 0 0 (hA z)) (F0 m 0 ls []) from hgo _ _ hr hS
  clear hr hS
  intro H locs hr hS
  unfold zs_X11_compare_ at hs
  refine lv_aload_n hx hb dX11_compare__0 rfl (lv_at hl 0 rfl) ?_
  refine lv_iload_n hx hb dX11_compare__1 rfl (lv_at hl 1 rfl) ?_
  obtain ⟨_, ex1, hs⟩ := bi_inv hs
  obtain ⟨x2, ex2, hs⟩ := bi_inv hs
  refine hv_V1 (n := 1) [.int u1] [] hx hb hml hown hts hk hr hz hS (zm_X11_isSlot l D z ex2) ex1 rfl tw_956 tw_958 ts_21 tw_11 tw_959 (by decide +kernel) (by decide) ⟨(Nat.zero_le _), (Nat.zero_le _)⟩ rfl hl.1 (Nat.le_of_ble_eq_true rfl) dX11_compare__2 rfl (fun H locs hr hS => ?_)
  refine lv_if_eq (tgt := 36) hx hb dX11_compare__5 (by decide) (fun c3 => ?_) (fun c3 => ?_)
  · rw [if_pos c3] at hs
    refine lv_iconst (v := (-1)) hx hb dX11_compare__36 (by decide) ?_
    obtain ⟨rfl, rfl⟩ := Prod.mk.inj (Option.some.inj hs)
    exact hv_iret hx hb hrt hlk hr hS dX11_compare__37
  · rw [if_neg c3] at hs
    refine lv_aload_n hx hb dX11_compare__8 rfl (lv_at hl 0 rfl) ?_
    refine lv_iload_n hx hb dX11_compare__9 rfl (lv_at hl 2 rfl) ?_
    obtain ⟨_, ex4, hs⟩ := bi_inv hs
    obtain ⟨x5, ex5, hs⟩ := bi_inv hs
    refine hv_V1 (n := 1) [.int u2] [] hx hb hml hown hts hk hr hz hS (zm_X11_isSlot l D z ex5) ex4 rfl tw_956 tw_958 ts_21 tw_11 tw_959 (by decide +kernel) (by decide) ⟨(Nat.zero_le _), (Nat.zero_le _)⟩ rfl hl.1 (Nat.le_of_ble_eq_true rfl) dX11_compare__10 rfl (fun H locs hr hS => ?_)
    refine lv_if_eq (tgt := 36) hx hb dX11_compare__13 (by decide) (fun c6 => ?_) (fun c6 => ?_)
    · rw [if_pos c6] at hs
      refine lv_iconst (v := (-1)) hx hb dX11_compare__36 (by decide) ?_
      obtain ⟨rfl, rfl⟩ := Prod.mk.inj (Option.some.inj hs)
      exact hv_iret hx hb hrt hlk hr hS dX11_compare__37
    · rw [if_neg c6] at hs
      refine lv_iconst (v := 1) hx hb dX11_compare__16 (by decide) ?_
      refine lv_aload_n hx hb dX11_compare__17 rfl (lv_at hl 0 rfl) ?_
      obtain ⟨x7, ex7, hs⟩ := bi_inv hs
      refine hv_gR (C := RX11) (T := TX11) (N := 23) (ci := 11) hx hb hts inX11 hown hk hr rfl 9 (by decide) (hts _ tw_891) ex7 dX11_compare__18 ?_
      refine lv_iload_n hx hb dX11_compare__21 rfl (lv_at hl 1 rfl) ?_
      obtain ⟨x8, ex8, hs⟩ := bi_inv hs
      refine hv_aR (kd := 5) hx hb hk hr rfl ex8 dX11_compare__22 ?_
      refine lv_aload_n hx hb dX11_compare__23 rfl (lv_at hl 0 rfl) ?_
      obtain ⟨x9, ex9, hs⟩ := bi_inv hs
      refine hv_gR (C := RX11) (T := TX11) (N := 23) (ci := 11) hx hb hts inX11 hown hk hr rfl 9 (by decide) (hts _ tw_891) ex9 dX11_compare__24 ?_
      refine lv_iload_n hx hb dX11_compare__27 rfl (lv_at hl 2 rfl) ?_
      obtain ⟨x10, ex10, hs⟩ := bi_inv hs
      refine hv_aR (kd := 5) hx hb hk hr rfl ex10 dX11_compare__28 ?_
      obtain ⟨x11, ex11, hs⟩ := bi_inv hs
      refine hv_S1 (n := 2) [.ref x8, .ref x10] [.int ((1 : Int32))] hx hb hml hown hts hk hr hz hS (zm_X11_compare l D z ex11) tw_1080 tw_1081 tw_11 tw_1082 (by decide +kernel) (by decide) ⟨(Nat.zero_le _), (Nat.zero_le _)⟩ rfl hl.1 (Nat.le_of_ble_eq_true rfl) dX11_compare__29 rfl (fun H locs hr hS => ?_)
      refine lv_iadd hx hb dX11_compare__32 ?_
      refine lv_goto (tgt := 37) hx hb dX11_compare__33 (by decide) ?_
      obtain ⟨rfl, rfl⟩ := Prod.mk.inj (Option.some.inj hs)
      exact hv_iret hx hb hrt hlk hr hS dX11_compare__37
theorem dX11_digit_0 : decode cX11_digit 0 = .ok (.aload_n 0, 1) := by decide +kernel
theorem dX11_digit_1 : decode cX11_digit 1 = .ok (.iconst 0, 1) := by decide +kernel
theorem dX11_digit_2 : decode cX11_digit 2 = .ok (.putfield 1, 3) := by decide +kernel
theorem dX11_digit_5 : decode cX11_digit 5 = .ok (.iload_n 1, 1) := by decide +kernel
theorem dX11_digit_6 : decode cX11_digit 6 = .ok (.iconst (-1), 1) := by decide +kernel
theorem dX11_digit_7 : decode cX11_digit 7 = .ok (.if_icmp .ne 10, 3) := by decide +kernel
theorem dX11_digit_10 : decode cX11_digit 10 = .ok (.aload_n 0, 1) := by decide +kernel
theorem dX11_digit_11 : decode cX11_digit 11 = .ok (.getfield 252, 3) := by decide +kernel
theorem dX11_digit_14 : decode cX11_digit 14 = .ok (.goto 43, 3) := by decide +kernel
theorem dX11_digit_17 : decode cX11_digit 17 = .ok (.iload_n 1, 1) := by decide +kernel
theorem dX11_digit_18 : decode cX11_digit 18 = .ok (.bipush (-2), 2) := by decide +kernel
theorem dX11_digit_20 : decode cX11_digit 20 = .ok (.if_icmp .ne 10, 3) := by decide +kernel
theorem dX11_digit_23 : decode cX11_digit 23 = .ok (.aload_n 0, 1) := by decide +kernel
theorem dX11_digit_24 : decode cX11_digit 24 = .ok (.getfield 255, 3) := by decide +kernel
theorem dX11_digit_27 : decode cX11_digit 27 = .ok (.goto 30, 3) := by decide +kernel
theorem dX11_digit_30 : decode cX11_digit 30 = .ok (.iload_n 1, 1) := by decide +kernel
theorem dX11_digit_31 : decode cX11_digit 31 = .ok (.ifCond .lt 25, 3) := by decide +kernel
theorem dX11_digit_34 : decode cX11_digit 34 = .ok (.iload_n 1, 1) := by decide +kernel
theorem dX11_digit_35 : decode cX11_digit 35 = .ok (.aload_n 0, 1) := by decide +kernel
theorem dX11_digit_36 : decode cX11_digit 36 = .ok (.getfield 252, 3) := by decide +kernel
theorem dX11_digit_39 : decode cX11_digit 39 = .ok (.aload_n 0, 1) := by decide +kernel
theorem dX11_digit_40 : decode cX11_digit 40 = .ok (.getfield 255, 3) := by decide +kernel
theorem dX11_digit_43 : decode cX11_digit 43 = .ok (.iadd, 1) := by decide +kernel
theorem dX11_digit_44 : decode cX11_digit 44 = .ok (.if_icmp .ge 12, 3) := by decide +kernel
theorem dX11_digit_47 : decode cX11_digit 47 = .ok (.aload_n 0, 1) := by decide +kernel
theorem dX11_digit_48 : decode cX11_digit 48 = .ok (.getfield 164, 3) := by decide +kernel
theorem dX11_digit_51 : decode cX11_digit 51 = .ok (.iload_n 1, 1) := by decide +kernel
theorem dX11_digit_52 : decode cX11_digit 52 = .ok (.iaload, 1) := by decide +kernel
theorem dX11_digit_53 : decode cX11_digit 53 = .ok (.goto 4, 3) := by decide +kernel
theorem dX11_digit_56 : decode cX11_digit 56 = .ok (.iconst (-1), 1) := by decide +kernel
theorem dX11_digit_57 : decode cX11_digit 57 = .ok (.ireturn, 1) := by decide +kernel
def zs_X11_digit (h : AH) (u0 : Nat) (u1 : Int32) : Option (Int32 × AH) :=
  (pV h u0 11 0 (.int ((0 : Int32)))).bind fun g1 => (if u1 = (-1 : Int32) then (gI g1 u0 11 21).bind fun x11 => some (x11, g1) else (if u1 = (-2 : Int32) then (gI g1 u0 11 22).bind fun x10 => some (x10, g1) else (if u1 < 0 then some ((-1 : Int32), g1) else (gI g1 u0 11 21).bind fun x5 => (gI g1 u0 11 22).bind fun x6 => (if x5 + x6 ≤ u1 then some ((-1 : Int32), g1) else (gR g1 u0 11 18).bind fun x8 => (aI g1 x8 0 u1).bind fun x9 => some (x9, g1)))))
set_option maxRecDepth 100000 in
set_option maxHeartbeats 4000000 in
theorem zm_X11_digit (l : Launch) (D : hG) (z : Nat) {h : AH} {u0 : Nat} {u1 : Int32} {r : Int32} {h' : AH} (hs : zs_X11_digit h u0 u1 = some (r, h')) : hC l D z yX11_digit cX11_digit 2 (Option.some Jvm.ClassFile.FieldType.int) 0 0 0 0 [.ref u0, .int u1] h h' (some (.int r)) := by
  refine hC_of (by decide) (Nat.le_of_ble_eq_true rfl) ?_
  intro p e s m below meth c hx hb hml hrt hlk hown hnm hts hk hr hz ls hl
  replace hown : s.vm.findClass RX11 = some m.cls := hown
  replace hl : lv_has ls 2 [(0, .ref u0), (1, .int u1)] := hl
  have hS : va_S (hA z) s.heap s.heap [] := va_S.rf
  suffices hgo : ∀ (H : Heap) (locs : List Loc), hR D z h H → va_S (hA z) s.heap H locs → W p l e ({ frames := 0, cells := 0, slots := 0, locals := 0 } : Room) s m ([.ref u0, .int u1] : List Value).toArray below meth c H locs 0 0 (MQ below (hQ D z h' (some (.int r))) ([.ref u0, .int u1] : List Value).toArray s 0 0 (hA z)) (F0 m 0 ls []) from hgo _ _ hr hS
  clear hr hS
  intro H locs hr hS
  unfold zs_X11_digit at hs
  refine lv_aload_n hx hb dX11_digit_0 rfl (lv_at hl 0 rfl) ?_
  refine lv_iconst (v := 0) hx hb dX11_digit_1 (by decide) ?_
  obtain ⟨g1, eg1, hs⟩ := bi_inv hs
  refine hv_pV (C := RX11) (T := TX11) (N := 23) (ci := 11) hx hb hts inX11 tyX11 tyX11_ok nmX11 hown hk hr hS rfl 0 (by decide) (hts _ tw_882) rfl rfl rfl eg1 dX11_digit_2 (fun H locs hr hS => ?_)
  refine lv_iload_n hx hb dX11_digit_5 rfl (lv_at hl 1 rfl) ?_
  refine lv_iconst (v := (-1)) hx hb dX11_digit_6 (by decide) ?_
  refine lv_icmp_ne (tgt := 17) hx hb dX11_digit_7 (by decide) (fun c2 => ?_) (fun c2 => ?_)
  · rw [if_neg c2] at hs
    refine lv_iload_n hx hb dX11_digit_17 rfl (lv_at hl 1 rfl) ?_
    refine lv_bipush (v := (-2)) hx hb dX11_digit_18 (by decide) ?_
    refine lv_icmp_ne (tgt := 30) hx hb dX11_digit_20 (by decide) (fun c3 => ?_) (fun c3 => ?_)
    · rw [if_neg c3] at hs
      refine lv_iload_n hx hb dX11_digit_30 rfl (lv_at hl 1 rfl) ?_
      refine lv_if_lt (tgt := 56) hx hb dX11_digit_31 (by decide) (fun c4 => ?_) (fun c4 => ?_)
      · rw [if_pos c4] at hs
        refine lv_iconst (v := (-1)) hx hb dX11_digit_56 (by decide) ?_
        obtain ⟨rfl, rfl⟩ := Prod.mk.inj (Option.some.inj hs)
        exact hv_iret hx hb hrt hlk hr hS dX11_digit_57
      · rw [if_neg c4] at hs
        refine lv_iload_n hx hb dX11_digit_34 rfl (lv_at hl 1 rfl) ?_
        refine lv_aload_n hx hb dX11_digit_35 rfl (lv_at hl 0 rfl) ?_
        obtain ⟨x5, ex5, hs⟩ := bi_inv hs
        refine hv_gI (C := RX11) (T := TX11) (N := 23) (ci := 11) hx hb hts inX11 hown hk hr rfl 21 (by decide) (hts _ tw_903) ex5 dX11_digit_36 ?_
        refine lv_aload_n hx hb dX11_digit_39 rfl (lv_at hl 0 rfl) ?_
        obtain ⟨x6, ex6, hs⟩ := bi_inv hs
        refine hv_gI (C := RX11) (T := TX11) (N := 23) (ci := 11) hx hb hts inX11 hown hk hr rfl 22 (by decide) (hts _ tw_904) ex6 dX11_digit_40 ?_
        refine lv_iadd hx hb dX11_digit_43 ?_
        refine lv_icmp_ge (tgt := 56) hx hb dX11_digit_44 (by decide) (fun c7 => ?_) (fun c7 => ?_)
        · rw [if_pos c7] at hs
          refine lv_iconst (v := (-1)) hx hb dX11_digit_56 (by decide) ?_
          obtain ⟨rfl, rfl⟩ := Prod.mk.inj (Option.some.inj hs)
          exact hv_iret hx hb hrt hlk hr hS dX11_digit_57
        · rw [if_neg c7] at hs
          refine lv_aload_n hx hb dX11_digit_47 rfl (lv_at hl 0 rfl) ?_
          obtain ⟨x8, ex8, hs⟩ := bi_inv hs
          refine hv_gR (C := RX11) (T := TX11) (N := 23) (ci := 11) hx hb hts inX11 hown hk hr rfl 18 (by decide) (hts _ tw_900) ex8 dX11_digit_48 ?_
          refine lv_iload_n hx hb dX11_digit_51 rfl (lv_at hl 1 rfl) ?_
          obtain ⟨x9, ex9, hs⟩ := bi_inv hs
          refine hv_aI hx hb hk hr ex9 dX11_digit_52 ?_
          refine lv_goto (tgt := 57) hx hb dX11_digit_53 (by decide) ?_
          obtain ⟨rfl, rfl⟩ := Prod.mk.inj (Option.some.inj hs)
          exact hv_iret hx hb hrt hlk hr hS dX11_digit_57
    · rw [if_pos c3] at hs
      refine lv_aload_n hx hb dX11_digit_23 rfl (lv_at hl 0 rfl) ?_
      obtain ⟨x10, ex10, hs⟩ := bi_inv hs
      refine hv_gI (C := RX11) (T := TX11) (N := 23) (ci := 11) hx hb hts inX11 hown hk hr rfl 22 (by decide) (hts _ tw_904) ex10 dX11_digit_24 ?_
      refine lv_goto (tgt := 57) hx hb dX11_digit_27 (by decide) ?_
      obtain ⟨rfl, rfl⟩ := Prod.mk.inj (Option.some.inj hs)
      exact hv_iret hx hb hrt hlk hr hS dX11_digit_57
  · rw [if_pos c2] at hs
    refine lv_aload_n hx hb dX11_digit_10 rfl (lv_at hl 0 rfl) ?_
    obtain ⟨x11, ex11, hs⟩ := bi_inv hs
    refine hv_gI (C := RX11) (T := TX11) (N := 23) (ci := 11) hx hb hts inX11 hown hk hr rfl 21 (by decide) (hts _ tw_903) ex11 dX11_digit_11 ?_
    refine lv_goto (tgt := 57) hx hb dX11_digit_14 (by decide) ?_
    obtain ⟨rfl, rfl⟩ := Prod.mk.inj (Option.some.inj hs)
    exact hv_iret hx hb hrt hlk hr hS dX11_digit_57
theorem dX11_digitOf_0 : decode cX11_digitOf 0 = .ok (.iload_n 0, 1) := by decide +kernel
theorem dX11_digitOf_1 : decode cX11_digitOf 1 = .ok (.bipush 48, 2) := by decide +kernel
theorem dX11_digitOf_3 : decode cX11_digitOf 3 = .ok (.if_icmp .lt 16, 3) := by decide +kernel
theorem dX11_digitOf_6 : decode cX11_digitOf 6 = .ok (.iload_n 0, 1) := by decide +kernel
theorem dX11_digitOf_7 : decode cX11_digitOf 7 = .ok (.bipush 57, 2) := by decide +kernel
theorem dX11_digitOf_9 : decode cX11_digitOf 9 = .ok (.if_icmp .gt 10, 3) := by decide +kernel
theorem dX11_digitOf_12 : decode cX11_digitOf 12 = .ok (.iload_n 0, 1) := by decide +kernel
theorem dX11_digitOf_13 : decode cX11_digitOf 13 = .ok (.bipush 48, 2) := by decide +kernel
theorem dX11_digitOf_15 : decode cX11_digitOf 15 = .ok (.isub, 1) := by decide +kernel
theorem dX11_digitOf_16 : decode cX11_digitOf 16 = .ok (.goto 27, 3) := by decide +kernel
theorem dX11_digitOf_19 : decode cX11_digitOf 19 = .ok (.iload_n 0, 1) := by decide +kernel
theorem dX11_digitOf_20 : decode cX11_digitOf 20 = .ok (.bipush 97, 2) := by decide +kernel
theorem dX11_digitOf_22 : decode cX11_digitOf 22 = .ok (.if_icmp .lt 19, 3) := by decide +kernel
theorem dX11_digitOf_25 : decode cX11_digitOf 25 = .ok (.iload_n 0, 1) := by decide +kernel
theorem dX11_digitOf_26 : decode cX11_digitOf 26 = .ok (.bipush 122, 2) := by decide +kernel
theorem dX11_digitOf_28 : decode cX11_digitOf 28 = .ok (.if_icmp .gt 13, 3) := by decide +kernel
theorem dX11_digitOf_31 : decode cX11_digitOf 31 = .ok (.iload_n 0, 1) := by decide +kernel
theorem dX11_digitOf_32 : decode cX11_digitOf 32 = .ok (.bipush 97, 2) := by decide +kernel
theorem dX11_digitOf_34 : decode cX11_digitOf 34 = .ok (.isub, 1) := by decide +kernel
theorem dX11_digitOf_35 : decode cX11_digitOf 35 = .ok (.bipush 10, 2) := by decide +kernel
theorem dX11_digitOf_37 : decode cX11_digitOf 37 = .ok (.iadd, 1) := by decide +kernel
theorem dX11_digitOf_38 : decode cX11_digitOf 38 = .ok (.goto 5, 3) := by decide +kernel
theorem dX11_digitOf_41 : decode cX11_digitOf 41 = .ok (.bipush 99, 2) := by decide +kernel
theorem dX11_digitOf_43 : decode cX11_digitOf 43 = .ok (.ireturn, 1) := by decide +kernel
def zj_X11_digitOf_19 (h : AH) (y0_19 : Int32) : Option Int32 :=
  (if y0_19 < (97 : Int32) then some ((99 : Int32)) else (if (122 : Int32) < y0_19 then some ((99 : Int32)) else some ((y0_19 - ((97 : Int32))) + ((10 : Int32)))))
def zs_X11_digitOf (h : AH) (u0 : Int32) : Option Int32 :=
  (if u0 < (48 : Int32) then zj_X11_digitOf_19 h u0 else (if (57 : Int32) < u0 then zj_X11_digitOf_19 h u0 else some (u0 - ((48 : Int32)))))
set_option maxRecDepth 100000 in
set_option maxHeartbeats 4000000 in
theorem zm_X11_digitOf (l : Launch) (D : hG) (z : Nat) {h : AH} {u0 : Int32} {r : Int32} (hs : zs_X11_digitOf h u0 = some r) : hC l D z yX11_digitOf cX11_digitOf 1 (Option.some Jvm.ClassFile.FieldType.int) 0 0 0 0 [.int u0] h h (some (.int r)) := by
  refine hC_of (by decide) (Nat.le_of_ble_eq_true rfl) ?_
  intro p e s m below meth c hx hb hml hrt hlk hown hnm hts hk hr hz ls hl
  replace hown : s.vm.findClass RX11 = some m.cls := hown
  replace hl : lv_has ls 1 [(0, .int u0)] := hl
  have hS : va_S (hA z) s.heap s.heap [] := va_S.rf
  suffices hgo : ∀ (H : Heap) (locs : List Loc), hR D z h H → va_S (hA z) s.heap H locs → W p l e ({ frames := 0, cells := 0, slots := 0, locals := 0 } : Room) s m ([.int u0] : List Value).toArray below meth c H locs 0 0 (MQ below (hQ D z h (some (.int r))) ([.int u0] : List Value).toArray s 0 0 (hA z)) (F0 m 0 ls []) from hgo _ _ hr hS
  clear hr hS
  intro H locs hr hS
  have hJ19 : ∀ (y0_19 : Int32) (H : Heap) (locs : List Loc) (ls : Array Slot), zj_X11_digitOf_19 h y0_19 = some r → hR D z h H → va_S (hA z) s.heap H locs → lv_has ls 1 [(0, .int y0_19)] → W p l e ({ frames := 0, cells := 0, slots := 0, locals := 0 } : Room) s m ([.int u0] : List Value).toArray below meth c H locs 0 0 (MQ below (hQ D z h (some (.int r))) ([.int u0] : List Value).toArray s 0 0 (hA z)) (F0 m 19 ls []) := by
    intro y0_19 H locs ls hs hr hS hl
    unfold zj_X11_digitOf_19 at hs
    refine lv_iload_n hx hb dX11_digitOf_19 rfl (lv_at hl 0 rfl) ?_
    refine lv_bipush (v := 97) hx hb dX11_digitOf_20 (by decide) ?_
    refine lv_icmp_lt (tgt := 41) hx hb dX11_digitOf_22 (by decide) (fun c2 => ?_) (fun c2 => ?_)
    · rw [if_pos c2] at hs
      refine lv_bipush (v := 99) hx hb dX11_digitOf_41 (by decide) ?_
      obtain rfl := Option.some.inj hs
      exact hv_iret hx hb hrt hlk hr hS dX11_digitOf_43
    · rw [if_neg c2] at hs
      refine lv_iload_n hx hb dX11_digitOf_25 rfl (lv_at hl 0 rfl) ?_
      refine lv_bipush (v := 122) hx hb dX11_digitOf_26 (by decide) ?_
      refine lv_icmp_gt (tgt := 41) hx hb dX11_digitOf_28 (by decide) (fun c3 => ?_) (fun c3 => ?_)
      · rw [if_pos c3] at hs
        refine lv_bipush (v := 99) hx hb dX11_digitOf_41 (by decide) ?_
        obtain rfl := Option.some.inj hs
        exact hv_iret hx hb hrt hlk hr hS dX11_digitOf_43
      · rw [if_neg c3] at hs
        refine lv_iload_n hx hb dX11_digitOf_31 rfl (lv_at hl 0 rfl) ?_
        refine lv_bipush (v := 97) hx hb dX11_digitOf_32 (by decide) ?_
        refine lv_isub hx hb dX11_digitOf_34 ?_
        refine lv_bipush (v := 10) hx hb dX11_digitOf_35 (by decide) ?_
        refine lv_iadd hx hb dX11_digitOf_37 ?_
        refine lv_goto (tgt := 43) hx hb dX11_digitOf_38 (by decide) ?_
        obtain rfl := Option.some.inj hs
        exact hv_iret hx hb hrt hlk hr hS dX11_digitOf_43
  unfold zs_X11_digitOf at hs
  refine lv_iload_n hx hb dX11_digitOf_0 rfl (lv_at hl 0 rfl) ?_
  refine lv_bipush (v := 48) hx hb dX11_digitOf_1 (by decide) ?_
  refine lv_icmp_lt (tgt := 19) hx hb dX11_digitOf_3 (by decide) (fun c1 => ?_) (fun c1 => ?_)
  · rw [if_pos c1] at hs
    exact hJ19 u0 H locs ls hs hr hS (lv_sub hl [0] rfl)
  · rw [if_neg c1] at hs
    refine lv_iload_n hx hb dX11_digitOf_6 rfl (lv_at hl 0 rfl) ?_
    refine lv_bipush (v := 57) hx hb dX11_digitOf_7 (by decide) ?_
    refine lv_icmp_gt (tgt := 19) hx hb dX11_digitOf_9 (by decide) (fun c4 => ?_) (fun c4 => ?_)
    · rw [if_pos c4] at hs
      exact hJ19 u0 H locs ls hs hr hS (lv_sub hl [0] rfl)
    · rw [if_neg c4] at hs
      refine lv_iload_n hx hb dX11_digitOf_12 rfl (lv_at hl 0 rfl) ?_
      refine lv_bipush (v := 48) hx hb dX11_digitOf_13 (by decide) ?_
      refine lv_isub hx hb dX11_digitOf_15 ?_
      refine lv_goto (tgt := 43) hx hb dX11_digitOf_16 (by decide) ?_
      obtain rfl := Option.some.inj hs
      exact hv_iret hx hb hrt hlk hr hS dX11_digitOf_43
theorem dX11_told_0 : decode cX11_told 0 = .ok (.aload_n 0, 1) := by decide +kernel
theorem dX11_told_1 : decode cX11_told 1 = .ok (.getfield 167, 3) := by decide +kernel
theorem dX11_told_4 : decode cX11_told 4 = .ok (.iconst 0, 1) := by decide +kernel
theorem dX11_told_5 : decode cX11_told 5 = .ok (.aload_n 0, 1) := by decide +kernel
theorem dX11_told_6 : decode cX11_told 6 = .ok (.getfield 164, 3) := by decide +kernel
theorem dX11_told_9 : decode cX11_told 9 = .ok (.iconst 0, 1) := by decide +kernel
theorem dX11_told_10 : decode cX11_told 10 = .ok (.sipush 200, 3) := by decide +kernel
theorem dX11_told_13 : decode cX11_told 13 = .ok (.invokestatic 246, 3) := by decide +kernel
theorem dX11_told_16 : decode cX11_told 16 = .ok (.aload_n 0, 1) := by decide +kernel
theorem dX11_told_17 : decode cX11_told 17 = .ok (.iload_n 1, 1) := by decide +kernel
theorem dX11_told_18 : decode cX11_told 18 = .ok (.putfield 252, 3) := by decide +kernel
theorem dX11_told_21 : decode cX11_told 21 = .ok (.aload_n 0, 1) := by decide +kernel
theorem dX11_told_22 : decode cX11_told 22 = .ok (.iload_n 2, 1) := by decide +kernel
theorem dX11_told_23 : decode cX11_told 23 = .ok (.putfield 255, 3) := by decide +kernel
theorem dX11_told_26 : decode cX11_told 26 = .ok (.aload_n 0, 1) := by decide +kernel
theorem dX11_told_27 : decode cX11_told 27 = .ok (.getfield 252, 3) := by decide +kernel
theorem dX11_told_30 : decode cX11_told 30 = .ok (.aload_n 0, 1) := by decide +kernel
theorem dX11_told_31 : decode cX11_told 31 = .ok (.getfield 255, 3) := by decide +kernel
theorem dX11_told_34 : decode cX11_told 34 = .ok (.iadd, 1) := by decide +kernel
theorem dX11_told_35 : decode cX11_told 35 = .ok (.ireturn, 1) := by decide +kernel
def zs_X11_told (h : AH) (u0 : Nat) (u1 : Int32) (u2 : Int32) : Option (Int32 × AH) :=
  (gR h u0 11 19).bind fun x1 => (gR h u0 11 18).bind fun x2 => (cpI h x1 ((0 : Int32)) x2 ((0 : Int32)) ((200 : Int32))).bind fun g3 => (pV g3 u0 11 21 (.int u1)).bind fun g4 => (pV g4 u0 11 22 (.int u2)).bind fun g5 => (gI g5 u0 11 21).bind fun x6 => (gI g5 u0 11 22).bind fun x7 => some (x6 + x7, g5)
set_option maxRecDepth 100000 in
set_option maxHeartbeats 4000000 in
theorem zm_X11_told (l : Launch) (D : hG) (z : Nat) {h : AH} {u0 : Nat} {u1 : Int32} {u2 : Int32} {r : Int32} {h' : AH} (hs : zs_X11_told h u0 u1 u2 = some (r, h')) : hC l D z yX11_told cX11_told 3 (Option.some Jvm.ClassFile.FieldType.int) 1 48 0 0 [.ref u0, .int u1, .int u2] h h' (some (.int r)) := by
  refine hC_of (by decide) (Nat.le_of_ble_eq_true rfl) ?_
  intro p e s m below meth c hx hb hml hrt hlk hown hnm hts hk hr hz ls hl
  replace hown : s.vm.findClass RX11 = some m.cls := hown
  replace hl : lv_has ls 3 [(0, .ref u0), (1, .int u1), (2, .int u2)] := hl
  have hS : va_S (hA z) s.heap s.heap [] := va_S.rf
  suffices hgo : ∀ (H : Heap) (locs : List Loc), hR D z h H → va_S (hA z) s.heap H locs → W p l e ({ frames := 1, cells := 0, slots := 0, locals := 48 } : Room) s m ([.ref u0, .int u1, .int u2] : List Value).toArray below meth c H locs 0 0 (MQ below (hQ D z h' (some (.int r))) ([.ref u0, .int u1, .int u2] : List Value).toArray s 0 0 (hA z)) (F0 m 0 ls []) from hgo _ _ hr hS
  clear hr hS
  intro H locs hr hS
  unfold zs_X11_told at hs
  refine lv_aload_n hx hb dX11_told_0 rfl (lv_at hl 0 rfl) ?_
  obtain ⟨x1, ex1, hs⟩ := bi_inv hs
  refine hv_gR (C := RX11) (T := TX11) (N := 23) (ci := 11) hx hb hts inX11 hown hk hr rfl 19 (by decide) (hts _ tw_901) ex1 dX11_told_1 ?_
  refine lv_iconst (v := 0) hx hb dX11_told_4 (by decide) ?_
  refine lv_aload_n hx hb dX11_told_5 rfl (lv_at hl 0 rfl) ?_
  obtain ⟨x2, ex2, hs⟩ := bi_inv hs
  refine hv_gR (C := RX11) (T := TX11) (N := 23) (ci := 11) hx hb hts inX11 hown hk hr rfl 18 (by decide) (hts _ tw_900) ex2 dX11_told_6 ?_
  refine lv_iconst (v := 0) hx hb dX11_told_9 (by decide) ?_
  refine lv_sipush (v := 200) hx hb dX11_told_10 (by decide) ?_
  obtain ⟨g3, eg3, hs⟩ := bi_inv hs
  refine hv_cp hx hb (hml.trans hl.1.symm) hown (hts _ tw_1212) (hts _ tw_881) (hts _ tw_880) (hts _ tw_13) hk hr hS eg3 (by decide) (Nat.le_of_ble_eq_true rfl) dX11_told_13 (fun H locs hr hS => ?_)
  refine lv_aload_n hx hb dX11_told_16 rfl (lv_at hl 0 rfl) ?_
  refine lv_iload_n hx hb dX11_told_17 rfl (lv_at hl 1 rfl) ?_
  obtain ⟨g4, eg4, hs⟩ := bi_inv hs
  refine hv_pV (C := RX11) (T := TX11) (N := 23) (ci := 11) hx hb hts inX11 tyX11 tyX11_ok nmX11 hown hk hr hS rfl 21 (by decide) (hts _ tw_903) rfl rfl rfl eg4 dX11_told_18 (fun H locs hr hS => ?_)
  refine lv_aload_n hx hb dX11_told_21 rfl (lv_at hl 0 rfl) ?_
  refine lv_iload_n hx hb dX11_told_22 rfl (lv_at hl 2 rfl) ?_
  obtain ⟨g5, eg5, hs⟩ := bi_inv hs
  refine hv_pV (C := RX11) (T := TX11) (N := 23) (ci := 11) hx hb hts inX11 tyX11 tyX11_ok nmX11 hown hk hr hS rfl 22 (by decide) (hts _ tw_904) rfl rfl rfl eg5 dX11_told_23 (fun H locs hr hS => ?_)
  refine lv_aload_n hx hb dX11_told_26 rfl (lv_at hl 0 rfl) ?_
  obtain ⟨x6, ex6, hs⟩ := bi_inv hs
  refine hv_gI (C := RX11) (T := TX11) (N := 23) (ci := 11) hx hb hts inX11 hown hk hr rfl 21 (by decide) (hts _ tw_903) ex6 dX11_told_27 ?_
  refine lv_aload_n hx hb dX11_told_30 rfl (lv_at hl 0 rfl) ?_
  obtain ⟨x7, ex7, hs⟩ := bi_inv hs
  refine hv_gI (C := RX11) (T := TX11) (N := 23) (ci := 11) hx hb hts inX11 hown hk hr rfl 22 (by decide) (hts _ tw_904) ex7 dX11_told_31 ?_
  refine lv_iadd hx hb dX11_told_34 ?_
  obtain ⟨rfl, rfl⟩ := Prod.mk.inj (Option.some.inj hs)
  exact hv_iret hx hb hrt hlk hr hS dX11_told_35
theorem dX11_digits_0 : decode cX11_digits 0 = .ok (.aload_n 0, 1) := by decide +kernel
theorem dX11_digits_1 : decode cX11_digits 1 = .ok (.iload_n 1, 1) := by decide +kernel
theorem dX11_digits_2 : decode cX11_digits 2 = .ok (.invokevirtual 236, 3) := by decide +kernel
theorem dX11_digits_5 : decode cX11_digits 5 = .ok (.ifCond .eq 14, 3) := by decide +kernel
theorem dX11_digits_8 : decode cX11_digits 8 = .ok (.iload_n 2, 1) := by decide +kernel
theorem dX11_digits_9 : decode cX11_digits 9 = .ok (.iconst 2, 1) := by decide +kernel
theorem dX11_digits_10 : decode cX11_digits 10 = .ok (.if_icmp .lt 9, 3) := by decide +kernel
theorem dX11_digits_13 : decode cX11_digits 13 = .ok (.iload_n 2, 1) := by decide +kernel
theorem dX11_digits_14 : decode cX11_digits 14 = .ok (.bipush 36, 2) := by decide +kernel
theorem dX11_digits_16 : decode cX11_digits 16 = .ok (.if_icmp .le 5, 3) := by decide +kernel
theorem dX11_digits_19 : decode cX11_digits 19 = .ok (.iconst (-1), 1) := by decide +kernel
theorem dX11_digits_20 : decode cX11_digits 20 = .ok (.ireturn, 1) := by decide +kernel
theorem dX11_digits_21 : decode cX11_digits 21 = .ok (.aload_n 0, 1) := by decide +kernel
theorem dX11_digits_22 : decode cX11_digits 22 = .ok (.iload_n 2, 1) := by decide +kernel
theorem dX11_digits_23 : decode cX11_digits 23 = .ok (.i2l, 1) := by decide +kernel
theorem dX11_digits_24 : decode cX11_digits 24 = .ok (.invokevirtual 87, 3) := by decide +kernel
theorem dX11_digits_27 : decode cX11_digits 27 = .ok (.astore_n 3, 1) := by decide +kernel
theorem dX11_digits_28 : decode cX11_digits 28 = .ok (.aload_n 0, 1) := by decide +kernel
theorem dX11_digits_29 : decode cX11_digits 29 = .ok (.aload_n 0, 1) := by decide +kernel
theorem dX11_digits_30 : decode cX11_digits 30 = .ok (.getfield 145, 3) := by decide +kernel
theorem dX11_digits_33 : decode cX11_digits 33 = .ok (.iload_n 1, 1) := by decide +kernel
theorem dX11_digits_34 : decode cX11_digits 34 = .ok (.aaload, 1) := by decide +kernel
theorem dX11_digits_35 : decode cX11_digits 35 = .ok (.aload_n 0, 1) := by decide +kernel
theorem dX11_digits_36 : decode cX11_digits 36 = .ok (.getfield 148, 3) := by decide +kernel
theorem dX11_digits_39 : decode cX11_digits 39 = .ok (.iload_n 1, 1) := by decide +kernel
theorem dX11_digits_40 : decode cX11_digits 40 = .ok (.aaload, 1) := by decide +kernel
theorem dX11_digits_41 : decode cX11_digits 41 = .ok (.invokevirtual 110, 3) := by decide +kernel
theorem dX11_digits_44 : decode cX11_digits 44 = .ok (.aload_n 0, 1) := by decide +kernel
theorem dX11_digits_45 : decode cX11_digits 45 = .ok (.getfield 170, 3) := by decide +kernel
theorem dX11_digits_48 : decode cX11_digits 48 = .ok (.iconst 0, 1) := by decide +kernel
theorem dX11_digits_49 : decode cX11_digits 49 = .ok (.aaload, 1) := by decide +kernel
theorem dX11_digits_50 : decode cX11_digits 50 = .ok (.aload_n 0, 1) := by decide +kernel
theorem dX11_digits_51 : decode cX11_digits 51 = .ok (.getfield 84, 3) := by decide +kernel
theorem dX11_digits_54 : decode cX11_digits 54 = .ok (.invokevirtual 30, 3) := by decide +kernel
theorem dX11_digits_57 : decode cX11_digits 57 = .ok (.aload_n 0, 1) := by decide +kernel
theorem dX11_digits_58 : decode cX11_digits 58 = .ok (.getfield 7, 3) := by decide +kernel
theorem dX11_digits_61 : decode cX11_digits 61 = .ok (.istore 4, 2) := by decide +kernel
theorem dX11_digits_63 : decode cX11_digits 63 = .ok (.iconst 0, 1) := by decide +kernel
theorem dX11_digits_64 : decode cX11_digits 64 = .ok (.istore 5, 2) := by decide +kernel
theorem dX11_digits_66 : decode cX11_digits 66 = .ok (.iload 5, 2) := by decide +kernel
theorem dX11_digits_68 : decode cX11_digits 68 = .ok (.sipush 200, 3) := by decide +kernel
theorem dX11_digits_71 : decode cX11_digits 71 = .ok (.if_icmp .gt 160, 3) := by decide +kernel
theorem dX11_digits_74 : decode cX11_digits 74 = .ok (.aload_n 0, 1) := by decide +kernel
theorem dX11_digits_75 : decode cX11_digits 75 = .ok (.getfield 170, 3) := by decide +kernel
theorem dX11_digits_78 : decode cX11_digits 78 = .ok (.iload 5, 2) := by decide +kernel
theorem dX11_digits_80 : decode cX11_digits 80 = .ok (.aaload, 1) := by decide +kernel
theorem dX11_digits_81 : decode cX11_digits 81 = .ok (.invokevirtual 60, 3) := by decide +kernel
theorem dX11_digits_84 : decode cX11_digits 84 = .ok (.ifCond .eq 11, 3) := by decide +kernel
theorem dX11_digits_87 : decode cX11_digits 87 = .ok (.aload_n 0, 1) := by decide +kernel
theorem dX11_digits_88 : decode cX11_digits 88 = .ok (.iload 5, 2) := by decide +kernel
theorem dX11_digits_90 : decode cX11_digits 90 = .ok (.iconst 0, 1) := by decide +kernel
theorem dX11_digits_91 : decode cX11_digits 91 = .ok (.invokevirtual 243, 3) := by decide +kernel
theorem dX11_digits_94 : decode cX11_digits 94 = .ok (.ireturn, 1) := by decide +kernel
theorem dX11_digits_95 : decode cX11_digits 95 = .ok (.iconst 0, 1) := by decide +kernel
theorem dX11_digits_96 : decode cX11_digits 96 = .ok (.istore 6, 2) := by decide +kernel
theorem dX11_digits_98 : decode cX11_digits 98 = .ok (.iload 6, 2) := by decide +kernel
theorem dX11_digits_100 : decode cX11_digits 100 = .ok (.iload 5, 2) := by decide +kernel
theorem dX11_digits_102 : decode cX11_digits 102 = .ok (.if_icmp .ge 41, 3) := by decide +kernel
theorem dX11_digits_105 : decode cX11_digits 105 = .ok (.aload_n 0, 1) := by decide +kernel
theorem dX11_digits_106 : decode cX11_digits 106 = .ok (.getfield 170, 3) := by decide +kernel
theorem dX11_digits_109 : decode cX11_digits 109 = .ok (.iload 6, 2) := by decide +kernel
theorem dX11_digits_111 : decode cX11_digits 111 = .ok (.aaload, 1) := by decide +kernel
theorem dX11_digits_112 : decode cX11_digits 112 = .ok (.aload_n 0, 1) := by decide +kernel
theorem dX11_digits_113 : decode cX11_digits 113 = .ok (.getfield 170, 3) := by decide +kernel
theorem dX11_digits_116 : decode cX11_digits 116 = .ok (.iload 5, 2) := by decide +kernel
theorem dX11_digits_118 : decode cX11_digits 118 = .ok (.aaload, 1) := by decide +kernel
theorem dX11_digits_119 : decode cX11_digits 119 = .ok (.invokestatic 197, 3) := by decide +kernel
theorem dX11_digits_122 : decode cX11_digits 122 = .ok (.ifCond .ne 15, 3) := by decide +kernel
theorem dX11_digits_125 : decode cX11_digits 125 = .ok (.aload_n 0, 1) := by decide +kernel
theorem dX11_digits_126 : decode cX11_digits 126 = .ok (.iload 6, 2) := by decide +kernel
theorem dX11_digits_128 : decode cX11_digits 128 = .ok (.iload 5, 2) := by decide +kernel
theorem dX11_digits_130 : decode cX11_digits 130 = .ok (.iload 6, 2) := by decide +kernel
theorem dX11_digits_132 : decode cX11_digits 132 = .ok (.isub, 1) := by decide +kernel
theorem dX11_digits_133 : decode cX11_digits 133 = .ok (.invokevirtual 243, 3) := by decide +kernel
theorem dX11_digits_136 : decode cX11_digits 136 = .ok (.ireturn, 1) := by decide +kernel
theorem dX11_digits_137 : decode cX11_digits 137 = .ok (.iinc 6 1, 3) := by decide +kernel
theorem dX11_digits_140 : decode cX11_digits 140 = .ok (.goto (-42), 3) := by decide +kernel
theorem dX11_digits_143 : decode cX11_digits 143 = .ok (.iload 5, 2) := by decide +kernel
theorem dX11_digits_145 : decode cX11_digits 145 = .ok (.sipush 200, 3) := by decide +kernel
theorem dX11_digits_148 : decode cX11_digits 148 = .ok (.if_icmp .ge 77, 3) := by decide +kernel
theorem dX11_digits_151 : decode cX11_digits 151 = .ok (.aload_n 0, 1) := by decide +kernel
theorem dX11_digits_152 : decode cX11_digits 152 = .ok (.aload_n 0, 1) := by decide +kernel
theorem dX11_digits_153 : decode cX11_digits 153 = .ok (.aload_n 0, 1) := by decide +kernel
theorem dX11_digits_154 : decode cX11_digits 154 = .ok (.getfield 170, 3) := by decide +kernel
theorem dX11_digits_157 : decode cX11_digits 157 = .ok (.iload 5, 2) := by decide +kernel
theorem dX11_digits_159 : decode cX11_digits 159 = .ok (.aaload, 1) := by decide +kernel
theorem dX11_digits_160 : decode cX11_digits 160 = .ok (.aload_n 3, 1) := by decide +kernel
theorem dX11_digits_161 : decode cX11_digits 161 = .ok (.invokevirtual 122, 3) := by decide +kernel
theorem dX11_digits_164 : decode cX11_digits 164 = .ok (.aload_n 0, 1) := by decide +kernel
theorem dX11_digits_165 : decode cX11_digits 165 = .ok (.getfield 148, 3) := by decide +kernel
theorem dX11_digits_168 : decode cX11_digits 168 = .ok (.iload_n 1, 1) := by decide +kernel
theorem dX11_digits_169 : decode cX11_digits 169 = .ok (.aaload, 1) := by decide +kernel
theorem dX11_digits_170 : decode cX11_digits 170 = .ok (.invokevirtual 110, 3) := by decide +kernel
theorem dX11_digits_173 : decode cX11_digits 173 = .ok (.aload_n 0, 1) := by decide +kernel
theorem dX11_digits_174 : decode cX11_digits 174 = .ok (.getfield 167, 3) := by decide +kernel
theorem dX11_digits_177 : decode cX11_digits 177 = .ok (.iload 5, 2) := by decide +kernel
theorem dX11_digits_179 : decode cX11_digits 179 = .ok (.aload_n 0, 1) := by decide +kernel
theorem dX11_digits_180 : decode cX11_digits 180 = .ok (.getfield 78, 3) := by decide +kernel
theorem dX11_digits_183 : decode cX11_digits 183 = .ok (.invokevirtual 60, 3) := by decide +kernel
theorem dX11_digits_186 : decode cX11_digits 186 = .ok (.ifCond .eq 7, 3) := by decide +kernel
theorem dX11_digits_189 : decode cX11_digits 189 = .ok (.iconst 0, 1) := by decide +kernel
theorem dX11_digits_190 : decode cX11_digits 190 = .ok (.goto 12, 3) := by decide +kernel
theorem dX11_digits_193 : decode cX11_digits 193 = .ok (.aload_n 0, 1) := by decide +kernel
theorem dX11_digits_194 : decode cX11_digits 194 = .ok (.getfield 78, 3) := by decide +kernel
theorem dX11_digits_197 : decode cX11_digits 197 = .ok (.getfield 18, 3) := by decide +kernel
theorem dX11_digits_200 : decode cX11_digits 200 = .ok (.iconst 0, 1) := by decide +kernel
theorem dX11_digits_201 : decode cX11_digits 201 = .ok (.iaload, 1) := by decide +kernel
theorem dX11_digits_202 : decode cX11_digits 202 = .ok (.iastore, 1) := by decide +kernel
theorem dX11_digits_203 : decode cX11_digits 203 = .ok (.aload_n 0, 1) := by decide +kernel
theorem dX11_digits_204 : decode cX11_digits 204 = .ok (.getfield 170, 3) := by decide +kernel
theorem dX11_digits_207 : decode cX11_digits 207 = .ok (.iload 5, 2) := by decide +kernel
theorem dX11_digits_209 : decode cX11_digits 209 = .ok (.iconst 1, 1) := by decide +kernel
theorem dX11_digits_210 : decode cX11_digits 210 = .ok (.iadd, 1) := by decide +kernel
theorem dX11_digits_211 : decode cX11_digits 211 = .ok (.aaload, 1) := by decide +kernel
theorem dX11_digits_212 : decode cX11_digits 212 = .ok (.aload_n 0, 1) := by decide +kernel
theorem dX11_digits_213 : decode cX11_digits 213 = .ok (.getfield 84, 3) := by decide +kernel
theorem dX11_digits_216 : decode cX11_digits 216 = .ok (.invokevirtual 30, 3) := by decide +kernel
theorem dX11_digits_219 : decode cX11_digits 219 = .ok (.aload_n 0, 1) := by decide +kernel
theorem dX11_digits_220 : decode cX11_digits 220 = .ok (.iload 4, 2) := by decide +kernel
theorem dX11_digits_222 : decode cX11_digits 222 = .ok (.putfield 7, 3) := by decide +kernel
theorem dX11_digits_225 : decode cX11_digits 225 = .ok (.iinc 5 1, 3) := by decide +kernel
theorem dX11_digits_228 : decode cX11_digits 228 = .ok (.goto (-162), 3) := by decide +kernel
theorem dX11_digits_231 : decode cX11_digits 231 = .ok (.bipush (-4), 2) := by decide +kernel
theorem dX11_digits_233 : decode cX11_digits 233 = .ok (.ireturn, 1) := by decide +kernel
def zb_X11_digits_98 (h : AH) (w0 : Nat) (w1 : Int32) (w3 : Nat) (w4 : Int32) (w5 : Int32) (w6 : Int32) : Option ((Int32) ⊕ (Int32 ⊕ Unit)) :=
  (if w5 ≤ w6 then some (Sum.inr ((Sum.inr (())))) else (gR h w0 11 20).bind fun x28 => (aR h x28 5 w6).bind fun x29 => (gR h w0 11 20).bind fun x30 => (aR h x30 5 w5).bind fun x31 => (zs_X11_compare h x29 x31).bind fun x32 => (if x32 = 0 then some (Sum.inr ((Sum.inl w6))) else some (Sum.inl (w6 + (1 : Int32)))))
def zj_X11_digits_202 (w0 : Nat) (w1 : Int32) (w3 : Nat) (w4 : Int32) (g54 : AH) (y5_202 : Int32) (t0_202 : Int32) (t1_202 : Int32) (t2_202 : Nat) : Option ((AH × Int32) ⊕ ((AH × Int32) ⊕ (AH × Int32 × Int32) ⊕ AH)) :=
  (sI g54 t2_202 0 t1_202 t0_202).bind fun g55 => (gR g55 w0 11 20).bind fun x56 => (aR g55 x56 5 (y5_202 + ((1 : Int32)))).bind fun x57 => (gR g55 w0 11 6).bind fun x58 => (chk g55 x57 10).bind fun _ => (zs_X10_become g55 x57 x58).bind fun g60 => (pV g60 w0 11 2 (.int w4)).bind fun g61 => some (Sum.inl ((g61, y5_202 + (1 : Int32))))
def zb_X11_digits_66 (w0 : Nat) (w1 : Int32) (w3 : Nat) (w4 : Int32) (g20 : AH) (w5 : Int32) : Option ((AH × Int32) ⊕ ((AH × Int32) ⊕ (AH × Int32 × Int32) ⊕ AH)) :=
  (if (200 : Int32) < w5 then some (Sum.inr ((Sum.inr (Sum.inr (g20))))) else (gR g20 w0 11 20).bind fun x22 => (aR g20 x22 5 w5).bind fun x23 => (chk g20 x23 10).bind fun _ => (zs_X10_isZero g20 x23).bind fun x25 => (if x25 = 0 then (iter (fun q : Int32 => zb_X11_digits_98 g20 w0 w1 w3 w4 w5 q) FU ((0 : Int32))).bind fun r34 => (match r34 with | .inl r35 => some (Sum.inr ((Sum.inr (Sum.inl ((g20, w5, r35)))))) | .inr r36 => (if (200 : Int32) ≤ w5 then some (Sum.inl ((g20, w5 + (1 : Int32)))) else (gR g20 w0 11 20).bind fun x38 => (aR g20 x38 5 w5).bind fun x39 => (chk g20 w0 11).bind fun _ => (zs_X11_times g20 w0 x39 w3).bind fun x41 => (gR x41.2 w0 11 11).bind fun x42 => (aR x41.2 x42 5 w1).bind fun x43 => (chk x41.2 w0 11).bind fun _ => (zs_X11_divide x41.2 w0 x41.1 x43).bind fun g45 => (gR g45 w0 11 19).bind fun x46 => (gR g45 w0 11 5).bind fun x47 => (chk g45 x47 10).bind fun _ => (zs_X10_isZero g45 x47).bind fun x49 => (if x49 = 0 then (gR g45 w0 11 5).bind fun x51 => (gR g45 x51 10 2).bind fun x52 => (aI g45 x52 0 ((0 : Int32))).bind fun x53 => zj_X11_digits_202 w0 w1 w3 w4 g45 w5 x53 w5 x46 else zj_X11_digits_202 w0 w1 w3 w4 g45 w5 ((0 : Int32)) w5 x46))) else some (Sum.inr ((Sum.inl ((g20, w5)))))))
def zs_X11_digits (h : AH) (u0 : Nat) (u1 : Int32) (u2 : Int32) : Option (Int32 × AH) :=
  (chk h u0 11).bind fun _ => (zs_X11_isRatio h u0 u1).bind fun x2 => (if x2.1 = 0 then some ((-1 : Int32), x2.2) else (if u2 < (2 : Int32) then some ((-1 : Int32), x2.2) else (if u2 ≤ (36 : Int32) then (chk x2.2 u0 11).bind fun _ => (zs_X11_of x2.2 u0 u2.toInt64).bind fun x7 => (gR x7.2 u0 11 10).bind fun x8 => (aR x7.2 x8 5 u1).bind fun x9 => (gR x7.2 u0 11 11).bind fun x10 => (aR x7.2 x10 5 u1).bind fun x11 => (chk x7.2 u0 11).bind fun _ => (zs_X11_divide x7.2 u0 x9 x11).bind fun g13 => (gR g13 u0 11 20).bind fun x14 => (aR g13 x14 5 ((0 : Int32))).bind fun x15 => (gR g13 u0 11 6).bind fun x16 => (chk g13 x15 10).bind fun _ => (zs_X10_become g13 x15 x16).bind fun g18 => (gI g18 u0 11 2).bind fun x19 => (iter (fun q : AH × Int32 => zb_X11_digits_66 u0 u1 x7.1 x19 q.1 q.2) FU ((g18, (0 : Int32)))).bind fun r62 => (match r62 with | .inl r63 => (chk r63.1 u0 11).bind fun _ => (zs_X11_told r63.1 u0 r63.2 ((0 : Int32))).bind fun x65 => some (x65.1, x65.2) | .inr (.inl r66) => (chk r66.1 u0 11).bind fun _ => (zs_X11_told r66.1 u0 r66.2.2 (r66.2.1 - r66.2.2)).bind fun x68 => some (x68.1, x68.2) | .inr (.inr r69) => some ((-4 : Int32), r69)) else some ((-1 : Int32), x2.2))))
set_option maxRecDepth 100000 in
set_option maxHeartbeats 4000000 in
theorem zm_X11_digits (l : Launch) (D : hG) (z : Nat) {h : AH} {u0 : Nat} {u1 : Int32} {u2 : Int32} {r : Int32} {h' : AH} (hs : zs_X11_digits h u0 u1 u2 = some (r, h')) : hC l D z yX11_digits cX11_digits 7 (Option.some Jvm.ClassFile.FieldType.int) 5 141 0 0 [.ref u0, .int u1, .int u2] h h' (some (.int r)) := by
  refine hC_of (by decide) (Nat.le_of_ble_eq_true rfl) ?_
  intro p e s m below meth c hx hb hml hrt hlk hown hnm hts hk hr hz ls hl
  replace hown : s.vm.findClass RX11 = some m.cls := hown
  replace hl : lv_has ls 7 [(0, .ref u0), (1, .int u1), (2, .int u2)] := hl
  have hS : va_S (hA z) s.heap s.heap [] := va_S.rf
  suffices hgo : ∀ (H : Heap) (locs : List Loc), hR D z h H → va_S (hA z) s.heap H locs → W p l e ({ frames := 5, cells := 0, slots := 0, locals := 141 } : Room) s m ([.ref u0, .int u1, .int u2] : List Value).toArray below meth c H locs 0 0 (MQ below (hQ D z h' (some (.int r))) ([.ref u0, .int u1, .int u2] : List Value).toArray s 0 0 (hA z)) (F0 m 0 ls []) from hgo _ _ hr hS
  clear hr hS
  intro H locs hr hS
  unfold zs_X11_digits at hs
  refine lv_aload_n hx hb dX11_digits_0 rfl (lv_at hl 0 rfl) ?_
  refine lv_iload_n hx hb dX11_digits_1 rfl (lv_at hl 1 rfl) ?_
  obtain ⟨_, ex1, hs⟩ := bi_inv hs
  obtain ⟨x2, ex2, hs⟩ := bi_inv hs
  refine hv_V1 (n := 1) [.int u1] [] hx hb hml hown hts hk hr hz hS (zm_X11_isRatio l D z ex2) ex1 rfl tw_1184 tw_1186 ts_44 tw_11 tw_1187 (by decide +kernel) (by decide) ⟨(Nat.zero_le _), (Nat.zero_le _)⟩ rfl hl.1 (Nat.le_of_ble_eq_true rfl) dX11_digits_2 rfl (fun H locs hr hS => ?_)
  refine lv_if_eq (tgt := 19) hx hb dX11_digits_5 (by decide) (fun c3 => ?_) (fun c3 => ?_)
  · rw [if_pos c3] at hs
    refine lv_iconst (v := (-1)) hx hb dX11_digits_19 (by decide) ?_
    obtain ⟨rfl, rfl⟩ := Prod.mk.inj (Option.some.inj hs)
    exact hv_iret hx hb hrt hlk hr hS dX11_digits_20
  · rw [if_neg c3] at hs
    refine lv_iload_n hx hb dX11_digits_8 rfl (lv_at hl 2 rfl) ?_
    refine lv_iconst (v := 2) hx hb dX11_digits_9 (by decide) ?_
    refine lv_icmp_lt (tgt := 19) hx hb dX11_digits_10 (by decide) (fun c4 => ?_) (fun c4 => ?_)
    · rw [if_pos c4] at hs
      refine lv_iconst (v := (-1)) hx hb dX11_digits_19 (by decide) ?_
      obtain ⟨rfl, rfl⟩ := Prod.mk.inj (Option.some.inj hs)
      exact hv_iret hx hb hrt hlk hr hS dX11_digits_20
    · rw [if_neg c4] at hs
      refine lv_iload_n hx hb dX11_digits_13 rfl (lv_at hl 2 rfl) ?_
      refine lv_bipush (v := 36) hx hb dX11_digits_14 (by decide) ?_
      refine lv_icmp_le (tgt := 21) hx hb dX11_digits_16 (by decide) (fun c5 => ?_) (fun c5 => ?_)
      · rw [if_pos c5] at hs
        refine lv_aload_n hx hb dX11_digits_21 rfl (lv_at hl 0 rfl) ?_
        refine lv_iload_n hx hb dX11_digits_22 rfl (lv_at hl 2 rfl) ?_
        refine lv_i2l hx hb dX11_digits_23 rfl ?_
        obtain ⟨_, ex6, hs⟩ := bi_inv hs
        obtain ⟨x7, ex7, hs⟩ := bi_inv hs
        refine hv_V1 (n := 1) [.long u2.toInt64] [] hx hb hml hown hts hk hr hz hS (zm_X11_of l D z ex7) ex6 rfl tw_960 tw_962 ts_22 tw_11 tw_963 (by decide +kernel) (by decide) ⟨(Nat.zero_le _), (Nat.zero_le _)⟩ rfl hl.1 (Nat.le_of_ble_eq_true rfl) dX11_digits_24 rfl (fun H locs hr hS => ?_)
        refine lv_astore_n (lv' := [(3, .ref x7.1), (0, .ref u0), (1, .int u1), (2, .int u2)]) hx hb dX11_digits_27 rfl hl (by decide) rfl (fun ls hl => ?_)
        refine lv_aload_n hx hb dX11_digits_28 rfl (lv_at hl 1 rfl) ?_
        refine lv_aload_n hx hb dX11_digits_29 rfl (lv_at hl 1 rfl) ?_
        obtain ⟨x8, ex8, hs⟩ := bi_inv hs
        refine hv_gR (C := RX11) (T := TX11) (N := 23) (ci := 11) hx hb hts inX11 hown hk hr rfl 10 (by decide) (hts _ tw_892) ex8 dX11_digits_30 ?_
        refine lv_iload_n hx hb dX11_digits_33 rfl (lv_at hl 2 rfl) ?_
        obtain ⟨x9, ex9, hs⟩ := bi_inv hs
        refine hv_aR (kd := 5) hx hb hk hr rfl ex9 dX11_digits_34 ?_
        refine lv_aload_n hx hb dX11_digits_35 rfl (lv_at hl 1 rfl) ?_
        obtain ⟨x10, ex10, hs⟩ := bi_inv hs
        refine hv_gR (C := RX11) (T := TX11) (N := 23) (ci := 11) hx hb hts inX11 hown hk hr rfl 11 (by decide) (hts _ tw_893) ex10 dX11_digits_36 ?_
        refine lv_iload_n hx hb dX11_digits_39 rfl (lv_at hl 2 rfl) ?_
        obtain ⟨x11, ex11, hs⟩ := bi_inv hs
        refine hv_aR (kd := 5) hx hb hk hr rfl ex11 dX11_digits_40 ?_
        obtain ⟨_, ex12, hs⟩ := bi_inv hs
        obtain ⟨g13, eg13, hs⟩ := bi_inv hs
        refine hv_V0 (n := 2) [.ref x9, .ref x11] [] hx hb hml hown hts hk hr hz hS (zm_X11_divide l D z eg13) ex12 rfl tw_1040 tw_1042 ts_32 tw_11 tw_1043 (by decide +kernel) (by decide) ⟨(Nat.zero_le _), (Nat.zero_le _)⟩ rfl hl.1 (Nat.le_of_ble_eq_true rfl) dX11_digits_41 rfl (fun H locs hr hS => ?_)
        refine lv_aload_n hx hb dX11_digits_44 rfl (lv_at hl 1 rfl) ?_
        obtain ⟨x14, ex14, hs⟩ := bi_inv hs
        refine hv_gR (C := RX11) (T := TX11) (N := 23) (ci := 11) hx hb hts inX11 hown hk hr rfl 20 (by decide) (hts _ tw_902) ex14 dX11_digits_45 ?_
        refine lv_iconst (v := 0) hx hb dX11_digits_48 (by decide) ?_
        obtain ⟨x15, ex15, hs⟩ := bi_inv hs
        refine hv_aR (kd := 5) hx hb hk hr rfl ex15 dX11_digits_49 ?_
        refine lv_aload_n hx hb dX11_digits_50 rfl (lv_at hl 1 rfl) ?_
        obtain ⟨x16, ex16, hs⟩ := bi_inv hs
        refine hv_gR (C := RX11) (T := TX11) (N := 23) (ci := 11) hx hb hts inX11 hown hk hr rfl 6 (by decide) (hts _ tw_888) ex16 dX11_digits_51 ?_
        obtain ⟨_, ex17, hs⟩ := bi_inv hs
        obtain ⟨g18, eg18, hs⟩ := bi_inv hs
        refine hv_V0 (n := 1) [.ref x16] [] hx hb hml hown hts hk hr hz hS (zm_X10_become l D z eg18) ex17 rfl tw_875 tw_876 tw_877 tw_12 tw_878 (by decide +kernel) (by decide) ⟨(Nat.zero_le _), (Nat.zero_le _)⟩ rfl hl.1 (Nat.le_of_ble_eq_true rfl) dX11_digits_54 rfl (fun H locs hr hS => ?_)
        refine lv_aload_n hx hb dX11_digits_57 rfl (lv_at hl 1 rfl) ?_
        obtain ⟨x19, ex19, hs⟩ := bi_inv hs
        refine hv_gI (C := RX11) (T := TX11) (N := 23) (ci := 11) hx hb hts inX11 hown hk hr rfl 2 (by decide) (hts _ tw_884) ex19 dX11_digits_58 ?_
        refine lv_istore (lv' := [(4, .int x19), (3, .ref x7.1), (0, .ref u0), (1, .int u1), (2, .int u2)]) hx hb dX11_digits_61 hl (by decide) rfl (fun ls hl => ?_)
        refine lv_iconst (v := 0) hx hb dX11_digits_63 (by decide) ?_
        refine lv_istore (lv' := [(5, .int ((0 : Int32))), (4, .int x19), (3, .ref x7.1), (0, .ref u0), (1, .int u1), (2, .int u2)]) hx hb dX11_digits_64 hl (by decide) rfl (fun ls hl => ?_)
        obtain ⟨r62, er62, hs⟩ := bi_inv hs
        refine iter_W (fun (q : AH × Int32) => ∀ (H : Heap) (locs : List Loc) (ls : Array Slot), hR D z q.1 H → va_S (hA z) s.heap H locs → lv_has ls 7 [(0, .ref u0), (1, .int u1), (3, .ref x7.1), (4, .int x19), (5, .int q.2)] → W p l e ({ frames := 5, cells := 0, slots := 0, locals := 141 } : Room) s m ([.ref u0, .int u1, .int u2] : List Value).toArray below meth c H locs 0 0 (MQ below (hQ D z h' (some (.int r))) ([.ref u0, .int u1, .int u2] : List Value).toArray s 0 0 (hA z)) (F0 m 66 ls [])) (fun (x : (AH × Int32) ⊕ (AH × Int32 × Int32) ⊕ AH) => (Sum.elim (fun x => ∀ (H : Heap) (locs : List Loc) (ls : Array Slot), hR D z x.1 H → va_S (hA z) s.heap H locs → lv_has ls 7 [(0, .ref u0), (5, .int x.2)] → W p l e ({ frames := 5, cells := 0, slots := 0, locals := 141 } : Room) s m ([.ref u0, .int u1, .int u2] : List Value).toArray below meth c H locs 0 0 (MQ below (hQ D z h' (some (.int r))) ([.ref u0, .int u1, .int u2] : List Value).toArray s 0 0 (hA z)) (F0 m 87 ls [])) (Sum.elim (fun x => ∀ (H : Heap) (locs : List Loc) (ls : Array Slot), hR D z x.1 H → va_S (hA z) s.heap H locs → lv_has ls 7 [(0, .ref u0), (5, .int x.2.1), (6, .int x.2.2)] → W p l e ({ frames := 5, cells := 0, slots := 0, locals := 141 } : Room) s m ([.ref u0, .int u1, .int u2] : List Value).toArray below meth c H locs 0 0 (MQ below (hQ D z h' (some (.int r))) ([.ref u0, .int u1, .int u2] : List Value).toArray s 0 0 (hA z)) (F0 m 125 ls [])) (fun x => ∀ (H : Heap) (locs : List Loc) (ls : Array Slot), hR D z x H → va_S (hA z) s.heap H locs → lv_has ls 7 [] → W p l e ({ frames := 5, cells := 0, slots := 0, locals := 141 } : Room) s m ([.ref u0, .int u1, .int u2] : List Value).toArray below meth c H locs 0 0 (MQ below (hQ D z h' (some (.int r))) ([.ref u0, .int u1, .int u2] : List Value).toArray s 0 0 (hA z)) (F0 m 231 ls [])))) x) ?_ FU _ r62 er62 ?_ H locs ls hr hS (lv_sub hl [3, 4, 2, 1, 0] rfl)
        · intro q o hs hcont hexit
          obtain ⟨g20, w5⟩ := q
          replace hs : zb_X11_digits_66 u0 u1 x7.1 x19 g20 w5 = some o := hs
          intro H locs ls hr hS hl
          have hJ202 : ∀ (g54 : AH) (y5_202 : Int32) (t0_202 : Int32) (t1_202 : Int32) (t2_202 : Nat) (H : Heap) (locs : List Loc) (ls : Array Slot), zj_X11_digits_202 u0 u1 x7.1 x19 g54 y5_202 t0_202 t1_202 t2_202 = some o → hR D z g54 H → va_S (hA z) s.heap H locs → lv_has ls 7 [(0, .ref u0), (1, .int u1), (3, .ref x7.1), (4, .int x19), (5, .int y5_202)] → W p l e ({ frames := 5, cells := 0, slots := 0, locals := 141 } : Room) s m ([.ref u0, .int u1, .int u2] : List Value).toArray below meth c H locs 0 0 (MQ below (hQ D z h' (some (.int r))) ([.ref u0, .int u1, .int u2] : List Value).toArray s 0 0 (hA z)) (F0 m 202 ls [.int t0_202, .int t1_202, .ref t2_202]) := by
            intro g54 y5_202 t0_202 t1_202 t2_202 H locs ls hs hr hS hl
            unfold zj_X11_digits_202 at hs
            obtain ⟨g55, eg55, hs⟩ := bi_inv hs
            refine hv_sI hx hb hk hr hS eg55 dX11_digits_202 (fun H locs hr hS => ?_)
            refine lv_aload_n hx hb dX11_digits_203 rfl (lv_at hl 0 rfl) ?_
            obtain ⟨x56, ex56, hs⟩ := bi_inv hs
            refine hv_gR (C := RX11) (T := TX11) (N := 23) (ci := 11) hx hb hts inX11 hown hk hr rfl 20 (by decide) (hts _ tw_902) ex56 dX11_digits_204 ?_
            refine lv_iload hx hb dX11_digits_207 (lv_at hl 4 rfl) ?_
            refine lv_iconst (v := 1) hx hb dX11_digits_209 (by decide) ?_
            refine lv_iadd hx hb dX11_digits_210 ?_
            obtain ⟨x57, ex57, hs⟩ := bi_inv hs
            refine hv_aR (kd := 5) hx hb hk hr rfl ex57 dX11_digits_211 ?_
            refine lv_aload_n hx hb dX11_digits_212 rfl (lv_at hl 0 rfl) ?_
            obtain ⟨x58, ex58, hs⟩ := bi_inv hs
            refine hv_gR (C := RX11) (T := TX11) (N := 23) (ci := 11) hx hb hts inX11 hown hk hr rfl 6 (by decide) (hts _ tw_888) ex58 dX11_digits_213 ?_
            obtain ⟨_, ex59, hs⟩ := bi_inv hs
            obtain ⟨g60, eg60, hs⟩ := bi_inv hs
            refine hv_V0 (n := 1) [.ref x58] [] hx hb hml hown hts hk hr hz hS (zm_X10_become l D z eg60) ex59 rfl tw_875 tw_876 tw_877 tw_12 tw_878 (by decide +kernel) (by decide) ⟨(Nat.zero_le _), (Nat.zero_le _)⟩ rfl hl.1 (Nat.le_of_ble_eq_true rfl) dX11_digits_216 rfl (fun H locs hr hS => ?_)
            refine lv_aload_n hx hb dX11_digits_219 rfl (lv_at hl 0 rfl) ?_
            refine lv_iload hx hb dX11_digits_220 (lv_at hl 3 rfl) ?_
            obtain ⟨g61, eg61, hs⟩ := bi_inv hs
            refine hv_pV (C := RX11) (T := TX11) (N := 23) (ci := 11) hx hb hts inX11 tyX11 tyX11_ok nmX11 hown hk hr hS rfl 2 (by decide) (hts _ tw_884) rfl rfl rfl eg61 dX11_digits_222 (fun H locs hr hS => ?_)
            refine lv_iinc (v := y5_202 + (1 : Int32)) (lv' := [(5, .int (y5_202 + (1 : Int32))), (0, .ref u0), (1, .int u1), (3, .ref x7.1), (4, .int x19)]) hx hb dX11_digits_225 hl (k := 4) rfl (ii_v _ (by decide)) (by decide) rfl (fun ls hl => ?_)
            refine lv_goto (tgt := 66) hx hb dX11_digits_228 (by decide) ?_
            obtain rfl := Option.some.inj hs
            exact hcont _ rfl H locs ls hr hS (lv_sub hl [1, 2, 3, 4, 0] rfl)
          unfold zb_X11_digits_66 at hs
          refine lv_iload hx hb dX11_digits_66 (lv_at hl 4 rfl) ?_
          refine lv_sipush (v := 200) hx hb dX11_digits_68 (by decide) ?_
          refine lv_icmp_gt (tgt := 231) hx hb dX11_digits_71 (by decide) (fun c21 => ?_) (fun c21 => ?_)
          · rw [if_pos c21] at hs
            obtain rfl := Option.some.inj hs
            exact hexit _ rfl H locs ls hr hS (lv_sub hl [] rfl)
          · rw [if_neg c21] at hs
            refine lv_aload_n hx hb dX11_digits_74 rfl (lv_at hl 0 rfl) ?_
            obtain ⟨x22, ex22, hs⟩ := bi_inv hs
            refine hv_gR (C := RX11) (T := TX11) (N := 23) (ci := 11) hx hb hts inX11 hown hk hr rfl 20 (by decide) (hts _ tw_902) ex22 dX11_digits_75 ?_
            refine lv_iload hx hb dX11_digits_78 (lv_at hl 4 rfl) ?_
            obtain ⟨x23, ex23, hs⟩ := bi_inv hs
            refine hv_aR (kd := 5) hx hb hk hr rfl ex23 dX11_digits_80 ?_
            obtain ⟨_, ex24, hs⟩ := bi_inv hs
            obtain ⟨x25, ex25, hs⟩ := bi_inv hs
            refine hv_V1 (n := 0) [] [] hx hb hml hown hts hk hr hz hS (zm_X10_isZero l D z ex25) ex24 rfl tw_1011 tw_1012 tw_1013 tw_12 tw_1014 (by decide +kernel) (by decide) ⟨(Nat.zero_le _), (Nat.zero_le _)⟩ rfl hl.1 (Nat.le_of_ble_eq_true rfl) dX11_digits_81 rfl (fun H locs hr hS => ?_)
            refine lv_if_eq (tgt := 95) hx hb dX11_digits_84 (by decide) (fun c26 => ?_) (fun c26 => ?_)
            · rw [if_pos c26] at hs
              refine lv_iconst (v := 0) hx hb dX11_digits_95 (by decide) ?_
              refine lv_istore (lv' := [(6, .int ((0 : Int32))), (0, .ref u0), (1, .int u1), (3, .ref x7.1), (4, .int x19), (5, .int w5)]) hx hb dX11_digits_96 hl (by decide) rfl (fun ls hl => ?_)
              obtain ⟨r34, er34, hs⟩ := bi_inv hs
              refine iter_W (fun (q : Int32) => ∀ (H : Heap) (locs : List Loc) (ls : Array Slot), hR D z g20 H → va_S (hA z) s.heap H locs → lv_has ls 7 [(0, .ref u0), (1, .int u1), (3, .ref x7.1), (4, .int x19), (5, .int w5), (6, .int q)] → W p l e ({ frames := 5, cells := 0, slots := 0, locals := 141 } : Room) s m ([.ref u0, .int u1, .int u2] : List Value).toArray below meth c H locs 0 0 (MQ below (hQ D z h' (some (.int r))) ([.ref u0, .int u1, .int u2] : List Value).toArray s 0 0 (hA z)) (F0 m 98 ls [])) (fun (x : Int32 ⊕ Unit) => (Sum.elim (fun x => ∀ (H : Heap) (locs : List Loc) (ls : Array Slot), hR D z g20 H → va_S (hA z) s.heap H locs → lv_has ls 7 [(0, .ref u0), (5, .int w5), (6, .int x)] → W p l e ({ frames := 5, cells := 0, slots := 0, locals := 141 } : Room) s m ([.ref u0, .int u1, .int u2] : List Value).toArray below meth c H locs 0 0 (MQ below (hQ D z h' (some (.int r))) ([.ref u0, .int u1, .int u2] : List Value).toArray s 0 0 (hA z)) (F0 m 125 ls [])) (fun x => ∀ (H : Heap) (locs : List Loc) (ls : Array Slot), hR D z g20 H → va_S (hA z) s.heap H locs → lv_has ls 7 [(0, .ref u0), (1, .int u1), (3, .ref x7.1), (4, .int x19), (5, .int w5)] → W p l e ({ frames := 5, cells := 0, slots := 0, locals := 141 } : Room) s m ([.ref u0, .int u1, .int u2] : List Value).toArray below meth c H locs 0 0 (MQ below (hQ D z h' (some (.int r))) ([.ref u0, .int u1, .int u2] : List Value).toArray s 0 0 (hA z)) (F0 m 143 ls []))) x) ?_ FU _ r34 er34 ?_ H locs ls hr hS (lv_sub hl [1, 2, 3, 4, 5, 0] rfl)
              · intro q o hs hcont hexit
                obtain ⟨w6, rfl⟩ : ∃ q2, q2 = q := ⟨_, rfl⟩
                replace hs : zb_X11_digits_98 g20 u0 u1 x7.1 x19 w5 w6 = some o := hs
                intro H locs ls hr hS hl
                unfold zb_X11_digits_98 at hs
                refine lv_iload hx hb dX11_digits_98 (lv_at hl 5 rfl) ?_
                refine lv_iload hx hb dX11_digits_100 (lv_at hl 4 rfl) ?_
                refine lv_icmp_ge (tgt := 143) hx hb dX11_digits_102 (by decide) (fun c27 => ?_) (fun c27 => ?_)
                · rw [if_pos c27] at hs
                  obtain rfl := Option.some.inj hs
                  exact hexit _ rfl H locs ls hr hS (lv_sub hl [0, 1, 2, 3, 4] rfl)
                · rw [if_neg c27] at hs
                  refine lv_aload_n hx hb dX11_digits_105 rfl (lv_at hl 0 rfl) ?_
                  obtain ⟨x28, ex28, hs⟩ := bi_inv hs
                  refine hv_gR (C := RX11) (T := TX11) (N := 23) (ci := 11) hx hb hts inX11 hown hk hr rfl 20 (by decide) (hts _ tw_902) ex28 dX11_digits_106 ?_
                  refine lv_iload hx hb dX11_digits_109 (lv_at hl 5 rfl) ?_
                  obtain ⟨x29, ex29, hs⟩ := bi_inv hs
                  refine hv_aR (kd := 5) hx hb hk hr rfl ex29 dX11_digits_111 ?_
                  refine lv_aload_n hx hb dX11_digits_112 rfl (lv_at hl 0 rfl) ?_
                  obtain ⟨x30, ex30, hs⟩ := bi_inv hs
                  refine hv_gR (C := RX11) (T := TX11) (N := 23) (ci := 11) hx hb hts inX11 hown hk hr rfl 20 (by decide) (hts _ tw_902) ex30 dX11_digits_113 ?_
                  refine lv_iload hx hb dX11_digits_116 (lv_at hl 4 rfl) ?_
                  obtain ⟨x31, ex31, hs⟩ := bi_inv hs
                  refine hv_aR (kd := 5) hx hb hk hr rfl ex31 dX11_digits_118 ?_
                  obtain ⟨x32, ex32, hs⟩ := bi_inv hs
                  refine hv_S1 (n := 2) [.ref x29, .ref x31] [] hx hb hml hown hts hk hr hz hS (zm_X11_compare l D z ex32) tw_1080 tw_1081 tw_11 tw_1082 (by decide +kernel) (by decide) ⟨(Nat.zero_le _), (Nat.zero_le _)⟩ rfl hl.1 (Nat.le_of_ble_eq_true rfl) dX11_digits_119 rfl (fun H locs hr hS => ?_)
                  refine lv_if_ne (tgt := 137) hx hb dX11_digits_122 (by decide) (fun c33 => ?_) (fun c33 => ?_)
                  · rw [if_neg c33] at hs
                    refine lv_iinc (v := w6 + (1 : Int32)) (lv' := [(6, .int (w6 + (1 : Int32))), (0, .ref u0), (1, .int u1), (3, .ref x7.1), (4, .int x19), (5, .int w5)]) hx hb dX11_digits_137 hl (k := 5) rfl (ii_v _ (by decide)) (by decide) rfl (fun ls hl => ?_)
                    refine lv_goto (tgt := 98) hx hb dX11_digits_140 (by decide) ?_
                    obtain rfl := Option.some.inj hs
                    exact hcont _ rfl H locs ls hr hS (lv_sub hl [1, 2, 3, 4, 5, 0] rfl)
                  · rw [if_pos c33] at hs
                    obtain rfl := Option.some.inj hs
                    exact hexit _ rfl H locs ls hr hS (lv_sub hl [0, 4, 5] rfl)
              · cases r34 with
                | inl r35 =>
                  intro H locs ls hr hS hl
                  replace hs := hs
                  dsimp only at hs
                  obtain rfl := Option.some.inj hs
                  exact hexit _ rfl H locs ls hr hS (lv_sub hl [0, 1, 2] rfl)
                | inr r36 =>
                  dsimp only at hs
                  intro H locs ls hr hS hl
                  refine lv_iload hx hb dX11_digits_143 (lv_at hl 4 rfl) ?_
                  refine lv_sipush (v := 200) hx hb dX11_digits_145 (by decide) ?_
                  refine lv_icmp_ge (tgt := 225) hx hb dX11_digits_148 (by decide) (fun c37 => ?_) (fun c37 => ?_)
                  · rw [if_pos c37] at hs
                    refine lv_iinc (v := w5 + (1 : Int32)) (lv' := [(5, .int (w5 + (1 : Int32))), (0, .ref u0), (1, .int u1), (3, .ref x7.1), (4, .int x19)]) hx hb dX11_digits_225 hl (k := 4) rfl (ii_v _ (by decide)) (by decide) rfl (fun ls hl => ?_)
                    refine lv_goto (tgt := 66) hx hb dX11_digits_228 (by decide) ?_
                    obtain rfl := Option.some.inj hs
                    exact hcont _ rfl H locs ls hr hS (lv_sub hl [1, 2, 3, 4, 0] rfl)
                  · rw [if_neg c37] at hs
                    refine lv_aload_n hx hb dX11_digits_151 rfl (lv_at hl 0 rfl) ?_
                    refine lv_aload_n hx hb dX11_digits_152 rfl (lv_at hl 0 rfl) ?_
                    refine lv_aload_n hx hb dX11_digits_153 rfl (lv_at hl 0 rfl) ?_
                    obtain ⟨x38, ex38, hs⟩ := bi_inv hs
                    refine hv_gR (C := RX11) (T := TX11) (N := 23) (ci := 11) hx hb hts inX11 hown hk hr rfl 20 (by decide) (hts _ tw_902) ex38 dX11_digits_154 ?_
                    refine lv_iload hx hb dX11_digits_157 (lv_at hl 4 rfl) ?_
                    obtain ⟨x39, ex39, hs⟩ := bi_inv hs
                    refine hv_aR (kd := 5) hx hb hk hr rfl ex39 dX11_digits_159 ?_
                    refine lv_aload_n hx hb dX11_digits_160 rfl (lv_at hl 2 rfl) ?_
                    obtain ⟨_, ex40, hs⟩ := bi_inv hs
                    obtain ⟨x41, ex41, hs⟩ := bi_inv hs
                    refine hv_V1 (n := 2) [.ref x39, .ref x7.1] [.ref u0] hx hb hml hown hts hk hr hz hS (zm_X11_times l D z ex41) ex40 rfl tw_1003 tw_1005 ts_26 tw_11 tw_1006 (by decide +kernel) (by decide) ⟨(Nat.zero_le _), (Nat.zero_le _)⟩ rfl hl.1 (Nat.le_of_ble_eq_true rfl) dX11_digits_161 rfl (fun H locs hr hS => ?_)
                    refine lv_aload_n hx hb dX11_digits_164 rfl (lv_at hl 0 rfl) ?_
                    obtain ⟨x42, ex42, hs⟩ := bi_inv hs
                    refine hv_gR (C := RX11) (T := TX11) (N := 23) (ci := 11) hx hb hts inX11 hown hk hr rfl 11 (by decide) (hts _ tw_893) ex42 dX11_digits_165 ?_
                    refine lv_iload_n hx hb dX11_digits_168 rfl (lv_at hl 1 rfl) ?_
                    obtain ⟨x43, ex43, hs⟩ := bi_inv hs
                    refine hv_aR (kd := 5) hx hb hk hr rfl ex43 dX11_digits_169 ?_
                    obtain ⟨_, ex44, hs⟩ := bi_inv hs
                    obtain ⟨g45, eg45, hs⟩ := bi_inv hs
                    refine hv_V0 (n := 2) [.ref x41.1, .ref x43] [] hx hb hml hown hts hk hr hz hS (zm_X11_divide l D z eg45) ex44 rfl tw_1040 tw_1042 ts_32 tw_11 tw_1043 (by decide +kernel) (by decide) ⟨(Nat.zero_le _), (Nat.zero_le _)⟩ rfl hl.1 (Nat.le_of_ble_eq_true rfl) dX11_digits_170 rfl (fun H locs hr hS => ?_)
                    refine lv_aload_n hx hb dX11_digits_173 rfl (lv_at hl 0 rfl) ?_
                    obtain ⟨x46, ex46, hs⟩ := bi_inv hs
                    refine hv_gR (C := RX11) (T := TX11) (N := 23) (ci := 11) hx hb hts inX11 hown hk hr rfl 19 (by decide) (hts _ tw_901) ex46 dX11_digits_174 ?_
                    refine lv_iload hx hb dX11_digits_177 (lv_at hl 4 rfl) ?_
                    refine lv_aload_n hx hb dX11_digits_179 rfl (lv_at hl 0 rfl) ?_
                    obtain ⟨x47, ex47, hs⟩ := bi_inv hs
                    refine hv_gR (C := RX11) (T := TX11) (N := 23) (ci := 11) hx hb hts inX11 hown hk hr rfl 5 (by decide) (hts _ tw_887) ex47 dX11_digits_180 ?_
                    obtain ⟨_, ex48, hs⟩ := bi_inv hs
                    obtain ⟨x49, ex49, hs⟩ := bi_inv hs
                    refine hv_V1 (n := 0) [] [.int w5, .ref x46] hx hb hml hown hts hk hr hz hS (zm_X10_isZero l D z ex49) ex48 rfl tw_1011 tw_1012 tw_1013 tw_12 tw_1014 (by decide +kernel) (by decide) ⟨(Nat.zero_le _), (Nat.zero_le _)⟩ rfl hl.1 (Nat.le_of_ble_eq_true rfl) dX11_digits_183 rfl (fun H locs hr hS => ?_)
                    refine lv_if_eq (tgt := 193) hx hb dX11_digits_186 (by decide) (fun c50 => ?_) (fun c50 => ?_)
                    · rw [if_pos c50] at hs
                      refine lv_aload_n hx hb dX11_digits_193 rfl (lv_at hl 0 rfl) ?_
                      obtain ⟨x51, ex51, hs⟩ := bi_inv hs
                      refine hv_gR (C := RX11) (T := TX11) (N := 23) (ci := 11) hx hb hts inX11 hown hk hr rfl 5 (by decide) (hts _ tw_887) ex51 dX11_digits_194 ?_
                      obtain ⟨x52, ex52, hs⟩ := bi_inv hs
                      refine hv_gR (C := RX10) (T := TX10) (N := 3) (ci := 10) hx hb hts inX10 hown hk hr rfl 2 (by decide) (hts _ tw_867) ex52 dX11_digits_197 ?_
                      refine lv_iconst (v := 0) hx hb dX11_digits_200 (by decide) ?_
                      obtain ⟨x53, ex53, hs⟩ := bi_inv hs
                      refine hv_aI hx hb hk hr ex53 dX11_digits_201 ?_
                      exact hJ202 g45 w5 x53 w5 x46 H locs ls hs hr hS (lv_sub hl [0, 1, 2, 3, 4] rfl)
                    · rw [if_neg c50] at hs
                      refine lv_iconst (v := 0) hx hb dX11_digits_189 (by decide) ?_
                      refine lv_goto (tgt := 202) hx hb dX11_digits_190 (by decide) ?_
                      exact hJ202 g45 w5 ((0 : Int32)) w5 x46 H locs ls hs hr hS (lv_sub hl [0, 1, 2, 3, 4] rfl)
            · rw [if_neg c26] at hs
              obtain rfl := Option.some.inj hs
              exact hexit _ rfl H locs ls hr hS (lv_sub hl [0, 4] rfl)
        · cases r62 with
          | inl r63 =>
            intro H locs ls hr hS hl
            replace hs := hs
            dsimp only at hs
            refine lv_aload_n hx hb dX11_digits_87 rfl (lv_at hl 0 rfl) ?_
            refine lv_iload hx hb dX11_digits_88 (lv_at hl 1 rfl) ?_
            refine lv_iconst (v := 0) hx hb dX11_digits_90 (by decide) ?_
            obtain ⟨_, ex64, hs⟩ := bi_inv hs
            obtain ⟨x65, ex65, hs⟩ := bi_inv hs
            refine hv_V1 (n := 2) [.int r63.2, .int ((0 : Int32))] [] hx hb hml hown hts hk hr hz hS (zm_X11_told l D z ex65) ex64 rfl tw_1208 tw_1210 ts_46 tw_11 tw_1211 (by decide +kernel) (by decide) ⟨(Nat.zero_le _), (Nat.zero_le _)⟩ rfl hl.1 (Nat.le_of_ble_eq_true rfl) dX11_digits_91 rfl (fun H locs hr hS => ?_)
            obtain ⟨rfl, rfl⟩ := Prod.mk.inj (Option.some.inj hs)
            exact hv_iret hx hb hrt hlk hr hS dX11_digits_94
          | inr q70 =>
            cases q70 with
            | inl r66 =>
              intro H locs ls hr hS hl
              replace hs := hs
              dsimp only at hs
              refine lv_aload_n hx hb dX11_digits_125 rfl (lv_at hl 0 rfl) ?_
              refine lv_iload hx hb dX11_digits_126 (lv_at hl 2 rfl) ?_
              refine lv_iload hx hb dX11_digits_128 (lv_at hl 1 rfl) ?_
              refine lv_iload hx hb dX11_digits_130 (lv_at hl 2 rfl) ?_
              refine lv_isub hx hb dX11_digits_132 ?_
              obtain ⟨_, ex67, hs⟩ := bi_inv hs
              obtain ⟨x68, ex68, hs⟩ := bi_inv hs
              refine hv_V1 (n := 2) [.int r66.2.2, .int (r66.2.1 - r66.2.2)] [] hx hb hml hown hts hk hr hz hS (zm_X11_told l D z ex68) ex67 rfl tw_1208 tw_1210 ts_46 tw_11 tw_1211 (by decide +kernel) (by decide) ⟨(Nat.zero_le _), (Nat.zero_le _)⟩ rfl hl.1 (Nat.le_of_ble_eq_true rfl) dX11_digits_133 rfl (fun H locs hr hS => ?_)
              obtain ⟨rfl, rfl⟩ := Prod.mk.inj (Option.some.inj hs)
              exact hv_iret hx hb hrt hlk hr hS dX11_digits_136
            | inr r69 =>
              dsimp only at hs
              intro H locs ls hr hS hl
              refine lv_bipush (v := (-4)) hx hb dX11_digits_231 (by decide) ?_
              obtain ⟨rfl, rfl⟩ := Prod.mk.inj (Option.some.inj hs)
              exact hv_iret hx hb hrt hlk hr hS dX11_digits_233
      · rw [if_neg c5] at hs
        refine lv_iconst (v := (-1)) hx hb dX11_digits_19 (by decide) ?_
        obtain ⟨rfl, rfl⟩ := Prod.mk.inj (Option.some.inj hs)
        exact hv_iret hx hb hrt hlk hr hS dX11_digits_20
theorem dX11_divisor_0 : decode cX11_divisor 0 = .ok (.aload_n 0, 1) := by decide +kernel
theorem dX11_divisor_1 : decode cX11_divisor 1 = .ok (.iload_n 1, 1) := by decide +kernel
theorem dX11_divisor_2 : decode cX11_divisor 2 = .ok (.invokevirtual 177, 3) := by decide +kernel
theorem dX11_divisor_5 : decode cX11_divisor 5 = .ok (.ifCond .eq 43, 3) := by decide +kernel
theorem dX11_divisor_8 : decode cX11_divisor 8 = .ok (.aload_n 0, 1) := by decide +kernel
theorem dX11_divisor_9 : decode cX11_divisor 9 = .ok (.iload_n 2, 1) := by decide +kernel
theorem dX11_divisor_10 : decode cX11_divisor 10 = .ok (.invokevirtual 177, 3) := by decide +kernel
theorem dX11_divisor_13 : decode cX11_divisor 13 = .ok (.ifCond .eq 35, 3) := by decide +kernel
theorem dX11_divisor_16 : decode cX11_divisor 16 = .ok (.aload_n 0, 1) := by decide +kernel
theorem dX11_divisor_17 : decode cX11_divisor 17 = .ok (.iload_n 3, 1) := by decide +kernel
theorem dX11_divisor_18 : decode cX11_divisor 18 = .ok (.invokevirtual 177, 3) := by decide +kernel
theorem dX11_divisor_21 : decode cX11_divisor 21 = .ok (.ifCond .eq 27, 3) := by decide +kernel
theorem dX11_divisor_24 : decode cX11_divisor 24 = .ok (.aload_n 0, 1) := by decide +kernel
theorem dX11_divisor_25 : decode cX11_divisor 25 = .ok (.iload_n 3, 1) := by decide +kernel
theorem dX11_divisor_26 : decode cX11_divisor 26 = .ok (.aload_n 0, 1) := by decide +kernel
theorem dX11_divisor_27 : decode cX11_divisor 27 = .ok (.aload_n 0, 1) := by decide +kernel
theorem dX11_divisor_28 : decode cX11_divisor 28 = .ok (.getfield 142, 3) := by decide +kernel
theorem dX11_divisor_31 : decode cX11_divisor 31 = .ok (.iload_n 1, 1) := by decide +kernel
theorem dX11_divisor_32 : decode cX11_divisor 32 = .ok (.aaload, 1) := by decide +kernel
theorem dX11_divisor_33 : decode cX11_divisor 33 = .ok (.aload_n 0, 1) := by decide +kernel
theorem dX11_divisor_34 : decode cX11_divisor 34 = .ok (.getfield 142, 3) := by decide +kernel
theorem dX11_divisor_37 : decode cX11_divisor 37 = .ok (.iload_n 2, 1) := by decide +kernel
theorem dX11_divisor_38 : decode cX11_divisor 38 = .ok (.aaload, 1) := by decide +kernel
theorem dX11_divisor_39 : decode cX11_divisor 39 = .ok (.invokevirtual 211, 3) := by decide +kernel
theorem dX11_divisor_42 : decode cX11_divisor 42 = .ok (.invokevirtual 180, 3) := by decide +kernel
theorem dX11_divisor_45 : decode cX11_divisor 45 = .ok (.goto 4, 3) := by decide +kernel
theorem dX11_divisor_48 : decode cX11_divisor 48 = .ok (.iconst (-1), 1) := by decide +kernel
theorem dX11_divisor_49 : decode cX11_divisor 49 = .ok (.ireturn, 1) := by decide +kernel
def zs_X11_divisor (h : AH) (u0 : Nat) (u1 : Int32) (u2 : Int32) (u3 : Int32) : Option (Int32 × AH) :=
  (chk h u0 11).bind fun _ => (zs_X11_isSlot h u0 u1).bind fun x2 => (if x2.1 = 0 then some ((-1 : Int32), x2.2) else (chk x2.2 u0 11).bind fun _ => (zs_X11_isSlot x2.2 u0 u2).bind fun x5 => (if x5.1 = 0 then some ((-1 : Int32), x5.2) else (chk x5.2 u0 11).bind fun _ => (zs_X11_isSlot x5.2 u0 u3).bind fun x8 => (if x8.1 = 0 then some ((-1 : Int32), x8.2) else (gR x8.2 u0 11 9).bind fun x10 => (aR x8.2 x10 5 u1).bind fun x11 => (gR x8.2 u0 11 9).bind fun x12 => (aR x8.2 x12 5 u2).bind fun x13 => (chk x8.2 u0 11).bind fun _ => (zs_X11_gcd x8.2 u0 x11 x13).bind fun x15 => (chk x15.2 u0 11).bind fun _ => (zs_X11_keep x15.2 u0 u3 x15.1).bind fun x17 => some (x17.1, x17.2))))
set_option maxRecDepth 100000 in
set_option maxHeartbeats 4000000 in
theorem zm_X11_divisor (l : Launch) (D : hG) (z : Nat) {h : AH} {u0 : Nat} {u1 : Int32} {u2 : Int32} {u3 : Int32} {r : Int32} {h' : AH} (hs : zs_X11_divisor h u0 u1 u2 u3 = some (r, h')) : hC l D z yX11_divisor cX11_divisor 4 (Option.some Jvm.ClassFile.FieldType.int) 6 164 0 0 [.ref u0, .int u1, .int u2, .int u3] h h' (some (.int r)) := by
  refine hC_of (by decide) (Nat.le_of_ble_eq_true rfl) ?_
  intro p e s m below meth c hx hb hml hrt hlk hown hnm hts hk hr hz ls hl
  replace hown : s.vm.findClass RX11 = some m.cls := hown
  replace hl : lv_has ls 4 [(0, .ref u0), (1, .int u1), (2, .int u2), (3, .int u3)] := hl
  have hS : va_S (hA z) s.heap s.heap [] := va_S.rf
  suffices hgo : ∀ (H : Heap) (locs : List Loc), hR D z h H → va_S (hA z) s.heap H locs → W p l e ({ frames := 6, cells := 0, slots := 0, locals := 164 } : Room) s m ([.ref u0, .int u1, .int u2, .int u3] : List Value).toArray below meth c H locs 0 0 (MQ below (hQ D z h' (some (.int r))) ([.ref u0, .int u1, .int u2, .int u3] : List Value).toArray s 0 0 (hA z)) (F0 m 0 ls []) from hgo _ _ hr hS
  clear hr hS
  intro H locs hr hS
  unfold zs_X11_divisor at hs
  refine lv_aload_n hx hb dX11_divisor_0 rfl (lv_at hl 0 rfl) ?_
  refine lv_iload_n hx hb dX11_divisor_1 rfl (lv_at hl 1 rfl) ?_
  obtain ⟨_, ex1, hs⟩ := bi_inv hs
  obtain ⟨x2, ex2, hs⟩ := bi_inv hs
  refine hv_V1 (n := 1) [.int u1] [] hx hb hml hown hts hk hr hz hS (zm_X11_isSlot l D z ex2) ex1 rfl tw_956 tw_958 ts_21 tw_11 tw_959 (by decide +kernel) (by decide) ⟨(Nat.zero_le _), (Nat.zero_le _)⟩ rfl hl.1 (Nat.le_of_ble_eq_true rfl) dX11_divisor_2 rfl (fun H locs hr hS => ?_)
  refine lv_if_eq (tgt := 48) hx hb dX11_divisor_5 (by decide) (fun c3 => ?_) (fun c3 => ?_)
  · rw [if_pos c3] at hs
    refine lv_iconst (v := (-1)) hx hb dX11_divisor_48 (by decide) ?_
    obtain ⟨rfl, rfl⟩ := Prod.mk.inj (Option.some.inj hs)
    exact hv_iret hx hb hrt hlk hr hS dX11_divisor_49
  · rw [if_neg c3] at hs
    refine lv_aload_n hx hb dX11_divisor_8 rfl (lv_at hl 0 rfl) ?_
    refine lv_iload_n hx hb dX11_divisor_9 rfl (lv_at hl 2 rfl) ?_
    obtain ⟨_, ex4, hs⟩ := bi_inv hs
    obtain ⟨x5, ex5, hs⟩ := bi_inv hs
    refine hv_V1 (n := 1) [.int u2] [] hx hb hml hown hts hk hr hz hS (zm_X11_isSlot l D z ex5) ex4 rfl tw_956 tw_958 ts_21 tw_11 tw_959 (by decide +kernel) (by decide) ⟨(Nat.zero_le _), (Nat.zero_le _)⟩ rfl hl.1 (Nat.le_of_ble_eq_true rfl) dX11_divisor_10 rfl (fun H locs hr hS => ?_)
    refine lv_if_eq (tgt := 48) hx hb dX11_divisor_13 (by decide) (fun c6 => ?_) (fun c6 => ?_)
    · rw [if_pos c6] at hs
      refine lv_iconst (v := (-1)) hx hb dX11_divisor_48 (by decide) ?_
      obtain ⟨rfl, rfl⟩ := Prod.mk.inj (Option.some.inj hs)
      exact hv_iret hx hb hrt hlk hr hS dX11_divisor_49
    · rw [if_neg c6] at hs
      refine lv_aload_n hx hb dX11_divisor_16 rfl (lv_at hl 0 rfl) ?_
      refine lv_iload_n hx hb dX11_divisor_17 rfl (lv_at hl 3 rfl) ?_
      obtain ⟨_, ex7, hs⟩ := bi_inv hs
      obtain ⟨x8, ex8, hs⟩ := bi_inv hs
      refine hv_V1 (n := 1) [.int u3] [] hx hb hml hown hts hk hr hz hS (zm_X11_isSlot l D z ex8) ex7 rfl tw_956 tw_958 ts_21 tw_11 tw_959 (by decide +kernel) (by decide) ⟨(Nat.zero_le _), (Nat.zero_le _)⟩ rfl hl.1 (Nat.le_of_ble_eq_true rfl) dX11_divisor_18 rfl (fun H locs hr hS => ?_)
      refine lv_if_eq (tgt := 48) hx hb dX11_divisor_21 (by decide) (fun c9 => ?_) (fun c9 => ?_)
      · rw [if_pos c9] at hs
        refine lv_iconst (v := (-1)) hx hb dX11_divisor_48 (by decide) ?_
        obtain ⟨rfl, rfl⟩ := Prod.mk.inj (Option.some.inj hs)
        exact hv_iret hx hb hrt hlk hr hS dX11_divisor_49
      · rw [if_neg c9] at hs
        refine lv_aload_n hx hb dX11_divisor_24 rfl (lv_at hl 0 rfl) ?_
        refine lv_iload_n hx hb dX11_divisor_25 rfl (lv_at hl 3 rfl) ?_
        refine lv_aload_n hx hb dX11_divisor_26 rfl (lv_at hl 0 rfl) ?_
        refine lv_aload_n hx hb dX11_divisor_27 rfl (lv_at hl 0 rfl) ?_
        obtain ⟨x10, ex10, hs⟩ := bi_inv hs
        refine hv_gR (C := RX11) (T := TX11) (N := 23) (ci := 11) hx hb hts inX11 hown hk hr rfl 9 (by decide) (hts _ tw_891) ex10 dX11_divisor_28 ?_
        refine lv_iload_n hx hb dX11_divisor_31 rfl (lv_at hl 1 rfl) ?_
        obtain ⟨x11, ex11, hs⟩ := bi_inv hs
        refine hv_aR (kd := 5) hx hb hk hr rfl ex11 dX11_divisor_32 ?_
        refine lv_aload_n hx hb dX11_divisor_33 rfl (lv_at hl 0 rfl) ?_
        obtain ⟨x12, ex12, hs⟩ := bi_inv hs
        refine hv_gR (C := RX11) (T := TX11) (N := 23) (ci := 11) hx hb hts inX11 hown hk hr rfl 9 (by decide) (hts _ tw_891) ex12 dX11_divisor_34 ?_
        refine lv_iload_n hx hb dX11_divisor_37 rfl (lv_at hl 2 rfl) ?_
        obtain ⟨x13, ex13, hs⟩ := bi_inv hs
        refine hv_aR (kd := 5) hx hb hk hr rfl ex13 dX11_divisor_38 ?_
        obtain ⟨_, ex14, hs⟩ := bi_inv hs
        obtain ⟨x15, ex15, hs⟩ := bi_inv hs
        refine hv_V1 (n := 2) [.ref x11, .ref x13] [.int u3, .ref u0] hx hb hml hown hts hk hr hz hS (zm_X11_gcd l D z ex15) ex14 rfl tw_1115 tw_1117 ts_39 tw_11 tw_1118 (by decide +kernel) (by decide) ⟨(Nat.zero_le _), (Nat.zero_le _)⟩ rfl hl.1 (Nat.le_of_ble_eq_true rfl) dX11_divisor_39 rfl (fun H locs hr hS => ?_)
        obtain ⟨_, ex16, hs⟩ := bi_inv hs
        obtain ⟨x17, ex17, hs⟩ := bi_inv hs
        refine hv_V1 (n := 2) [.int u3, .ref x15.1] [] hx hb hml hown hts hk hr hz hS (zm_X11_keep l D z ex17) ex16 rfl tw_973 tw_975 ts_24 tw_11 tw_976 (by decide +kernel) (by decide) ⟨(Nat.zero_le _), (Nat.zero_le _)⟩ rfl hl.1 (Nat.le_of_ble_eq_true rfl) dX11_divisor_42 rfl (fun H locs hr hS => ?_)
        refine lv_goto (tgt := 49) hx hb dX11_divisor_45 (by decide) ?_
        obtain ⟨rfl, rfl⟩ := Prod.mk.inj (Option.some.inj hs)
        exact hv_iret hx hb hrt hlk hr hS dX11_divisor_49
theorem dX11_feed_0 : decode cX11_feed 0 = .ok (.aload_n 0, 1) := by decide +kernel
theorem dX11_feed_1 : decode cX11_feed 1 = .ok (.iconst 0, 1) := by decide +kernel
theorem dX11_feed_2 : decode cX11_feed 2 = .ok (.putfield 1, 3) := by decide +kernel
theorem dX11_feed_5 : decode cX11_feed 5 = .ok (.iload_n 3, 1) := by decide +kernel
theorem dX11_feed_6 : decode cX11_feed 6 = .ok (.iconst 1, 1) := by decide +kernel
theorem dX11_feed_7 : decode cX11_feed 7 = .ok (.if_icmp .lt 9, 3) := by decide +kernel
theorem dX11_feed_10 : decode cX11_feed 10 = .ok (.iload_n 3, 1) := by decide +kernel
theorem dX11_feed_11 : decode cX11_feed 11 = .ok (.bipush 8, 2) := by decide +kernel
theorem dX11_feed_13 : decode cX11_feed 13 = .ok (.if_icmp .le 5, 3) := by decide +kernel
theorem dX11_feed_16 : decode cX11_feed 16 = .ok (.iconst (-1), 1) := by decide +kernel
theorem dX11_feed_17 : decode cX11_feed 17 = .ok (.ireturn, 1) := by decide +kernel
theorem dX11_feed_18 : decode cX11_feed 18 = .ok (.aload_n 0, 1) := by decide +kernel
theorem dX11_feed_19 : decode cX11_feed 19 = .ok (.getfield 184, 3) := by decide +kernel
theorem dX11_feed_22 : decode cX11_feed 22 = .ok (.iload_n 3, 1) := by decide +kernel
theorem dX11_feed_23 : decode cX11_feed 23 = .ok (.iadd, 1) := by decide +kernel
theorem dX11_feed_24 : decode cX11_feed 24 = .ok (.bipush 120, 2) := by decide +kernel
theorem dX11_feed_26 : decode cX11_feed 26 = .ok (.if_icmp .le 6, 3) := by decide +kernel
theorem dX11_feed_29 : decode cX11_feed 29 = .ok (.bipush (-5), 2) := by decide +kernel
theorem dX11_feed_31 : decode cX11_feed 31 = .ok (.ireturn, 1) := by decide +kernel
theorem dX11_feed_32 : decode cX11_feed 32 = .ok (.iload_n 3, 1) := by decide +kernel
theorem dX11_feed_33 : decode cX11_feed 33 = .ok (.iconst 1, 1) := by decide +kernel
theorem dX11_feed_34 : decode cX11_feed 34 = .ok (.isub, 1) := by decide +kernel
theorem dX11_feed_35 : decode cX11_feed 35 = .ok (.istore 4, 2) := by decide +kernel
theorem dX11_feed_37 : decode cX11_feed 37 = .ok (.iload 4, 2) := by decide +kernel
theorem dX11_feed_39 : decode cX11_feed 39 = .ok (.ifCond .lt 37, 3) := by decide +kernel
theorem dX11_feed_42 : decode cX11_feed 42 = .ok (.aload_n 0, 1) := by decide +kernel
theorem dX11_feed_43 : decode cX11_feed 43 = .ok (.getfield 151, 3) := by decide +kernel
theorem dX11_feed_46 : decode cX11_feed 46 = .ok (.aload_n 0, 1) := by decide +kernel
theorem dX11_feed_47 : decode cX11_feed 47 = .ok (.getfield 184, 3) := by decide +kernel
theorem dX11_feed_50 : decode cX11_feed 50 = .ok (.lload_n 1, 1) := by decide +kernel
theorem dX11_feed_51 : decode cX11_feed 51 = .ok (.bipush 8, 2) := by decide +kernel
theorem dX11_feed_53 : decode cX11_feed 53 = .ok (.iload 4, 2) := by decide +kernel
theorem dX11_feed_55 : decode cX11_feed 55 = .ok (.imul, 1) := by decide +kernel
theorem dX11_feed_56 : decode cX11_feed 56 = .ok (.lshr, 1) := by decide +kernel
theorem dX11_feed_57 : decode cX11_feed 57 = .ok (.l2i, 1) := by decide +kernel
theorem dX11_feed_58 : decode cX11_feed 58 = .ok (.i2b, 1) := by decide +kernel
theorem dX11_feed_59 : decode cX11_feed 59 = .ok (.bastore, 1) := by decide +kernel
theorem dX11_feed_60 : decode cX11_feed 60 = .ok (.aload_n 0, 1) := by decide +kernel
theorem dX11_feed_61 : decode cX11_feed 61 = .ok (.dup, 1) := by decide +kernel
theorem dX11_feed_62 : decode cX11_feed 62 = .ok (.getfield 184, 3) := by decide +kernel
theorem dX11_feed_65 : decode cX11_feed 65 = .ok (.iconst 1, 1) := by decide +kernel
theorem dX11_feed_66 : decode cX11_feed 66 = .ok (.iadd, 1) := by decide +kernel
theorem dX11_feed_67 : decode cX11_feed 67 = .ok (.putfield 184, 3) := by decide +kernel
theorem dX11_feed_70 : decode cX11_feed 70 = .ok (.iinc 4 (-1), 3) := by decide +kernel
theorem dX11_feed_73 : decode cX11_feed 73 = .ok (.goto (-36), 3) := by decide +kernel
theorem dX11_feed_76 : decode cX11_feed 76 = .ok (.aload_n 0, 1) := by decide +kernel
theorem dX11_feed_77 : decode cX11_feed 77 = .ok (.getfield 184, 3) := by decide +kernel
theorem dX11_feed_80 : decode cX11_feed 80 = .ok (.ireturn, 1) := by decide +kernel
def zb_X11_feed_37 (w0 : Nat) (w1 : Int64) (g7 : AH) (w4 : Int32) : Option ((AH × Int32) ⊕ (AH)) :=
  (if w4 < 0 then some (Sum.inr g7) else (gR g7 w0 11 12).bind fun x9 => (gI g7 w0 11 13).bind fun x10 => (sI g7 x9 2 x10 ((((w1 >>> ((((8 : Int32)) * w4).toInt64 &&& 63)).toInt32).toInt8.toInt32).toInt8.toInt32)).bind fun g11 => (gI g11 w0 11 13).bind fun x12 => (pV g11 w0 11 13 (.int (x12 + ((1 : Int32))))).bind fun g13 => some (Sum.inl ((g13, w4 + (-1 : Int32)))))
def zs_X11_feed (h : AH) (u0 : Nat) (u1 : Int64) (u3 : Int32) : Option (Int32 × AH) :=
  (pV h u0 11 0 (.int ((0 : Int32)))).bind fun g1 => (if u3 < (1 : Int32) then some ((-1 : Int32), g1) else (if u3 ≤ (8 : Int32) then (gI g1 u0 11 13).bind fun x4 => (if x4 + u3 ≤ (120 : Int32) then lt_ (u3 - ((1 : Int32))) fun x6 => (iter (fun q : AH × Int32 => zb_X11_feed_37 u0 u1 q.1 q.2) FU ((g1, x6))).bind fun r14 => (gI r14 u0 11 13).bind fun x15 => some (x15, r14) else some ((-5 : Int32), g1)) else some ((-1 : Int32), g1)))
set_option maxRecDepth 100000 in
set_option maxHeartbeats 4000000 in
theorem zm_X11_feed (l : Launch) (D : hG) (z : Nat) {h : AH} {u0 : Nat} {u1 : Int64} {u3 : Int32} {r : Int32} {h' : AH} (hs : zs_X11_feed h u0 u1 u3 = some (r, h')) : hC l D z yX11_feed cX11_feed 5 (Option.some Jvm.ClassFile.FieldType.int) 0 0 0 0 [.ref u0, .long u1, .int u3] h h' (some (.int r)) := by
  refine hC_of (by decide) (Nat.le_of_ble_eq_true rfl) ?_
  intro p e s m below meth c hx hb hml hrt hlk hown hnm hts hk hr hz ls hl
  replace hown : s.vm.findClass RX11 = some m.cls := hown
  replace hl : lv_has ls 5 [(0, .ref u0), (1, .long u1), (3, .int u3)] := hl
  have hS : va_S (hA z) s.heap s.heap [] := va_S.rf
  suffices hgo : ∀ (H : Heap) (locs : List Loc), hR D z h H → va_S (hA z) s.heap H locs → W p l e ({ frames := 0, cells := 0, slots := 0, locals := 0 } : Room) s m ([.ref u0, .long u1, .int u3] : List Value).toArray below meth c H locs 0 0 (MQ below (hQ D z h' (some (.int r))) ([.ref u0, .long u1, .int u3] : List Value).toArray s 0 0 (hA z)) (F0 m 0 ls []) from hgo _ _ hr hS
  clear hr hS
  intro H locs hr hS
  unfold zs_X11_feed at hs
  refine lv_aload_n hx hb dX11_feed_0 rfl (lv_at hl 0 rfl) ?_
  refine lv_iconst (v := 0) hx hb dX11_feed_1 (by decide) ?_
  obtain ⟨g1, eg1, hs⟩ := bi_inv hs
  refine hv_pV (C := RX11) (T := TX11) (N := 23) (ci := 11) hx hb hts inX11 tyX11 tyX11_ok nmX11 hown hk hr hS rfl 0 (by decide) (hts _ tw_882) rfl rfl rfl eg1 dX11_feed_2 (fun H locs hr hS => ?_)
  refine lv_iload_n hx hb dX11_feed_5 rfl (lv_at hl 2 rfl) ?_
  refine lv_iconst (v := 1) hx hb dX11_feed_6 (by decide) ?_
  refine lv_icmp_lt (tgt := 16) hx hb dX11_feed_7 (by decide) (fun c2 => ?_) (fun c2 => ?_)
  · rw [if_pos c2] at hs
    refine lv_iconst (v := (-1)) hx hb dX11_feed_16 (by decide) ?_
    obtain ⟨rfl, rfl⟩ := Prod.mk.inj (Option.some.inj hs)
    exact hv_iret hx hb hrt hlk hr hS dX11_feed_17
  · rw [if_neg c2] at hs
    refine lv_iload_n hx hb dX11_feed_10 rfl (lv_at hl 2 rfl) ?_
    refine lv_bipush (v := 8) hx hb dX11_feed_11 (by decide) ?_
    refine lv_icmp_le (tgt := 18) hx hb dX11_feed_13 (by decide) (fun c3 => ?_) (fun c3 => ?_)
    · rw [if_pos c3] at hs
      refine lv_aload_n hx hb dX11_feed_18 rfl (lv_at hl 0 rfl) ?_
      obtain ⟨x4, ex4, hs⟩ := bi_inv hs
      refine hv_gI (C := RX11) (T := TX11) (N := 23) (ci := 11) hx hb hts inX11 hown hk hr rfl 13 (by decide) (hts _ tw_895) ex4 dX11_feed_19 ?_
      refine lv_iload_n hx hb dX11_feed_22 rfl (lv_at hl 2 rfl) ?_
      refine lv_iadd hx hb dX11_feed_23 ?_
      refine lv_bipush (v := 120) hx hb dX11_feed_24 (by decide) ?_
      refine lv_icmp_le (tgt := 32) hx hb dX11_feed_26 (by decide) (fun c5 => ?_) (fun c5 => ?_)
      · rw [if_pos c5] at hs
        refine lv_iload_n hx hb dX11_feed_32 rfl (lv_at hl 2 rfl) ?_
        refine lv_iconst (v := 1) hx hb dX11_feed_33 (by decide) ?_
        refine lv_isub hx hb dX11_feed_34 ?_
        refine lv_topi (fun x6 ex6 => ?_)
        replace hs := lt_inv hs x6 ex6
        refine lv_istore (lv' := [(4, .int x6), (0, .ref u0), (1, .long u1), (3, .int u3)]) hx hb dX11_feed_35 hl (by decide) rfl (fun ls hl => ?_)
        obtain ⟨r14, er14, hs⟩ := bi_inv hs
        refine iter_W (fun (q : AH × Int32) => ∀ (H : Heap) (locs : List Loc) (ls : Array Slot), hR D z q.1 H → va_S (hA z) s.heap H locs → lv_has ls 5 [(0, .ref u0), (1, .long u1), (4, .int q.2)] → W p l e ({ frames := 0, cells := 0, slots := 0, locals := 0 } : Room) s m ([.ref u0, .long u1, .int u3] : List Value).toArray below meth c H locs 0 0 (MQ below (hQ D z h' (some (.int r))) ([.ref u0, .long u1, .int u3] : List Value).toArray s 0 0 (hA z)) (F0 m 37 ls [])) (fun (x : AH) => ∀ (H : Heap) (locs : List Loc) (ls : Array Slot), hR D z x H → va_S (hA z) s.heap H locs → lv_has ls 5 [(0, .ref u0)] → W p l e ({ frames := 0, cells := 0, slots := 0, locals := 0 } : Room) s m ([.ref u0, .long u1, .int u3] : List Value).toArray below meth c H locs 0 0 (MQ below (hQ D z h' (some (.int r))) ([.ref u0, .long u1, .int u3] : List Value).toArray s 0 0 (hA z)) (F0 m 76 ls [])) ?_ FU _ r14 er14 ?_ H locs ls hr hS (lv_sub hl [1, 2, 0] rfl)
        · intro q o hs hcont hexit
          obtain ⟨g7, w4⟩ := q
          replace hs : zb_X11_feed_37 u0 u1 g7 w4 = some o := hs
          intro H locs ls hr hS hl
          unfold zb_X11_feed_37 at hs
          refine lv_iload hx hb dX11_feed_37 (lv_at hl 2 rfl) ?_
          refine lv_if_lt (tgt := 76) hx hb dX11_feed_39 (by decide) (fun c8 => ?_) (fun c8 => ?_)
          · rw [if_pos c8] at hs
            obtain rfl := Option.some.inj hs
            exact hexit _ rfl H locs ls hr hS (lv_sub hl [0] rfl)
          · rw [if_neg c8] at hs
            refine lv_aload_n hx hb dX11_feed_42 rfl (lv_at hl 0 rfl) ?_
            obtain ⟨x9, ex9, hs⟩ := bi_inv hs
            refine hv_gR (C := RX11) (T := TX11) (N := 23) (ci := 11) hx hb hts inX11 hown hk hr rfl 12 (by decide) (hts _ tw_894) ex9 dX11_feed_43 ?_
            refine lv_aload_n hx hb dX11_feed_46 rfl (lv_at hl 0 rfl) ?_
            obtain ⟨x10, ex10, hs⟩ := bi_inv hs
            refine hv_gI (C := RX11) (T := TX11) (N := 23) (ci := 11) hx hb hts inX11 hown hk hr rfl 13 (by decide) (hts _ tw_895) ex10 dX11_feed_47 ?_
            refine lv_lload_n hx hb dX11_feed_50 rfl (lv_at hl 1 rfl) ?_
            refine lv_bipush (v := 8) hx hb dX11_feed_51 (by decide) ?_
            refine lv_iload hx hb dX11_feed_53 (lv_at hl 2 rfl) ?_
            refine lv_imul hx hb dX11_feed_55 ?_
            refine lv_lshr hx hb dX11_feed_56 rfl ?_
            refine lv_l2i hx hb dX11_feed_57 rfl ?_
            refine lv_i2b hx hb dX11_feed_58 rfl ?_
            obtain ⟨g11, eg11, hs⟩ := bi_inv hs
            refine hv_sB hx hb hk hr hS eg11 dX11_feed_59 (fun H locs hr hS => ?_)
            refine lv_aload_n hx hb dX11_feed_60 rfl (lv_at hl 0 rfl) ?_
            refine lv_dup hx hb dX11_feed_61 rfl ?_
            obtain ⟨x12, ex12, hs⟩ := bi_inv hs
            refine hv_gI (C := RX11) (T := TX11) (N := 23) (ci := 11) hx hb hts inX11 hown hk hr rfl 13 (by decide) (hts _ tw_895) ex12 dX11_feed_62 ?_
            refine lv_iconst (v := 1) hx hb dX11_feed_65 (by decide) ?_
            refine lv_iadd hx hb dX11_feed_66 ?_
            obtain ⟨g13, eg13, hs⟩ := bi_inv hs
            refine hv_pV (C := RX11) (T := TX11) (N := 23) (ci := 11) hx hb hts inX11 tyX11 tyX11_ok nmX11 hown hk hr hS rfl 13 (by decide) (hts _ tw_895) rfl rfl rfl eg13 dX11_feed_67 (fun H locs hr hS => ?_)
            refine lv_iinc (v := w4 + (-1 : Int32)) (lv' := [(4, .int (w4 + (-1 : Int32))), (0, .ref u0), (1, .long u1)]) hx hb dX11_feed_70 hl (k := 2) rfl (ii_v _ (by decide)) (by decide) rfl (fun ls hl => ?_)
            refine lv_goto (tgt := 37) hx hb dX11_feed_73 (by decide) ?_
            obtain rfl := Option.some.inj hs
            exact hcont _ rfl H locs ls hr hS (lv_sub hl [1, 2, 0] rfl)
        · intro H locs ls hr hS hl
          refine lv_aload_n hx hb dX11_feed_76 rfl (lv_at hl 0 rfl) ?_
          obtain ⟨x15, ex15, hs⟩ := bi_inv hs
          refine hv_gI (C := RX11) (T := TX11) (N := 23) (ci := 11) hx hb hts inX11 hown hk hr rfl 13 (by decide) (hts _ tw_895) ex15 dX11_feed_77 ?_
          obtain ⟨rfl, rfl⟩ := Prod.mk.inj (Option.some.inj hs)
          exact hv_iret hx hb hrt hlk hr hS dX11_feed_80
      · rw [if_neg c5] at hs
        refine lv_bipush (v := (-5)) hx hb dX11_feed_29 (by decide) ?_
        obtain ⟨rfl, rfl⟩ := Prod.mk.inj (Option.some.inj hs)
        exact hv_iret hx hb hrt hlk hr hS dX11_feed_31
    · rw [if_neg c3] at hs
      refine lv_iconst (v := (-1)) hx hb dX11_feed_16 (by decide) ?_
      obtain ⟨rfl, rfl⟩ := Prod.mk.inj (Option.some.inj hs)
      exact hv_iret hx hb hrt hlk hr hS dX11_feed_17
theorem dX11_init_0 : decode cX11_init 0 = .ok (.aload_n 0, 1) := by decide +kernel
theorem dX11_init_1 : decode cX11_init 1 = .ok (.invokespecial 135, 3) := by decide +kernel
theorem dX11_init_4 : decode cX11_init 4 = .ok (.aload_n 0, 1) := by decide +kernel
theorem dX11_init_5 : decode cX11_init 5 = .ok (.bipush 64, 2) := by decide +kernel
theorem dX11_init_7 : decode cX11_init 7 = .ok (.anewarray 19, 3) := by decide +kernel
theorem dX11_init_10 : decode cX11_init 10 = .ok (.putfield 10, 3) := by decide +kernel
theorem dX11_init_13 : decode cX11_init 13 = .ok (.aload_n 0, 1) := by decide +kernel
theorem dX11_init_14 : decode cX11_init 14 = .ok (.new 19, 3) := by decide +kernel
theorem dX11_init_17 : decode cX11_init 17 = .ok (.dup, 1) := by decide +kernel
theorem dX11_init_18 : decode cX11_init 18 = .ok (.invokespecial 141, 3) := by decide +kernel
theorem dX11_init_21 : decode cX11_init 21 = .ok (.putfield 74, 3) := by decide +kernel
theorem dX11_init_24 : decode cX11_init 24 = .ok (.aload_n 0, 1) := by decide +kernel
theorem dX11_init_25 : decode cX11_init 25 = .ok (.new 19, 3) := by decide +kernel
theorem dX11_init_28 : decode cX11_init 28 = .ok (.dup, 1) := by decide +kernel
theorem dX11_init_29 : decode cX11_init 29 = .ok (.invokespecial 141, 3) := by decide +kernel
theorem dX11_init_32 : decode cX11_init 32 = .ok (.putfield 113, 3) := by decide +kernel
theorem dX11_init_35 : decode cX11_init 35 = .ok (.aload_n 0, 1) := by decide +kernel
theorem dX11_init_36 : decode cX11_init 36 = .ok (.new 19, 3) := by decide +kernel
theorem dX11_init_39 : decode cX11_init 39 = .ok (.dup, 1) := by decide +kernel
theorem dX11_init_40 : decode cX11_init 40 = .ok (.invokespecial 141, 3) := by decide +kernel
theorem dX11_init_43 : decode cX11_init 43 = .ok (.putfield 125, 3) := by decide +kernel
theorem dX11_init_46 : decode cX11_init 46 = .ok (.aload_n 0, 1) := by decide +kernel
theorem dX11_init_47 : decode cX11_init 47 = .ok (.new 19, 3) := by decide +kernel
theorem dX11_init_50 : decode cX11_init 50 = .ok (.dup, 1) := by decide +kernel
theorem dX11_init_51 : decode cX11_init 51 = .ok (.invokespecial 141, 3) := by decide +kernel
theorem dX11_init_54 : decode cX11_init 54 = .ok (.putfield 128, 3) := by decide +kernel
theorem dX11_init_57 : decode cX11_init 57 = .ok (.aload_n 0, 1) := by decide +kernel
theorem dX11_init_58 : decode cX11_init 58 = .ok (.bipush 24, 2) := by decide +kernel
theorem dX11_init_60 : decode cX11_init 60 = .ok (.anewarray 19, 3) := by decide +kernel
theorem dX11_init_63 : decode cX11_init 63 = .ok (.putfield 142, 3) := by decide +kernel
theorem dX11_init_66 : decode cX11_init 66 = .ok (.aload_n 0, 1) := by decide +kernel
theorem dX11_init_67 : decode cX11_init 67 = .ok (.bipush 12, 2) := by decide +kernel
theorem dX11_init_69 : decode cX11_init 69 = .ok (.anewarray 19, 3) := by decide +kernel
theorem dX11_init_72 : decode cX11_init 72 = .ok (.putfield 145, 3) := by decide +kernel
theorem dX11_init_75 : decode cX11_init 75 = .ok (.aload_n 0, 1) := by decide +kernel
theorem dX11_init_76 : decode cX11_init 76 = .ok (.bipush 12, 2) := by decide +kernel
theorem dX11_init_78 : decode cX11_init 78 = .ok (.anewarray 19, 3) := by decide +kernel
theorem dX11_init_81 : decode cX11_init 81 = .ok (.putfield 148, 3) := by decide +kernel
theorem dX11_init_84 : decode cX11_init 84 = .ok (.aload_n 0, 1) := by decide +kernel
theorem dX11_init_85 : decode cX11_init 85 = .ok (.bipush 120, 2) := by decide +kernel
theorem dX11_init_87 : decode cX11_init 87 = .ok (.newarray .byte, 2) := by decide +kernel
theorem dX11_init_89 : decode cX11_init 89 = .ok (.putfield 151, 3) := by decide +kernel
theorem dX11_init_92 : decode cX11_init 92 = .ok (.aload_n 0, 1) := by decide +kernel
theorem dX11_init_93 : decode cX11_init 93 = .ok (.sipush 400, 3) := by decide +kernel
theorem dX11_init_96 : decode cX11_init 96 = .ok (.newarray .byte, 2) := by decide +kernel
theorem dX11_init_98 : decode cX11_init 98 = .ok (.putfield 155, 3) := by decide +kernel
theorem dX11_init_101 : decode cX11_init 101 = .ok (.aload_n 0, 1) := by decide +kernel
theorem dX11_init_102 : decode cX11_init 102 = .ok (.bipush 64, 2) := by decide +kernel
theorem dX11_init_104 : decode cX11_init 104 = .ok (.newarray .int, 2) := by decide +kernel
theorem dX11_init_106 : decode cX11_init 106 = .ok (.putfield 158, 3) := by decide +kernel
theorem dX11_init_109 : decode cX11_init 109 = .ok (.aload_n 0, 1) := by decide +kernel
theorem dX11_init_110 : decode cX11_init 110 = .ok (.bipush 64, 2) := by decide +kernel
theorem dX11_init_112 : decode cX11_init 112 = .ok (.newarray .int, 2) := by decide +kernel
theorem dX11_init_114 : decode cX11_init 114 = .ok (.putfield 161, 3) := by decide +kernel
theorem dX11_init_117 : decode cX11_init 117 = .ok (.aload_n 0, 1) := by decide +kernel
theorem dX11_init_118 : decode cX11_init 118 = .ok (.sipush 201, 3) := by decide +kernel
theorem dX11_init_121 : decode cX11_init 121 = .ok (.newarray .int, 2) := by decide +kernel
theorem dX11_init_123 : decode cX11_init 123 = .ok (.putfield 164, 3) := by decide +kernel
theorem dX11_init_126 : decode cX11_init 126 = .ok (.aload_n 0, 1) := by decide +kernel
theorem dX11_init_127 : decode cX11_init 127 = .ok (.sipush 201, 3) := by decide +kernel
theorem dX11_init_130 : decode cX11_init 130 = .ok (.newarray .int, 2) := by decide +kernel
theorem dX11_init_132 : decode cX11_init 132 = .ok (.putfield 167, 3) := by decide +kernel
theorem dX11_init_135 : decode cX11_init 135 = .ok (.aload_n 0, 1) := by decide +kernel
theorem dX11_init_136 : decode cX11_init 136 = .ok (.sipush 201, 3) := by decide +kernel
theorem dX11_init_139 : decode cX11_init 139 = .ok (.anewarray 19, 3) := by decide +kernel
theorem dX11_init_142 : decode cX11_init 142 = .ok (.putfield 170, 3) := by decide +kernel
theorem dX11_init_145 : decode cX11_init 145 = .ok (.aload_n 0, 1) := by decide +kernel
theorem dX11_init_146 : decode cX11_init 146 = .ok (.getfield 113, 3) := by decide +kernel
theorem dX11_init_149 : decode cX11_init 149 = .ok (.getfield 18, 3) := by decide +kernel
theorem dX11_init_152 : decode cX11_init 152 = .ok (.iconst 0, 1) := by decide +kernel
theorem dX11_init_153 : decode cX11_init 153 = .ok (.iconst 1, 1) := by decide +kernel
theorem dX11_init_154 : decode cX11_init 154 = .ok (.iastore, 1) := by decide +kernel
theorem dX11_init_155 : decode cX11_init 155 = .ok (.aload_n 0, 1) := by decide +kernel
theorem dX11_init_156 : decode cX11_init 156 = .ok (.getfield 113, 3) := by decide +kernel
theorem dX11_init_159 : decode cX11_init 159 = .ok (.iconst 1, 1) := by decide +kernel
theorem dX11_init_160 : decode cX11_init 160 = .ok (.putfield 42, 3) := by decide +kernel
theorem dX11_init_163 : decode cX11_init 163 = .ok (.iconst 0, 1) := by decide +kernel
theorem dX11_init_164 : decode cX11_init 164 = .ok (.istore_n 1, 1) := by decide +kernel
theorem dX11_init_165 : decode cX11_init 165 = .ok (.iload_n 1, 1) := by decide +kernel
theorem dX11_init_166 : decode cX11_init 166 = .ok (.bipush 64, 2) := by decide +kernel
theorem dX11_init_168 : decode cX11_init 168 = .ok (.if_icmp .ge 22, 3) := by decide +kernel
theorem dX11_init_171 : decode cX11_init 171 = .ok (.aload_n 0, 1) := by decide +kernel
theorem dX11_init_172 : decode cX11_init 172 = .ok (.getfield 10, 3) := by decide +kernel
theorem dX11_init_175 : decode cX11_init 175 = .ok (.iload_n 1, 1) := by decide +kernel
theorem dX11_init_176 : decode cX11_init 176 = .ok (.new 19, 3) := by decide +kernel
theorem dX11_init_179 : decode cX11_init 179 = .ok (.dup, 1) := by decide +kernel
theorem dX11_init_180 : decode cX11_init 180 = .ok (.invokespecial 141, 3) := by decide +kernel
theorem dX11_init_183 : decode cX11_init 183 = .ok (.aastore, 1) := by decide +kernel
theorem dX11_init_184 : decode cX11_init 184 = .ok (.iinc 1 1, 3) := by decide +kernel
theorem dX11_init_187 : decode cX11_init 187 = .ok (.goto (-22), 3) := by decide +kernel
theorem dX11_init_190 : decode cX11_init 190 = .ok (.iconst 0, 1) := by decide +kernel
theorem dX11_init_191 : decode cX11_init 191 = .ok (.istore_n 1, 1) := by decide +kernel
theorem dX11_init_192 : decode cX11_init 192 = .ok (.iload_n 1, 1) := by decide +kernel
theorem dX11_init_193 : decode cX11_init 193 = .ok (.bipush 24, 2) := by decide +kernel
theorem dX11_init_195 : decode cX11_init 195 = .ok (.if_icmp .ge 22, 3) := by decide +kernel
theorem dX11_init_198 : decode cX11_init 198 = .ok (.aload_n 0, 1) := by decide +kernel
theorem dX11_init_199 : decode cX11_init 199 = .ok (.getfield 142, 3) := by decide +kernel
theorem dX11_init_202 : decode cX11_init 202 = .ok (.iload_n 1, 1) := by decide +kernel
theorem dX11_init_203 : decode cX11_init 203 = .ok (.new 19, 3) := by decide +kernel
theorem dX11_init_206 : decode cX11_init 206 = .ok (.dup, 1) := by decide +kernel
theorem dX11_init_207 : decode cX11_init 207 = .ok (.invokespecial 141, 3) := by decide +kernel
theorem dX11_init_210 : decode cX11_init 210 = .ok (.aastore, 1) := by decide +kernel
theorem dX11_init_211 : decode cX11_init 211 = .ok (.iinc 1 1, 3) := by decide +kernel
theorem dX11_init_214 : decode cX11_init 214 = .ok (.goto (-22), 3) := by decide +kernel
theorem dX11_init_217 : decode cX11_init 217 = .ok (.iconst 0, 1) := by decide +kernel
theorem dX11_init_218 : decode cX11_init 218 = .ok (.istore_n 1, 1) := by decide +kernel
theorem dX11_init_219 : decode cX11_init 219 = .ok (.iload_n 1, 1) := by decide +kernel
theorem dX11_init_220 : decode cX11_init 220 = .ok (.bipush 12, 2) := by decide +kernel
theorem dX11_init_222 : decode cX11_init 222 = .ok (.if_icmp .ge 48, 3) := by decide +kernel
theorem dX11_init_225 : decode cX11_init 225 = .ok (.aload_n 0, 1) := by decide +kernel
theorem dX11_init_226 : decode cX11_init 226 = .ok (.getfield 145, 3) := by decide +kernel
theorem dX11_init_229 : decode cX11_init 229 = .ok (.iload_n 1, 1) := by decide +kernel
theorem dX11_init_230 : decode cX11_init 230 = .ok (.new 19, 3) := by decide +kernel
theorem dX11_init_233 : decode cX11_init 233 = .ok (.dup, 1) := by decide +kernel
theorem dX11_init_234 : decode cX11_init 234 = .ok (.invokespecial 141, 3) := by decide +kernel
theorem dX11_init_237 : decode cX11_init 237 = .ok (.aastore, 1) := by decide +kernel
theorem dX11_init_238 : decode cX11_init 238 = .ok (.aload_n 0, 1) := by decide +kernel
theorem dX11_init_239 : decode cX11_init 239 = .ok (.getfield 148, 3) := by decide +kernel
theorem dX11_init_242 : decode cX11_init 242 = .ok (.iload_n 1, 1) := by decide +kernel
theorem dX11_init_243 : decode cX11_init 243 = .ok (.new 19, 3) := by decide +kernel
theorem dX11_init_246 : decode cX11_init 246 = .ok (.dup, 1) := by decide +kernel
theorem dX11_init_247 : decode cX11_init 247 = .ok (.invokespecial 141, 3) := by decide +kernel
theorem dX11_init_250 : decode cX11_init 250 = .ok (.aastore, 1) := by decide +kernel
theorem dX11_init_251 : decode cX11_init 251 = .ok (.aload_n 0, 1) := by decide +kernel
theorem dX11_init_252 : decode cX11_init 252 = .ok (.getfield 148, 3) := by decide +kernel
theorem dX11_init_255 : decode cX11_init 255 = .ok (.iload_n 1, 1) := by decide +kernel
theorem dX11_init_256 : decode cX11_init 256 = .ok (.aaload, 1) := by decide +kernel
theorem dX11_init_257 : decode cX11_init 257 = .ok (.aload_n 0, 1) := by decide +kernel
theorem dX11_init_258 : decode cX11_init 258 = .ok (.getfield 113, 3) := by decide +kernel
theorem dX11_init_261 : decode cX11_init 261 = .ok (.invokevirtual 30, 3) := by decide +kernel
theorem dX11_init_264 : decode cX11_init 264 = .ok (.iinc 1 1, 3) := by decide +kernel
theorem dX11_init_267 : decode cX11_init 267 = .ok (.goto (-48), 3) := by decide +kernel
theorem dX11_init_270 : decode cX11_init 270 = .ok (.iconst 0, 1) := by decide +kernel
theorem dX11_init_271 : decode cX11_init 271 = .ok (.istore_n 1, 1) := by decide +kernel
theorem dX11_init_272 : decode cX11_init 272 = .ok (.iload_n 1, 1) := by decide +kernel
theorem dX11_init_273 : decode cX11_init 273 = .ok (.sipush 200, 3) := by decide +kernel
theorem dX11_init_276 : decode cX11_init 276 = .ok (.if_icmp .gt 22, 3) := by decide +kernel
theorem dX11_init_279 : decode cX11_init 279 = .ok (.aload_n 0, 1) := by decide +kernel
theorem dX11_init_280 : decode cX11_init 280 = .ok (.getfield 170, 3) := by decide +kernel
theorem dX11_init_283 : decode cX11_init 283 = .ok (.iload_n 1, 1) := by decide +kernel
theorem dX11_init_284 : decode cX11_init 284 = .ok (.new 19, 3) := by decide +kernel
theorem dX11_init_287 : decode cX11_init 287 = .ok (.dup, 1) := by decide +kernel
theorem dX11_init_288 : decode cX11_init 288 = .ok (.invokespecial 141, 3) := by decide +kernel
theorem dX11_init_291 : decode cX11_init 291 = .ok (.aastore, 1) := by decide +kernel
theorem dX11_init_292 : decode cX11_init 292 = .ok (.iinc 1 1, 3) := by decide +kernel
theorem dX11_init_295 : decode cX11_init 295 = .ok (.goto (-23), 3) := by decide +kernel
theorem dX11_init_298 : decode cX11_init 298 = .ok (.return_, 1) := by decide +kernel
def zb_X11_init_165 (w0 : Nat) (g40 : AH) (w1 : Int32) : Option ((AH × Int32) ⊕ (AH)) :=
  (if (64 : Int32) ≤ w1 then some (Sum.inr g40) else (gR g40 w0 11 1).bind fun x42 => lt_ (nO g40 (.inr (10, [.int 0, .int 0, .null]))) fun g43 => (zs_X10_init g43 g40.2).bind fun g44 => (sR g44 x42 5 w1 g40.2 10).bind fun g45 => some (Sum.inl ((g45, w1 + (1 : Int32)))))
def zb_X11_init_192 (w0 : Nat) (g47 : AH) (w1 : Int32) : Option ((AH × Int32) ⊕ (AH)) :=
  (if (24 : Int32) ≤ w1 then some (Sum.inr g47) else (gR g47 w0 11 9).bind fun x49 => lt_ (nO g47 (.inr (10, [.int 0, .int 0, .null]))) fun g50 => (zs_X10_init g50 g47.2).bind fun g51 => (sR g51 x49 5 w1 g47.2 10).bind fun g52 => some (Sum.inl ((g52, w1 + (1 : Int32)))))
def zb_X11_init_219 (w0 : Nat) (g54 : AH) (w1 : Int32) : Option ((AH × Int32) ⊕ (AH)) :=
  (if (12 : Int32) ≤ w1 then some (Sum.inr g54) else (gR g54 w0 11 10).bind fun x56 => lt_ (nO g54 (.inr (10, [.int 0, .int 0, .null]))) fun g57 => (zs_X10_init g57 g54.2).bind fun g58 => (sR g58 x56 5 w1 g54.2 10).bind fun g59 => (gR g59 w0 11 11).bind fun x60 => lt_ (nO g59 (.inr (10, [.int 0, .int 0, .null]))) fun g61 => (zs_X10_init g61 g59.2).bind fun g62 => (sR g62 x60 5 w1 g59.2 10).bind fun g63 => (gR g63 w0 11 11).bind fun x64 => (aR g63 x64 5 w1).bind fun x65 => (gR g63 w0 11 4).bind fun x66 => (chk g63 x65 10).bind fun _ => (zs_X10_become g63 x65 x66).bind fun g68 => some (Sum.inl ((g68, w1 + (1 : Int32)))))
def zb_X11_init_272 (w0 : Nat) (g70 : AH) (w1 : Int32) : Option ((AH × Int32) ⊕ (AH)) :=
  (if (200 : Int32) < w1 then some (Sum.inr g70) else (gR g70 w0 11 20).bind fun x72 => lt_ (nO g70 (.inr (10, [.int 0, .int 0, .null]))) fun g73 => (zs_X10_init g73 g70.2).bind fun g74 => (sR g74 x72 5 w1 g70.2 10).bind fun g75 => some (Sum.inl ((g75, w1 + (1 : Int32)))))
def zs_X11_init (h : AH) (u0 : Nat) : Option AH :=
  lt_ (nO h (.inl (5, 64, .inr (.inr (.inr (.inr (fun _ => none))))))) fun g1 => (pV g1 u0 11 1 (.ref h.2)).bind fun g2 => lt_ (nO g2 (.inr (10, [.int 0, .int 0, .null]))) fun g3 => (zs_X10_init g3 g2.2).bind fun g4 => (pV g4 u0 11 3 (.ref g2.2)).bind fun g5 => lt_ (nO g5 (.inr (10, [.int 0, .int 0, .null]))) fun g6 => (zs_X10_init g6 g5.2).bind fun g7 => (pV g7 u0 11 4 (.ref g5.2)).bind fun g8 => lt_ (nO g8 (.inr (10, [.int 0, .int 0, .null]))) fun g9 => (zs_X10_init g9 g8.2).bind fun g10 => (pV g10 u0 11 7 (.ref g8.2)).bind fun g11 => lt_ (nO g11 (.inr (10, [.int 0, .int 0, .null]))) fun g12 => (zs_X10_init g12 g11.2).bind fun g13 => (pV g13 u0 11 8 (.ref g11.2)).bind fun g14 => lt_ (nO g14 (.inl (5, 24, .inr (.inr (.inr (.inr (fun _ => none))))))) fun g15 => (pV g15 u0 11 9 (.ref g14.2)).bind fun g16 => lt_ (nO g16 (.inl (5, 12, .inr (.inr (.inr (.inr (fun _ => none))))))) fun g17 => (pV g17 u0 11 10 (.ref g16.2)).bind fun g18 => lt_ (nO g18 (.inl (5, 12, .inr (.inr (.inr (.inr (fun _ => none))))))) fun g19 => (pV g19 u0 11 11 (.ref g18.2)).bind fun g20 => lt_ (nO g20 (.inl (2, (120, .inl (fun _ => 0))))) fun g21 => (pV g21 u0 11 12 (.ref g20.2)).bind fun g22 => lt_ (nO g22 (.inl (2, (400, .inl (fun _ => 0))))) fun g23 => (pV g23 u0 11 14 (.ref g22.2)).bind fun g24 => lt_ (nO g24 (.inl (0, (64, .inl (fun _ => 0))))) fun g25 => (pV g25 u0 11 16 (.ref g24.2)).bind fun g26 => lt_ (nO g26 (.inl (0, (64, .inl (fun _ => 0))))) fun g27 => (pV g27 u0 11 17 (.ref g26.2)).bind fun g28 => lt_ (nO g28 (.inl (0, (201, .inl (fun _ => 0))))) fun g29 => (pV g29 u0 11 18 (.ref g28.2)).bind fun g30 => lt_ (nO g30 (.inl (0, (201, .inl (fun _ => 0))))) fun g31 => (pV g31 u0 11 19 (.ref g30.2)).bind fun g32 => lt_ (nO g32 (.inl (5, 201, .inr (.inr (.inr (.inr (fun _ => none))))))) fun g33 => (pV g33 u0 11 20 (.ref g32.2)).bind fun g34 => (gR g34 u0 11 4).bind fun x35 => (gR g34 x35 10 2).bind fun x36 => (sI g34 x36 0 ((0 : Int32)) ((1 : Int32))).bind fun g37 => (gR g37 u0 11 4).bind fun x38 => (pV g37 x38 10 1 (.int ((1 : Int32)))).bind fun g39 => (iter (fun q : AH × Int32 => zb_X11_init_165 u0 q.1 q.2) FU ((g39, (0 : Int32)))).bind fun r46 => (iter (fun q : AH × Int32 => zb_X11_init_192 u0 q.1 q.2) FU ((r46, (0 : Int32)))).bind fun r53 => (iter (fun q : AH × Int32 => zb_X11_init_219 u0 q.1 q.2) FU ((r53, (0 : Int32)))).bind fun r69 => (iter (fun q : AH × Int32 => zb_X11_init_272 u0 q.1 q.2) FU ((r69, (0 : Int32)))).bind fun r76 => some r76
set_option maxRecDepth 100000 in
set_option maxHeartbeats 4000000 in
theorem zm_X11_init (l : Launch) (D : hG) (z : Nat) {h : AH} {u0 : Nat} {h' : AH} (hs : zs_X11_init h u0 = some h') : hC l D z yX11_init cX11_init 2 (Option.none : Option Jvm.ClassFile.FieldType) 2 69 645 34014 [.ref u0] h h' none := by
  refine hC_of (by decide) (Nat.le_of_ble_eq_true rfl) ?_
  intro p e s m below meth c hx hb hml hrt hlk hown hnm hts hk hr hz ls hl
  replace hown : s.vm.findClass RX11 = some m.cls := hown
  replace hl : lv_has ls 2 [(0, .ref u0)] := hl
  have hS : va_S (hA z) s.heap s.heap [] := va_S.rf
  suffices hgo : ∀ (H : Heap) (locs : List Loc), hR D z h H → va_S (hA z) s.heap H locs → W p l e ({ frames := 2, cells := 645, slots := 34014, locals := 69 } : Room) s m ([.ref u0] : List Value).toArray below meth c H locs 0 0 (MQ below (hQ D z h' none) ([.ref u0] : List Value).toArray s 645 34014 (hA z)) (F0 m 0 ls []) from hgo _ _ hr hS
  clear hr hS
  intro H locs hr hS
  unfold zs_X11_init at hs
  refine lv_aload_n hx hb dX11_init_0 rfl (lv_at hl 0 rfl) ?_
  refine W.objInit hx hb hown (hts _ tw_854) (hts _ tw_27) (hts _ tw_28) rfl (by rw [hml]; exact hl.1) rfl dX11_init_1 (by decide) (Nat.le_of_ble_eq_true rfl) ?_
  refine W.eq (g2 := F0 m 4 ls []) rfl ?_
  refine lv_aload_n hx hb dX11_init_4 rfl (lv_at hl 0 rfl) ?_
  refine lv_bipush (v := 64) hx hb dX11_init_5 (by decide) ?_
  refine hv_newq (C := "WideWholesModel$Whole") hx hb hown hts 5 rfl tw_855 hk.2.2.2.1 hk hr hz hS 64 (by decide) (by decide) (by decide) (by show _ ≤ (645 : Nat); omega) (by show _ ≤ (34014 : Nat); omega) dX11_init_7 (fun H hr hS => ?_)
  obtain ⟨g1, eg1⟩ : ∃ q, q = nO h (.inl (5, 64, .inr (.inr (.inr (.inr (fun _ => none)))))) := ⟨_, rfl⟩
  rw [← eg1] at hr
  replace hs := lt_inv hs g1 eg1
  obtain ⟨g2, eg2, hs⟩ := bi_inv hs
  refine hv_pF (C := RX11) (T := TX11) (N := 23) (ci := 11) hx hb hts inX11 tyX11 tyX11_ok nmX11 hown hk hr hS rfl 1 (by decide) (hts _ tw_883) rfl hnm rfl rfl rfl eg2 dX11_init_10 (fun H locs hr hS => ?_)
  refine lv_aload_n hx hb dX11_init_13 rfl (lv_at hl 0 rfl) ?_
  refine hv_new (C := RX10) (T := TX10) (N := 3) (ci := 10) hx hb hts inX10 tyX10 tyX10_ok hown tw_855 tw_857 tw_12 hk hr hz hS rfl [.int 0, .int 0, .null] (by decide +kernel) (by show _ ≤ (645 : Nat); omega) (by show _ ≤ (34014 : Nat); omega) dX11_init_14 (fun H hr hS => ?_)
  obtain ⟨g3, eg3⟩ : ∃ q, q = nO g2 (.inr (10, [.int 0, .int 0, .null])) := ⟨_, rfl⟩
  rw [← eg3] at hr
  replace hs := lt_inv hs g3 eg3
  refine lv_dup hx hb dX11_init_17 rfl ?_
  obtain ⟨g4, eg4, hs⟩ := bi_inv hs
  refine hv_IN0 (n := 0) [] [.ref g2.2, .ref u0] hx hb hml hown hts hk hr hz hS (zm_X10_init l D z eg4) hk.2.2.2.2 tw_859 tw_12 tw_860 rfl (by decide +kernel) (by decide) ⟨(by show _ ≤ (645 : Nat); omega), (by show _ ≤ (34014 : Nat); omega)⟩ rfl hl.1 (Nat.le_of_ble_eq_true rfl) dX11_init_18 rfl (fun H locs hr hS => ?_)
  obtain ⟨g5, eg5, hs⟩ := bi_inv hs
  refine hv_pF (C := RX11) (T := TX11) (N := 23) (ci := 11) hx hb hts inX11 tyX11 tyX11_ok nmX11 hown hk hr hS rfl 3 (by decide) (hts _ tw_885) rfl hnm rfl rfl rfl eg5 dX11_init_21 (fun H locs hr hS => ?_)
  refine lv_aload_n hx hb dX11_init_24 rfl (lv_at hl 0 rfl) ?_
  refine hv_new (C := RX10) (T := TX10) (N := 3) (ci := 10) hx hb hts inX10 tyX10 tyX10_ok hown tw_855 tw_857 tw_12 hk hr hz hS rfl [.int 0, .int 0, .null] (by decide +kernel) (by show _ ≤ (645 : Nat); omega) (by show _ ≤ (34014 : Nat); omega) dX11_init_25 (fun H hr hS => ?_)
  obtain ⟨g6, eg6⟩ : ∃ q, q = nO g5 (.inr (10, [.int 0, .int 0, .null])) := ⟨_, rfl⟩
  rw [← eg6] at hr
  replace hs := lt_inv hs g6 eg6
  refine lv_dup hx hb dX11_init_28 rfl ?_
  obtain ⟨g7, eg7, hs⟩ := bi_inv hs
  refine hv_IN0 (n := 0) [] [.ref g5.2, .ref u0] hx hb hml hown hts hk hr hz hS (zm_X10_init l D z eg7) hk.2.2.2.2 tw_859 tw_12 tw_860 rfl (by decide +kernel) (by decide) ⟨(by show _ ≤ (645 : Nat); omega), (by show _ ≤ (34014 : Nat); omega)⟩ rfl hl.1 (Nat.le_of_ble_eq_true rfl) dX11_init_29 rfl (fun H locs hr hS => ?_)
  obtain ⟨g8, eg8, hs⟩ := bi_inv hs
  refine hv_pF (C := RX11) (T := TX11) (N := 23) (ci := 11) hx hb hts inX11 tyX11 tyX11_ok nmX11 hown hk hr hS rfl 4 (by decide) (hts _ tw_886) rfl hnm rfl rfl rfl eg8 dX11_init_32 (fun H locs hr hS => ?_)
  refine lv_aload_n hx hb dX11_init_35 rfl (lv_at hl 0 rfl) ?_
  refine hv_new (C := RX10) (T := TX10) (N := 3) (ci := 10) hx hb hts inX10 tyX10 tyX10_ok hown tw_855 tw_857 tw_12 hk hr hz hS rfl [.int 0, .int 0, .null] (by decide +kernel) (by show _ ≤ (645 : Nat); omega) (by show _ ≤ (34014 : Nat); omega) dX11_init_36 (fun H hr hS => ?_)
  obtain ⟨g9, eg9⟩ : ∃ q, q = nO g8 (.inr (10, [.int 0, .int 0, .null])) := ⟨_, rfl⟩
  rw [← eg9] at hr
  replace hs := lt_inv hs g9 eg9
  refine lv_dup hx hb dX11_init_39 rfl ?_
  obtain ⟨g10, eg10, hs⟩ := bi_inv hs
  refine hv_IN0 (n := 0) [] [.ref g8.2, .ref u0] hx hb hml hown hts hk hr hz hS (zm_X10_init l D z eg10) hk.2.2.2.2 tw_859 tw_12 tw_860 rfl (by decide +kernel) (by decide) ⟨(by show _ ≤ (645 : Nat); omega), (by show _ ≤ (34014 : Nat); omega)⟩ rfl hl.1 (Nat.le_of_ble_eq_true rfl) dX11_init_40 rfl (fun H locs hr hS => ?_)
  obtain ⟨g11, eg11, hs⟩ := bi_inv hs
  refine hv_pF (C := RX11) (T := TX11) (N := 23) (ci := 11) hx hb hts inX11 tyX11 tyX11_ok nmX11 hown hk hr hS rfl 7 (by decide) (hts _ tw_889) rfl hnm rfl rfl rfl eg11 dX11_init_43 (fun H locs hr hS => ?_)
  refine lv_aload_n hx hb dX11_init_46 rfl (lv_at hl 0 rfl) ?_
  refine hv_new (C := RX10) (T := TX10) (N := 3) (ci := 10) hx hb hts inX10 tyX10 tyX10_ok hown tw_855 tw_857 tw_12 hk hr hz hS rfl [.int 0, .int 0, .null] (by decide +kernel) (by show _ ≤ (645 : Nat); omega) (by show _ ≤ (34014 : Nat); omega) dX11_init_47 (fun H hr hS => ?_)
  obtain ⟨g12, eg12⟩ : ∃ q, q = nO g11 (.inr (10, [.int 0, .int 0, .null])) := ⟨_, rfl⟩
  rw [← eg12] at hr
  replace hs := lt_inv hs g12 eg12
  refine lv_dup hx hb dX11_init_50 rfl ?_
  obtain ⟨g13, eg13, hs⟩ := bi_inv hs
  refine hv_IN0 (n := 0) [] [.ref g11.2, .ref u0] hx hb hml hown hts hk hr hz hS (zm_X10_init l D z eg13) hk.2.2.2.2 tw_859 tw_12 tw_860 rfl (by decide +kernel) (by decide) ⟨(by show _ ≤ (645 : Nat); omega), (by show _ ≤ (34014 : Nat); omega)⟩ rfl hl.1 (Nat.le_of_ble_eq_true rfl) dX11_init_51 rfl (fun H locs hr hS => ?_)
  obtain ⟨g14, eg14, hs⟩ := bi_inv hs
  refine hv_pF (C := RX11) (T := TX11) (N := 23) (ci := 11) hx hb hts inX11 tyX11 tyX11_ok nmX11 hown hk hr hS rfl 8 (by decide) (hts _ tw_890) rfl hnm rfl rfl rfl eg14 dX11_init_54 (fun H locs hr hS => ?_)
  refine lv_aload_n hx hb dX11_init_57 rfl (lv_at hl 0 rfl) ?_
  refine lv_bipush (v := 24) hx hb dX11_init_58 (by decide) ?_
  refine hv_newq (C := "WideWholesModel$Whole") hx hb hown hts 5 rfl tw_855 hk.2.2.2.1 hk hr hz hS 24 (by decide) (by decide) (by decide) (by show _ ≤ (645 : Nat); omega) (by show _ ≤ (34014 : Nat); omega) dX11_init_60 (fun H hr hS => ?_)
  obtain ⟨g15, eg15⟩ : ∃ q, q = nO g14 (.inl (5, 24, .inr (.inr (.inr (.inr (fun _ => none)))))) := ⟨_, rfl⟩
  rw [← eg15] at hr
  replace hs := lt_inv hs g15 eg15
  obtain ⟨g16, eg16, hs⟩ := bi_inv hs
  refine hv_pF (C := RX11) (T := TX11) (N := 23) (ci := 11) hx hb hts inX11 tyX11 tyX11_ok nmX11 hown hk hr hS rfl 9 (by decide) (hts _ tw_891) rfl hnm rfl rfl rfl eg16 dX11_init_63 (fun H locs hr hS => ?_)
  refine lv_aload_n hx hb dX11_init_66 rfl (lv_at hl 0 rfl) ?_
  refine lv_bipush (v := 12) hx hb dX11_init_67 (by decide) ?_
  refine hv_newq (C := "WideWholesModel$Whole") hx hb hown hts 5 rfl tw_855 hk.2.2.2.1 hk hr hz hS 12 (by decide) (by decide) (by decide) (by show _ ≤ (645 : Nat); omega) (by show _ ≤ (34014 : Nat); omega) dX11_init_69 (fun H hr hS => ?_)
  obtain ⟨g17, eg17⟩ : ∃ q, q = nO g16 (.inl (5, 12, .inr (.inr (.inr (.inr (fun _ => none)))))) := ⟨_, rfl⟩
  rw [← eg17] at hr
  replace hs := lt_inv hs g17 eg17
  obtain ⟨g18, eg18, hs⟩ := bi_inv hs
  refine hv_pF (C := RX11) (T := TX11) (N := 23) (ci := 11) hx hb hts inX11 tyX11 tyX11_ok nmX11 hown hk hr hS rfl 10 (by decide) (hts _ tw_892) rfl hnm rfl rfl rfl eg18 dX11_init_72 (fun H locs hr hS => ?_)
  refine lv_aload_n hx hb dX11_init_75 rfl (lv_at hl 0 rfl) ?_
  refine lv_bipush (v := 12) hx hb dX11_init_76 (by decide) ?_
  refine hv_newq (C := "WideWholesModel$Whole") hx hb hown hts 5 rfl tw_855 hk.2.2.2.1 hk hr hz hS 12 (by decide) (by decide) (by decide) (by show _ ≤ (645 : Nat); omega) (by show _ ≤ (34014 : Nat); omega) dX11_init_78 (fun H hr hS => ?_)
  obtain ⟨g19, eg19⟩ : ∃ q, q = nO g18 (.inl (5, 12, .inr (.inr (.inr (.inr (fun _ => none)))))) := ⟨_, rfl⟩
  rw [← eg19] at hr
  replace hs := lt_inv hs g19 eg19
  obtain ⟨g20, eg20, hs⟩ := bi_inv hs
  refine hv_pF (C := RX11) (T := TX11) (N := 23) (ci := 11) hx hb hts inX11 tyX11 tyX11_ok nmX11 hown hk hr hS rfl 11 (by decide) (hts _ tw_893) rfl hnm rfl rfl rfl eg20 dX11_init_81 (fun H locs hr hS => ?_)
  refine lv_aload_n hx hb dX11_init_84 rfl (lv_at hl 0 rfl) ?_
  refine lv_bipush (v := 120) hx hb dX11_init_85 (by decide) ?_
  refine hv_newa (at_ := .byte) hx hb hts 2 rfl rfl tw_844 hk hr hz hS 120 (120, .inl (fun _ => 0)) (fun _ => rfl) (by decide) (by decide) (by decide) (by show _ ≤ (645 : Nat); omega) (by show _ ≤ (34014 : Nat); omega) dX11_init_87 (fun H hr hS => ?_)
  obtain ⟨g21, eg21⟩ : ∃ q, q = nO g20 (.inl (2, (120, .inl (fun _ => 0)))) := ⟨_, rfl⟩
  rw [← eg21] at hr
  replace hs := lt_inv hs g21 eg21
  obtain ⟨g22, eg22, hs⟩ := bi_inv hs
  refine hv_pF (C := RX11) (T := TX11) (N := 23) (ci := 11) hx hb hts inX11 tyX11 tyX11_ok nmX11 hown hk hr hS rfl 12 (by decide) (hts _ tw_894) rfl hnm rfl rfl rfl eg22 dX11_init_89 (fun H locs hr hS => ?_)
  refine lv_aload_n hx hb dX11_init_92 rfl (lv_at hl 0 rfl) ?_
  refine lv_sipush (v := 400) hx hb dX11_init_93 (by decide) ?_
  refine hv_newa (at_ := .byte) hx hb hts 2 rfl rfl tw_844 hk hr hz hS 400 (400, .inl (fun _ => 0)) (fun _ => rfl) (by decide) (by decide) (by decide) (by show _ ≤ (645 : Nat); omega) (by show _ ≤ (34014 : Nat); omega) dX11_init_96 (fun H hr hS => ?_)
  obtain ⟨g23, eg23⟩ : ∃ q, q = nO g22 (.inl (2, (400, .inl (fun _ => 0)))) := ⟨_, rfl⟩
  rw [← eg23] at hr
  replace hs := lt_inv hs g23 eg23
  obtain ⟨g24, eg24, hs⟩ := bi_inv hs
  refine hv_pF (C := RX11) (T := TX11) (N := 23) (ci := 11) hx hb hts inX11 tyX11 tyX11_ok nmX11 hown hk hr hS rfl 14 (by decide) (hts _ tw_896) rfl hnm rfl rfl rfl eg24 dX11_init_98 (fun H locs hr hS => ?_)
  refine lv_aload_n hx hb dX11_init_101 rfl (lv_at hl 0 rfl) ?_
  refine lv_bipush (v := 64) hx hb dX11_init_102 (by decide) ?_
  refine hv_newa (at_ := .int) hx hb hts 0 rfl rfl tw_105 hk hr hz hS 64 (64, .inl (fun _ => 0)) (fun _ => rfl) (by decide) (by decide) (by decide) (by show _ ≤ (645 : Nat); omega) (by show _ ≤ (34014 : Nat); omega) dX11_init_104 (fun H hr hS => ?_)
  obtain ⟨g25, eg25⟩ : ∃ q, q = nO g24 (.inl (0, (64, .inl (fun _ => 0)))) := ⟨_, rfl⟩
  rw [← eg25] at hr
  replace hs := lt_inv hs g25 eg25
  obtain ⟨g26, eg26, hs⟩ := bi_inv hs
  refine hv_pF (C := RX11) (T := TX11) (N := 23) (ci := 11) hx hb hts inX11 tyX11 tyX11_ok nmX11 hown hk hr hS rfl 16 (by decide) (hts _ tw_898) rfl hnm rfl rfl rfl eg26 dX11_init_106 (fun H locs hr hS => ?_)
  refine lv_aload_n hx hb dX11_init_109 rfl (lv_at hl 0 rfl) ?_
  refine lv_bipush (v := 64) hx hb dX11_init_110 (by decide) ?_
  refine hv_newa (at_ := .int) hx hb hts 0 rfl rfl tw_105 hk hr hz hS 64 (64, .inl (fun _ => 0)) (fun _ => rfl) (by decide) (by decide) (by decide) (by show _ ≤ (645 : Nat); omega) (by show _ ≤ (34014 : Nat); omega) dX11_init_112 (fun H hr hS => ?_)
  obtain ⟨g27, eg27⟩ : ∃ q, q = nO g26 (.inl (0, (64, .inl (fun _ => 0)))) := ⟨_, rfl⟩
  rw [← eg27] at hr
  replace hs := lt_inv hs g27 eg27
  obtain ⟨g28, eg28, hs⟩ := bi_inv hs
  refine hv_pF (C := RX11) (T := TX11) (N := 23) (ci := 11) hx hb hts inX11 tyX11 tyX11_ok nmX11 hown hk hr hS rfl 17 (by decide) (hts _ tw_899) rfl hnm rfl rfl rfl eg28 dX11_init_114 (fun H locs hr hS => ?_)
  refine lv_aload_n hx hb dX11_init_117 rfl (lv_at hl 0 rfl) ?_
  refine lv_sipush (v := 201) hx hb dX11_init_118 (by decide) ?_
  refine hv_newa (at_ := .int) hx hb hts 0 rfl rfl tw_105 hk hr hz hS 201 (201, .inl (fun _ => 0)) (fun _ => rfl) (by decide) (by decide) (by decide) (by show _ ≤ (645 : Nat); omega) (by show _ ≤ (34014 : Nat); omega) dX11_init_121 (fun H hr hS => ?_)
  obtain ⟨g29, eg29⟩ : ∃ q, q = nO g28 (.inl (0, (201, .inl (fun _ => 0)))) := ⟨_, rfl⟩
  rw [← eg29] at hr
  replace hs := lt_inv hs g29 eg29
  obtain ⟨g30, eg30, hs⟩ := bi_inv hs
  refine hv_pF (C := RX11) (T := TX11) (N := 23) (ci := 11) hx hb hts inX11 tyX11 tyX11_ok nmX11 hown hk hr hS rfl 18 (by decide) (hts _ tw_900) rfl hnm rfl rfl rfl eg30 dX11_init_123 (fun H locs hr hS => ?_)
  refine lv_aload_n hx hb dX11_init_126 rfl (lv_at hl 0 rfl) ?_
  refine lv_sipush (v := 201) hx hb dX11_init_127 (by decide) ?_
  refine hv_newa (at_ := .int) hx hb hts 0 rfl rfl tw_105 hk hr hz hS 201 (201, .inl (fun _ => 0)) (fun _ => rfl) (by decide) (by decide) (by decide) (by show _ ≤ (645 : Nat); omega) (by show _ ≤ (34014 : Nat); omega) dX11_init_130 (fun H hr hS => ?_)
  obtain ⟨g31, eg31⟩ : ∃ q, q = nO g30 (.inl (0, (201, .inl (fun _ => 0)))) := ⟨_, rfl⟩
  rw [← eg31] at hr
  replace hs := lt_inv hs g31 eg31
  obtain ⟨g32, eg32, hs⟩ := bi_inv hs
  refine hv_pF (C := RX11) (T := TX11) (N := 23) (ci := 11) hx hb hts inX11 tyX11 tyX11_ok nmX11 hown hk hr hS rfl 19 (by decide) (hts _ tw_901) rfl hnm rfl rfl rfl eg32 dX11_init_132 (fun H locs hr hS => ?_)
  refine lv_aload_n hx hb dX11_init_135 rfl (lv_at hl 0 rfl) ?_
  refine lv_sipush (v := 201) hx hb dX11_init_136 (by decide) ?_
  refine hv_newq (C := "WideWholesModel$Whole") hx hb hown hts 5 rfl tw_855 hk.2.2.2.1 hk hr hz hS 201 (by decide) (by decide) (by decide) (by show _ ≤ (645 : Nat); omega) (by show _ ≤ (34014 : Nat); omega) dX11_init_139 (fun H hr hS => ?_)
  obtain ⟨g33, eg33⟩ : ∃ q, q = nO g32 (.inl (5, 201, .inr (.inr (.inr (.inr (fun _ => none)))))) := ⟨_, rfl⟩
  rw [← eg33] at hr
  replace hs := lt_inv hs g33 eg33
  obtain ⟨g34, eg34, hs⟩ := bi_inv hs
  refine hv_pF (C := RX11) (T := TX11) (N := 23) (ci := 11) hx hb hts inX11 tyX11 tyX11_ok nmX11 hown hk hr hS rfl 20 (by decide) (hts _ tw_902) rfl hnm rfl rfl rfl eg34 dX11_init_142 (fun H locs hr hS => ?_)
  refine lv_aload_n hx hb dX11_init_145 rfl (lv_at hl 0 rfl) ?_
  obtain ⟨x35, ex35, hs⟩ := bi_inv hs
  refine hv_gR (C := RX11) (T := TX11) (N := 23) (ci := 11) hx hb hts inX11 hown hk hr rfl 4 (by decide) (hts _ tw_886) ex35 dX11_init_146 ?_
  obtain ⟨x36, ex36, hs⟩ := bi_inv hs
  refine hv_gR (C := RX10) (T := TX10) (N := 3) (ci := 10) hx hb hts inX10 hown hk hr rfl 2 (by decide) (hts _ tw_867) ex36 dX11_init_149 ?_
  refine lv_iconst (v := 0) hx hb dX11_init_152 (by decide) ?_
  refine lv_iconst (v := 1) hx hb dX11_init_153 (by decide) ?_
  obtain ⟨g37, eg37, hs⟩ := bi_inv hs
  refine hv_sI hx hb hk hr hS eg37 dX11_init_154 (fun H locs hr hS => ?_)
  refine lv_aload_n hx hb dX11_init_155 rfl (lv_at hl 0 rfl) ?_
  obtain ⟨x38, ex38, hs⟩ := bi_inv hs
  refine hv_gR (C := RX11) (T := TX11) (N := 23) (ci := 11) hx hb hts inX11 hown hk hr rfl 4 (by decide) (hts _ tw_886) ex38 dX11_init_156 ?_
  refine lv_iconst (v := 1) hx hb dX11_init_159 (by decide) ?_
  obtain ⟨g39, eg39, hs⟩ := bi_inv hs
  refine hv_pV (C := RX10) (T := TX10) (N := 3) (ci := 10) hx hb hts inX10 tyX10 tyX10_ok nmX10 hown hk hr hS rfl 1 (by decide) (hts _ tw_865) rfl rfl rfl eg39 dX11_init_160 (fun H locs hr hS => ?_)
  refine lv_iconst (v := 0) hx hb dX11_init_163 (by decide) ?_
  refine lv_istore_n (lv' := [(1, .int ((0 : Int32))), (0, .ref u0)]) hx hb dX11_init_164 rfl hl (by decide) rfl (fun ls hl => ?_)
  obtain ⟨r46, er46, hs⟩ := bi_inv hs
  refine iter_W (fun (q : AH × Int32) => ∀ (kc ks : Nat) (H : Heap) (locs : List Loc) (ls : Array Slot), kc + 2 * (64 - (q.2).toNatClampNeg) ≤ 147 → ks + 103 * (64 - (q.2).toNatClampNeg) ≤ 8367 → 0 ≤ (q.2).toInt → hR D z q.1 H → va_S (hA z) s.heap H locs → lv_has ls 2 [(0, .ref u0), (1, .int q.2)] → W p l e ({ frames := 2, cells := 645, slots := 34014, locals := 69 } : Room) s m ([.ref u0] : List Value).toArray below meth c H locs kc ks (MQ below (hQ D z h' none) ([.ref u0] : List Value).toArray s 645 34014 (hA z)) (F0 m 165 ls [])) (fun (x : AH) => ∀ (kc ks : Nat) (H : Heap) (locs : List Loc) (ls : Array Slot), kc ≤ 147 → ks ≤ 8367 → hR D z x H → va_S (hA z) s.heap H locs → lv_has ls 2 [(0, .ref u0)] → W p l e ({ frames := 2, cells := 645, slots := 34014, locals := 69 } : Room) s m ([.ref u0] : List Value).toArray below meth c H locs kc ks (MQ below (hQ D z h' none) ([.ref u0] : List Value).toArray s 645 34014 (hA z)) (F0 m 190 ls [])) ?_ FU _ r46 er46 ?_ _ _ H locs ls (by dsimp only; decide) (by dsimp only; decide) (by dsimp only; decide) hr hS (lv_sub hl [1, 0] rfl)
  · intro q o hs hcont hexit
    obtain ⟨g40, w1⟩ := q
    replace hs : zb_X11_init_165 u0 g40 w1 = some o := hs
    intro kc ks H locs ls hkc hks hi0 hr hS hl
    dsimp only at hkc hks hi0
    unfold zb_X11_init_165 at hs
    refine lv_iload_n hx hb dX11_init_165 rfl (lv_at hl 1 rfl) ?_
    refine lv_bipush (v := 64) hx hb dX11_init_166 (by decide) ?_
    refine lv_icmp_ge (tgt := 190) hx hb dX11_init_168 (by decide) (fun c41 => ?_) (fun c41 => ?_)
    · rw [if_pos c41] at hs
      obtain rfl := Option.some.inj hs
      exact hexit _ rfl _ _ H locs ls (by omega) (by omega) hr hS (lv_sub hl [0] rfl)
    · rw [if_neg c41] at hs
      obtain ⟨hlt, hsu, hps⟩ := al_lt (i := w1) (N := 64) (b := 64) (by decide) c41 hi0 (by decide)
      refine lv_aload_n hx hb dX11_init_171 rfl (lv_at hl 0 rfl) ?_
      obtain ⟨x42, ex42, hs⟩ := bi_inv hs
      refine hv_gR (C := RX11) (T := TX11) (N := 23) (ci := 11) hx hb hts inX11 hown hk hr rfl 1 (by decide) (hts _ tw_883) ex42 dX11_init_172 ?_
      refine lv_iload_n hx hb dX11_init_175 rfl (lv_at hl 1 rfl) ?_
      refine hv_new (C := RX10) (T := TX10) (N := 3) (ci := 10) hx hb hts inX10 tyX10 tyX10_ok hown tw_855 tw_857 tw_12 hk hr hz hS rfl [.int 0, .int 0, .null] (by decide +kernel) (by show _ ≤ (645 : Nat); omega) (by show _ ≤ (34014 : Nat); omega) dX11_init_176 (fun H hr hS => ?_)
      obtain ⟨g43, eg43⟩ : ∃ q, q = nO g40 (.inr (10, [.int 0, .int 0, .null])) := ⟨_, rfl⟩
      rw [← eg43] at hr
      replace hs := lt_inv hs g43 eg43
      refine lv_dup hx hb dX11_init_179 rfl ?_
      obtain ⟨g44, eg44, hs⟩ := bi_inv hs
      refine hv_IN0 (n := 0) [] [.ref g40.2, .int w1, .ref x42] hx hb hml hown hts hk hr hz hS (zm_X10_init l D z eg44) hk.2.2.2.2 tw_859 tw_12 tw_860 rfl (by decide +kernel) (by decide) ⟨(by show _ ≤ (645 : Nat); omega), (by show _ ≤ (34014 : Nat); omega)⟩ rfl hl.1 (Nat.le_of_ble_eq_true rfl) dX11_init_180 rfl (fun H locs hr hS => ?_)
      obtain ⟨g45, eg45, hs⟩ := bi_inv hs
      refine hv_sR (C := "WideWholesModel$Whole") (T := TX10) (N := 3) hx hb hk hr hS rfl rfl eg45 dX11_init_183 (fun H locs hr hS => ?_)
      refine lv_iinc (v := w1 + (1 : Int32)) (lv' := [(1, .int (w1 + (1 : Int32))), (0, .ref u0)]) hx hb dX11_init_184 hl (k := 1) rfl (ii_v _ (by decide)) (by decide) rfl (fun ls hl => ?_)
      refine lv_goto (tgt := 165) hx hb dX11_init_187 (by decide) ?_
      obtain rfl := Option.some.inj hs
      exact hcont _ rfl _ _ H locs ls (by dsimp only; rw [hsu]; omega) (by dsimp only; rw [hsu]; omega) hps hr hS (lv_sub hl [1, 0] rfl)
  · intro kc ks H locs ls hkc hks hr hS hl
    refine W.widen (k := 147) (n := 8367) hkc hks ?_
    refine lv_iconst (v := 0) hx hb dX11_init_190 (by decide) ?_
    refine lv_istore_n (lv' := [(1, .int ((0 : Int32))), (0, .ref u0)]) hx hb dX11_init_191 rfl hl (by decide) rfl (fun ls hl => ?_)
    obtain ⟨r53, er53, hs⟩ := bi_inv hs
    refine iter_W (fun (q : AH × Int32) => ∀ (kc ks : Nat) (H : Heap) (locs : List Loc) (ls : Array Slot), kc + 2 * (24 - (q.2).toNatClampNeg) ≤ 195 → ks + 103 * (24 - (q.2).toNatClampNeg) ≤ 10839 → 0 ≤ (q.2).toInt → hR D z q.1 H → va_S (hA z) s.heap H locs → lv_has ls 2 [(0, .ref u0), (1, .int q.2)] → W p l e ({ frames := 2, cells := 645, slots := 34014, locals := 69 } : Room) s m ([.ref u0] : List Value).toArray below meth c H locs kc ks (MQ below (hQ D z h' none) ([.ref u0] : List Value).toArray s 645 34014 (hA z)) (F0 m 192 ls [])) (fun (x : AH) => ∀ (kc ks : Nat) (H : Heap) (locs : List Loc) (ls : Array Slot), kc ≤ 195 → ks ≤ 10839 → hR D z x H → va_S (hA z) s.heap H locs → lv_has ls 2 [(0, .ref u0)] → W p l e ({ frames := 2, cells := 645, slots := 34014, locals := 69 } : Room) s m ([.ref u0] : List Value).toArray below meth c H locs kc ks (MQ below (hQ D z h' none) ([.ref u0] : List Value).toArray s 645 34014 (hA z)) (F0 m 217 ls [])) ?_ FU _ r53 er53 ?_ _ _ H locs ls (by dsimp only; decide) (by dsimp only; decide) (by dsimp only; decide) hr hS (lv_sub hl [1, 0] rfl)
    · intro q o hs hcont hexit
      obtain ⟨g47, w1⟩ := q
      replace hs : zb_X11_init_192 u0 g47 w1 = some o := hs
      intro kc ks H locs ls hkc hks hi0 hr hS hl
      dsimp only at hkc hks hi0
      unfold zb_X11_init_192 at hs
      refine lv_iload_n hx hb dX11_init_192 rfl (lv_at hl 1 rfl) ?_
      refine lv_bipush (v := 24) hx hb dX11_init_193 (by decide) ?_
      refine lv_icmp_ge (tgt := 217) hx hb dX11_init_195 (by decide) (fun c48 => ?_) (fun c48 => ?_)
      · rw [if_pos c48] at hs
        obtain rfl := Option.some.inj hs
        exact hexit _ rfl _ _ H locs ls (by omega) (by omega) hr hS (lv_sub hl [0] rfl)
      · rw [if_neg c48] at hs
        obtain ⟨hlt, hsu, hps⟩ := al_lt (i := w1) (N := 24) (b := 24) (by decide) c48 hi0 (by decide)
        refine lv_aload_n hx hb dX11_init_198 rfl (lv_at hl 0 rfl) ?_
        obtain ⟨x49, ex49, hs⟩ := bi_inv hs
        refine hv_gR (C := RX11) (T := TX11) (N := 23) (ci := 11) hx hb hts inX11 hown hk hr rfl 9 (by decide) (hts _ tw_891) ex49 dX11_init_199 ?_
        refine lv_iload_n hx hb dX11_init_202 rfl (lv_at hl 1 rfl) ?_
        refine hv_new (C := RX10) (T := TX10) (N := 3) (ci := 10) hx hb hts inX10 tyX10 tyX10_ok hown tw_855 tw_857 tw_12 hk hr hz hS rfl [.int 0, .int 0, .null] (by decide +kernel) (by show _ ≤ (645 : Nat); omega) (by show _ ≤ (34014 : Nat); omega) dX11_init_203 (fun H hr hS => ?_)
        obtain ⟨g50, eg50⟩ : ∃ q, q = nO g47 (.inr (10, [.int 0, .int 0, .null])) := ⟨_, rfl⟩
        rw [← eg50] at hr
        replace hs := lt_inv hs g50 eg50
        refine lv_dup hx hb dX11_init_206 rfl ?_
        obtain ⟨g51, eg51, hs⟩ := bi_inv hs
        refine hv_IN0 (n := 0) [] [.ref g47.2, .int w1, .ref x49] hx hb hml hown hts hk hr hz hS (zm_X10_init l D z eg51) hk.2.2.2.2 tw_859 tw_12 tw_860 rfl (by decide +kernel) (by decide) ⟨(by show _ ≤ (645 : Nat); omega), (by show _ ≤ (34014 : Nat); omega)⟩ rfl hl.1 (Nat.le_of_ble_eq_true rfl) dX11_init_207 rfl (fun H locs hr hS => ?_)
        obtain ⟨g52, eg52, hs⟩ := bi_inv hs
        refine hv_sR (C := "WideWholesModel$Whole") (T := TX10) (N := 3) hx hb hk hr hS rfl rfl eg52 dX11_init_210 (fun H locs hr hS => ?_)
        refine lv_iinc (v := w1 + (1 : Int32)) (lv' := [(1, .int (w1 + (1 : Int32))), (0, .ref u0)]) hx hb dX11_init_211 hl (k := 1) rfl (ii_v _ (by decide)) (by decide) rfl (fun ls hl => ?_)
        refine lv_goto (tgt := 192) hx hb dX11_init_214 (by decide) ?_
        obtain rfl := Option.some.inj hs
        exact hcont _ rfl _ _ H locs ls (by dsimp only; rw [hsu]; omega) (by dsimp only; rw [hsu]; omega) hps hr hS (lv_sub hl [1, 0] rfl)
    · intro kc ks H locs ls hkc hks hr hS hl
      refine W.widen (k := 195) (n := 10839) hkc hks ?_
      refine lv_iconst (v := 0) hx hb dX11_init_217 (by decide) ?_
      refine lv_istore_n (lv' := [(1, .int ((0 : Int32))), (0, .ref u0)]) hx hb dX11_init_218 rfl hl (by decide) rfl (fun ls hl => ?_)
      obtain ⟨r69, er69, hs⟩ := bi_inv hs
      refine iter_W (fun (q : AH × Int32) => ∀ (kc ks : Nat) (H : Heap) (locs : List Loc) (ls : Array Slot), kc + 4 * (12 - (q.2).toNatClampNeg) ≤ 243 → ks + 206 * (12 - (q.2).toNatClampNeg) ≤ 13311 → 0 ≤ (q.2).toInt → hR D z q.1 H → va_S (hA z) s.heap H locs → lv_has ls 2 [(0, .ref u0), (1, .int q.2)] → W p l e ({ frames := 2, cells := 645, slots := 34014, locals := 69 } : Room) s m ([.ref u0] : List Value).toArray below meth c H locs kc ks (MQ below (hQ D z h' none) ([.ref u0] : List Value).toArray s 645 34014 (hA z)) (F0 m 219 ls [])) (fun (x : AH) => ∀ (kc ks : Nat) (H : Heap) (locs : List Loc) (ls : Array Slot), kc ≤ 243 → ks ≤ 13311 → hR D z x H → va_S (hA z) s.heap H locs → lv_has ls 2 [(0, .ref u0)] → W p l e ({ frames := 2, cells := 645, slots := 34014, locals := 69 } : Room) s m ([.ref u0] : List Value).toArray below meth c H locs kc ks (MQ below (hQ D z h' none) ([.ref u0] : List Value).toArray s 645 34014 (hA z)) (F0 m 270 ls [])) ?_ FU _ r69 er69 ?_ _ _ H locs ls (by dsimp only; decide) (by dsimp only; decide) (by dsimp only; decide) hr hS (lv_sub hl [1, 0] rfl)
      · intro q o hs hcont hexit
        obtain ⟨g54, w1⟩ := q
        replace hs : zb_X11_init_219 u0 g54 w1 = some o := hs
        intro kc ks H locs ls hkc hks hi0 hr hS hl
        dsimp only at hkc hks hi0
        unfold zb_X11_init_219 at hs
        refine lv_iload_n hx hb dX11_init_219 rfl (lv_at hl 1 rfl) ?_
        refine lv_bipush (v := 12) hx hb dX11_init_220 (by decide) ?_
        refine lv_icmp_ge (tgt := 270) hx hb dX11_init_222 (by decide) (fun c55 => ?_) (fun c55 => ?_)
        · rw [if_pos c55] at hs
          obtain rfl := Option.some.inj hs
          exact hexit _ rfl _ _ H locs ls (by omega) (by omega) hr hS (lv_sub hl [0] rfl)
        · rw [if_neg c55] at hs
          obtain ⟨hlt, hsu, hps⟩ := al_lt (i := w1) (N := 12) (b := 12) (by decide) c55 hi0 (by decide)
          refine lv_aload_n hx hb dX11_init_225 rfl (lv_at hl 0 rfl) ?_
          obtain ⟨x56, ex56, hs⟩ := bi_inv hs
          refine hv_gR (C := RX11) (T := TX11) (N := 23) (ci := 11) hx hb hts inX11 hown hk hr rfl 10 (by decide) (hts _ tw_892) ex56 dX11_init_226 ?_
          refine lv_iload_n hx hb dX11_init_229 rfl (lv_at hl 1 rfl) ?_
          refine hv_new (C := RX10) (T := TX10) (N := 3) (ci := 10) hx hb hts inX10 tyX10 tyX10_ok hown tw_855 tw_857 tw_12 hk hr hz hS rfl [.int 0, .int 0, .null] (by decide +kernel) (by show _ ≤ (645 : Nat); omega) (by show _ ≤ (34014 : Nat); omega) dX11_init_230 (fun H hr hS => ?_)
          obtain ⟨g57, eg57⟩ : ∃ q, q = nO g54 (.inr (10, [.int 0, .int 0, .null])) := ⟨_, rfl⟩
          rw [← eg57] at hr
          replace hs := lt_inv hs g57 eg57
          refine lv_dup hx hb dX11_init_233 rfl ?_
          obtain ⟨g58, eg58, hs⟩ := bi_inv hs
          refine hv_IN0 (n := 0) [] [.ref g54.2, .int w1, .ref x56] hx hb hml hown hts hk hr hz hS (zm_X10_init l D z eg58) hk.2.2.2.2 tw_859 tw_12 tw_860 rfl (by decide +kernel) (by decide) ⟨(by show _ ≤ (645 : Nat); omega), (by show _ ≤ (34014 : Nat); omega)⟩ rfl hl.1 (Nat.le_of_ble_eq_true rfl) dX11_init_234 rfl (fun H locs hr hS => ?_)
          obtain ⟨g59, eg59, hs⟩ := bi_inv hs
          refine hv_sR (C := "WideWholesModel$Whole") (T := TX10) (N := 3) hx hb hk hr hS rfl rfl eg59 dX11_init_237 (fun H locs hr hS => ?_)
          refine lv_aload_n hx hb dX11_init_238 rfl (lv_at hl 0 rfl) ?_
          obtain ⟨x60, ex60, hs⟩ := bi_inv hs
          refine hv_gR (C := RX11) (T := TX11) (N := 23) (ci := 11) hx hb hts inX11 hown hk hr rfl 11 (by decide) (hts _ tw_893) ex60 dX11_init_239 ?_
          refine lv_iload_n hx hb dX11_init_242 rfl (lv_at hl 1 rfl) ?_
          refine hv_new (C := RX10) (T := TX10) (N := 3) (ci := 10) hx hb hts inX10 tyX10 tyX10_ok hown tw_855 tw_857 tw_12 hk hr hz hS rfl [.int 0, .int 0, .null] (by decide +kernel) (by show _ ≤ (645 : Nat); omega) (by show _ ≤ (34014 : Nat); omega) dX11_init_243 (fun H hr hS => ?_)
          obtain ⟨g61, eg61⟩ : ∃ q, q = nO g59 (.inr (10, [.int 0, .int 0, .null])) := ⟨_, rfl⟩
          rw [← eg61] at hr
          replace hs := lt_inv hs g61 eg61
          refine lv_dup hx hb dX11_init_246 rfl ?_
          obtain ⟨g62, eg62, hs⟩ := bi_inv hs
          refine hv_IN0 (n := 0) [] [.ref g59.2, .int w1, .ref x60] hx hb hml hown hts hk hr hz hS (zm_X10_init l D z eg62) hk.2.2.2.2 tw_859 tw_12 tw_860 rfl (by decide +kernel) (by decide) ⟨(by show _ ≤ (645 : Nat); omega), (by show _ ≤ (34014 : Nat); omega)⟩ rfl hl.1 (Nat.le_of_ble_eq_true rfl) dX11_init_247 rfl (fun H locs hr hS => ?_)
          obtain ⟨g63, eg63, hs⟩ := bi_inv hs
          refine hv_sR (C := "WideWholesModel$Whole") (T := TX10) (N := 3) hx hb hk hr hS rfl rfl eg63 dX11_init_250 (fun H locs hr hS => ?_)
          refine lv_aload_n hx hb dX11_init_251 rfl (lv_at hl 0 rfl) ?_
          obtain ⟨x64, ex64, hs⟩ := bi_inv hs
          refine hv_gR (C := RX11) (T := TX11) (N := 23) (ci := 11) hx hb hts inX11 hown hk hr rfl 11 (by decide) (hts _ tw_893) ex64 dX11_init_252 ?_
          refine lv_iload_n hx hb dX11_init_255 rfl (lv_at hl 1 rfl) ?_
          obtain ⟨x65, ex65, hs⟩ := bi_inv hs
          refine hv_aR (kd := 5) hx hb hk hr rfl ex65 dX11_init_256 ?_
          refine lv_aload_n hx hb dX11_init_257 rfl (lv_at hl 0 rfl) ?_
          obtain ⟨x66, ex66, hs⟩ := bi_inv hs
          refine hv_gR (C := RX11) (T := TX11) (N := 23) (ci := 11) hx hb hts inX11 hown hk hr rfl 4 (by decide) (hts _ tw_886) ex66 dX11_init_258 ?_
          obtain ⟨_, ex67, hs⟩ := bi_inv hs
          obtain ⟨g68, eg68, hs⟩ := bi_inv hs
          refine hv_V0 (n := 1) [.ref x66] [] hx hb hml hown hts hk hr hz hS (zm_X10_become l D z eg68) ex67 rfl tw_875 tw_876 tw_877 tw_12 tw_878 (by decide +kernel) (by decide) ⟨(by show _ ≤ (645 : Nat); omega), (by show _ ≤ (34014 : Nat); omega)⟩ rfl hl.1 (Nat.le_of_ble_eq_true rfl) dX11_init_261 rfl (fun H locs hr hS => ?_)
          refine lv_iinc (v := w1 + (1 : Int32)) (lv' := [(1, .int (w1 + (1 : Int32))), (0, .ref u0)]) hx hb dX11_init_264 hl (k := 1) rfl (ii_v _ (by decide)) (by decide) rfl (fun ls hl => ?_)
          refine lv_goto (tgt := 219) hx hb dX11_init_267 (by decide) ?_
          obtain rfl := Option.some.inj hs
          exact hcont _ rfl _ _ H locs ls (by dsimp only; rw [hsu]; omega) (by dsimp only; rw [hsu]; omega) hps hr hS (lv_sub hl [1, 0] rfl)
      · intro kc ks H locs ls hkc hks hr hS hl
        refine W.widen (k := 243) (n := 13311) hkc hks ?_
        refine lv_iconst (v := 0) hx hb dX11_init_270 (by decide) ?_
        refine lv_istore_n (lv' := [(1, .int ((0 : Int32))), (0, .ref u0)]) hx hb dX11_init_271 rfl hl (by decide) rfl (fun ls hl => ?_)
        obtain ⟨r76, er76, hs⟩ := bi_inv hs
        refine iter_W (fun (q : AH × Int32) => ∀ (kc ks : Nat) (H : Heap) (locs : List Loc) (ls : Array Slot), kc + 2 * (201 - (q.2).toNatClampNeg) ≤ 645 → ks + 103 * (201 - (q.2).toNatClampNeg) ≤ 34014 → 0 ≤ (q.2).toInt → hR D z q.1 H → va_S (hA z) s.heap H locs → lv_has ls 2 [(0, .ref u0), (1, .int q.2)] → W p l e ({ frames := 2, cells := 645, slots := 34014, locals := 69 } : Room) s m ([.ref u0] : List Value).toArray below meth c H locs kc ks (MQ below (hQ D z h' none) ([.ref u0] : List Value).toArray s 645 34014 (hA z)) (F0 m 272 ls [])) (fun (x : AH) => ∀ (kc ks : Nat) (H : Heap) (locs : List Loc) (ls : Array Slot), kc ≤ 645 → ks ≤ 34014 → hR D z x H → va_S (hA z) s.heap H locs → lv_has ls 2 [] → W p l e ({ frames := 2, cells := 645, slots := 34014, locals := 69 } : Room) s m ([.ref u0] : List Value).toArray below meth c H locs kc ks (MQ below (hQ D z h' none) ([.ref u0] : List Value).toArray s 645 34014 (hA z)) (F0 m 298 ls [])) ?_ FU _ r76 er76 ?_ _ _ H locs ls (by dsimp only; decide) (by dsimp only; decide) (by dsimp only; decide) hr hS (lv_sub hl [1, 0] rfl)
        · intro q o hs hcont hexit
          obtain ⟨g70, w1⟩ := q
          replace hs : zb_X11_init_272 u0 g70 w1 = some o := hs
          intro kc ks H locs ls hkc hks hi0 hr hS hl
          dsimp only at hkc hks hi0
          unfold zb_X11_init_272 at hs
          refine lv_iload_n hx hb dX11_init_272 rfl (lv_at hl 1 rfl) ?_
          refine lv_sipush (v := 200) hx hb dX11_init_273 (by decide) ?_
          refine lv_icmp_gt (tgt := 298) hx hb dX11_init_276 (by decide) (fun c71 => ?_) (fun c71 => ?_)
          · rw [if_pos c71] at hs
            obtain rfl := Option.some.inj hs
            exact hexit _ rfl _ _ H locs ls (by omega) (by omega) hr hS (lv_sub hl [] rfl)
          · rw [if_neg c71] at hs
            obtain ⟨hlt, hsu, hps⟩ := al_lt2 (i := w1) (N := 201) (b := 200) (by decide) c71 hi0 (by decide)
            refine lv_aload_n hx hb dX11_init_279 rfl (lv_at hl 0 rfl) ?_
            obtain ⟨x72, ex72, hs⟩ := bi_inv hs
            refine hv_gR (C := RX11) (T := TX11) (N := 23) (ci := 11) hx hb hts inX11 hown hk hr rfl 20 (by decide) (hts _ tw_902) ex72 dX11_init_280 ?_
            refine lv_iload_n hx hb dX11_init_283 rfl (lv_at hl 1 rfl) ?_
            refine hv_new (C := RX10) (T := TX10) (N := 3) (ci := 10) hx hb hts inX10 tyX10 tyX10_ok hown tw_855 tw_857 tw_12 hk hr hz hS rfl [.int 0, .int 0, .null] (by decide +kernel) (by show _ ≤ (645 : Nat); omega) (by show _ ≤ (34014 : Nat); omega) dX11_init_284 (fun H hr hS => ?_)
            obtain ⟨g73, eg73⟩ : ∃ q, q = nO g70 (.inr (10, [.int 0, .int 0, .null])) := ⟨_, rfl⟩
            rw [← eg73] at hr
            replace hs := lt_inv hs g73 eg73
            refine lv_dup hx hb dX11_init_287 rfl ?_
            obtain ⟨g74, eg74, hs⟩ := bi_inv hs
            refine hv_IN0 (n := 0) [] [.ref g70.2, .int w1, .ref x72] hx hb hml hown hts hk hr hz hS (zm_X10_init l D z eg74) hk.2.2.2.2 tw_859 tw_12 tw_860 rfl (by decide +kernel) (by decide) ⟨(by show _ ≤ (645 : Nat); omega), (by show _ ≤ (34014 : Nat); omega)⟩ rfl hl.1 (Nat.le_of_ble_eq_true rfl) dX11_init_288 rfl (fun H locs hr hS => ?_)
            obtain ⟨g75, eg75, hs⟩ := bi_inv hs
            refine hv_sR (C := "WideWholesModel$Whole") (T := TX10) (N := 3) hx hb hk hr hS rfl rfl eg75 dX11_init_291 (fun H locs hr hS => ?_)
            refine lv_iinc (v := w1 + (1 : Int32)) (lv' := [(1, .int (w1 + (1 : Int32))), (0, .ref u0)]) hx hb dX11_init_292 hl (k := 1) rfl (ii_v _ (by decide)) (by decide) rfl (fun ls hl => ?_)
            refine lv_goto (tgt := 272) hx hb dX11_init_295 (by decide) ?_
            obtain rfl := Option.some.inj hs
            exact hcont _ rfl _ _ H locs ls (by dsimp only; rw [hsu]; omega) (by dsimp only; rw [hsu]; omega) hps hr hS (lv_sub hl [1, 0] rfl)
        · intro kc ks H locs ls hkc hks hr hS hl
          refine W.widen (k := 645) (n := 34014) hkc hks ?_
          obtain rfl := Option.some.inj hs
          exact hv_vret hx hb hrt hlk hr hS dX11_init_298
theorem dX11_wrongRest_0 : decode cX11_wrongRest 0 = .ok (.aload_n 1, 1) := by decide +kernel
theorem dX11_wrongRest_1 : decode cX11_wrongRest 1 = .ok (.invokevirtual 60, 3) := by decide +kernel
theorem dX11_wrongRest_4 : decode cX11_wrongRest 4 = .ok (.ifCond .eq 8, 3) := by decide +kernel
theorem dX11_wrongRest_7 : decode cX11_wrongRest 7 = .ok (.bipush (-2), 2) := by decide +kernel
theorem dX11_wrongRest_9 : decode cX11_wrongRest 9 = .ok (.goto 26, 3) := by decide +kernel
theorem dX11_wrongRest_12 : decode cX11_wrongRest 12 = .ok (.aload_n 1, 1) := by decide +kernel
theorem dX11_wrongRest_13 : decode cX11_wrongRest 13 = .ok (.getfield 38, 3) := by decide +kernel
theorem dX11_wrongRest_16 : decode cX11_wrongRest 16 = .ok (.ifCond .ne 13, 3) := by decide +kernel
theorem dX11_wrongRest_19 : decode cX11_wrongRest 19 = .ok (.aload_n 1, 1) := by decide +kernel
theorem dX11_wrongRest_20 : decode cX11_wrongRest 20 = .ok (.invokevirtual 131, 3) := by decide +kernel
theorem dX11_wrongRest_23 : decode cX11_wrongRest 23 = .ok (.sipush 128, 3) := by decide +kernel
theorem dX11_wrongRest_26 : decode cX11_wrongRest 26 = .ok (.if_icmp .le 8, 3) := by decide +kernel
theorem dX11_wrongRest_29 : decode cX11_wrongRest 29 = .ok (.bipush (-3), 2) := by decide +kernel
theorem dX11_wrongRest_31 : decode cX11_wrongRest 31 = .ok (.goto 4, 3) := by decide +kernel
theorem dX11_wrongRest_34 : decode cX11_wrongRest 34 = .ok (.iconst 1, 1) := by decide +kernel
theorem dX11_wrongRest_35 : decode cX11_wrongRest 35 = .ok (.ireturn, 1) := by decide +kernel
def zs_X11_wrongRest (h : AH) (u0 : Nat) (u1 : Nat) : Option Int32 :=
  (chk h u1 10).bind fun _ => (zs_X10_isZero h u1).bind fun x2 => (if x2 = 0 then (gI h u1 10 0).bind fun x4 => (if x4 = 0 then (chk h u1 10).bind fun _ => (zs_X10_bits h u1).bind fun x7 => (if x7 ≤ (128 : Int32) then some ((1 : Int32)) else some ((-3 : Int32))) else some ((-3 : Int32))) else some ((-2 : Int32)))
set_option maxRecDepth 100000 in
set_option maxHeartbeats 4000000 in
theorem zm_X11_wrongRest (l : Launch) (D : hG) (z : Nat) {h : AH} {u0 : Nat} {u1 : Nat} {r : Int32} (hs : zs_X11_wrongRest h u0 u1 = some r) : hC l D z yX11_wrongRest cX11_wrongRest 2 (Option.some Jvm.ClassFile.FieldType.int) 2 41 0 0 [.ref u0, .ref u1] h h (some (.int r)) := by
  refine hC_of (by decide) (Nat.le_of_ble_eq_true rfl) ?_
  intro p e s m below meth c hx hb hml hrt hlk hown hnm hts hk hr hz ls hl
  replace hown : s.vm.findClass RX11 = some m.cls := hown
  replace hl : lv_has ls 2 [(0, .ref u0), (1, .ref u1)] := hl
  have hS : va_S (hA z) s.heap s.heap [] := va_S.rf
  suffices hgo : ∀ (H : Heap) (locs : List Loc), hR D z h H → va_S (hA z) s.heap H locs → W p l e ({ frames := 2, cells := 0, slots := 0, locals := 41 } : Room) s m ([.ref u0, .ref u1] : List Value).toArray below meth c H locs 0 0 (MQ below (hQ D z h (some (.int r))) ([.ref u0, .ref u1] : List Value).toArray s 0 0 (hA z)) (F0 m 0 ls []) from hgo _ _ hr hS
  clear hr hS
  intro H locs hr hS
  unfold zs_X11_wrongRest at hs
  refine lv_aload_n hx hb dX11_wrongRest_0 rfl (lv_at hl 1 rfl) ?_
  obtain ⟨_, ex1, hs⟩ := bi_inv hs
  obtain ⟨x2, ex2, hs⟩ := bi_inv hs
  refine hv_V1 (n := 0) [] [] hx hb hml hown hts hk hr hz hS (zm_X10_isZero l D z ex2) ex1 rfl tw_1011 tw_1012 tw_1013 tw_12 tw_1014 (by decide +kernel) (by decide) ⟨(Nat.zero_le _), (Nat.zero_le _)⟩ rfl hl.1 (Nat.le_of_ble_eq_true rfl) dX11_wrongRest_1 rfl (fun H locs hr hS => ?_)
  refine lv_if_eq (tgt := 12) hx hb dX11_wrongRest_4 (by decide) (fun c3 => ?_) (fun c3 => ?_)
  · rw [if_pos c3] at hs
    refine lv_aload_n hx hb dX11_wrongRest_12 rfl (lv_at hl 1 rfl) ?_
    obtain ⟨x4, ex4, hs⟩ := bi_inv hs
    refine hv_gI (C := RX10) (T := TX10) (N := 3) (ci := 10) hx hb hts inX10 hown hk hr rfl 0 (by decide) (hts _ tw_863) ex4 dX11_wrongRest_13 ?_
    refine lv_if_ne (tgt := 29) hx hb dX11_wrongRest_16 (by decide) (fun c5 => ?_) (fun c5 => ?_)
    · rw [if_neg c5] at hs
      refine lv_bipush (v := (-3)) hx hb dX11_wrongRest_29 (by decide) ?_
      refine lv_goto (tgt := 35) hx hb dX11_wrongRest_31 (by decide) ?_
      obtain rfl := Option.some.inj hs
      exact hv_iret hx hb hrt hlk hr hS dX11_wrongRest_35
    · rw [if_pos c5] at hs
      refine lv_aload_n hx hb dX11_wrongRest_19 rfl (lv_at hl 1 rfl) ?_
      obtain ⟨_, ex6, hs⟩ := bi_inv hs
      obtain ⟨x7, ex7, hs⟩ := bi_inv hs
      refine hv_V1 (n := 0) [] [] hx hb hml hown hts hk hr hz hS (zm_X10_bits l D z ex7) ex6 rfl tw_980 tw_981 tw_982 tw_12 tw_983 (by decide +kernel) (by decide) ⟨(Nat.zero_le _), (Nat.zero_le _)⟩ rfl hl.1 (Nat.le_of_ble_eq_true rfl) dX11_wrongRest_20 rfl (fun H locs hr hS => ?_)
      refine lv_sipush (v := 128) hx hb dX11_wrongRest_23 (by decide) ?_
      refine lv_icmp_le (tgt := 34) hx hb dX11_wrongRest_26 (by decide) (fun c8 => ?_) (fun c8 => ?_)
      · rw [if_pos c8] at hs
        refine lv_iconst (v := 1) hx hb dX11_wrongRest_34 (by decide) ?_
        obtain rfl := Option.some.inj hs
        exact hv_iret hx hb hrt hlk hr hS dX11_wrongRest_35
      · rw [if_neg c8] at hs
        refine lv_bipush (v := (-3)) hx hb dX11_wrongRest_29 (by decide) ?_
        refine lv_goto (tgt := 35) hx hb dX11_wrongRest_31 (by decide) ?_
        obtain rfl := Option.some.inj hs
        exact hv_iret hx hb hrt hlk hr hS dX11_wrongRest_35
  · rw [if_neg c3] at hs
    refine lv_bipush (v := (-2)) hx hb dX11_wrongRest_7 (by decide) ?_
    refine lv_goto (tgt := 35) hx hb dX11_wrongRest_9 (by decide) ?_
    obtain rfl := Option.some.inj hs
    exact hv_iret hx hb hrt hlk hr hS dX11_wrongRest_35
theorem dX11_inverse_0 : decode cX11_inverse 0 = .ok (.aload_n 0, 1) := by decide +kernel
theorem dX11_inverse_1 : decode cX11_inverse 1 = .ok (.iload_n 1, 1) := by decide +kernel
theorem dX11_inverse_2 : decode cX11_inverse 2 = .ok (.invokevirtual 177, 3) := by decide +kernel
theorem dX11_inverse_5 : decode cX11_inverse 5 = .ok (.ifCond .eq 19, 3) := by decide +kernel
theorem dX11_inverse_8 : decode cX11_inverse 8 = .ok (.aload_n 0, 1) := by decide +kernel
theorem dX11_inverse_9 : decode cX11_inverse 9 = .ok (.iload_n 2, 1) := by decide +kernel
theorem dX11_inverse_10 : decode cX11_inverse 10 = .ok (.invokevirtual 177, 3) := by decide +kernel
theorem dX11_inverse_13 : decode cX11_inverse 13 = .ok (.ifCond .eq 11, 3) := by decide +kernel
theorem dX11_inverse_16 : decode cX11_inverse 16 = .ok (.aload_n 0, 1) := by decide +kernel
theorem dX11_inverse_17 : decode cX11_inverse 17 = .ok (.iload_n 3, 1) := by decide +kernel
theorem dX11_inverse_18 : decode cX11_inverse 18 = .ok (.invokevirtual 177, 3) := by decide +kernel
theorem dX11_inverse_21 : decode cX11_inverse 21 = .ok (.ifCond .ne 5, 3) := by decide +kernel
theorem dX11_inverse_24 : decode cX11_inverse 24 = .ok (.iconst (-1), 1) := by decide +kernel
theorem dX11_inverse_25 : decode cX11_inverse 25 = .ok (.ireturn, 1) := by decide +kernel
theorem dX11_inverse_26 : decode cX11_inverse 26 = .ok (.aload_n 0, 1) := by decide +kernel
theorem dX11_inverse_27 : decode cX11_inverse 27 = .ok (.getfield 142, 3) := by decide +kernel
theorem dX11_inverse_30 : decode cX11_inverse 30 = .ok (.iload_n 2, 1) := by decide +kernel
theorem dX11_inverse_31 : decode cX11_inverse 31 = .ok (.aaload, 1) := by decide +kernel
theorem dX11_inverse_32 : decode cX11_inverse 32 = .ok (.astore 4, 2) := by decide +kernel
theorem dX11_inverse_34 : decode cX11_inverse 34 = .ok (.aload_n 0, 1) := by decide +kernel
theorem dX11_inverse_35 : decode cX11_inverse 35 = .ok (.aload 4, 2) := by decide +kernel
theorem dX11_inverse_37 : decode cX11_inverse 37 = .ok (.invokevirtual 218, 3) := by decide +kernel
theorem dX11_inverse_40 : decode cX11_inverse 40 = .ok (.istore 5, 2) := by decide +kernel
theorem dX11_inverse_42 : decode cX11_inverse 42 = .ok (.iload 5, 2) := by decide +kernel
theorem dX11_inverse_44 : decode cX11_inverse 44 = .ok (.ifCond .ge 6, 3) := by decide +kernel
theorem dX11_inverse_47 : decode cX11_inverse 47 = .ok (.iload 5, 2) := by decide +kernel
theorem dX11_inverse_49 : decode cX11_inverse 49 = .ok (.ireturn, 1) := by decide +kernel
theorem dX11_inverse_50 : decode cX11_inverse 50 = .ok (.aload_n 0, 1) := by decide +kernel
theorem dX11_inverse_51 : decode cX11_inverse 51 = .ok (.aload 4, 2) := by decide +kernel
theorem dX11_inverse_53 : decode cX11_inverse 53 = .ok (.invokevirtual 34, 3) := by decide +kernel
theorem dX11_inverse_56 : decode cX11_inverse 56 = .ok (.astore 6, 2) := by decide +kernel
theorem dX11_inverse_58 : decode cX11_inverse 58 = .ok (.aload_n 0, 1) := by decide +kernel
theorem dX11_inverse_59 : decode cX11_inverse 59 = .ok (.iconst 2, 1) := by decide +kernel
theorem dX11_inverse_60 : decode cX11_inverse 60 = .ok (.aload_n 0, 1) := by decide +kernel
theorem dX11_inverse_61 : decode cX11_inverse 61 = .ok (.getfield 142, 3) := by decide +kernel
theorem dX11_inverse_64 : decode cX11_inverse 64 = .ok (.iload_n 1, 1) := by decide +kernel
theorem dX11_inverse_65 : decode cX11_inverse 65 = .ok (.aaload, 1) := by decide +kernel
theorem dX11_inverse_66 : decode cX11_inverse 66 = .ok (.aload 4, 2) := by decide +kernel
theorem dX11_inverse_68 : decode cX11_inverse 68 = .ok (.invokevirtual 207, 3) := by decide +kernel
theorem dX11_inverse_71 : decode cX11_inverse 71 = .ok (.aload_n 0, 1) := by decide +kernel
theorem dX11_inverse_72 : decode cX11_inverse 72 = .ok (.aload_n 0, 1) := by decide +kernel
theorem dX11_inverse_73 : decode cX11_inverse 73 = .ok (.getfield 84, 3) := by decide +kernel
theorem dX11_inverse_76 : decode cX11_inverse 76 = .ok (.invokevirtual 34, 3) := by decide +kernel
theorem dX11_inverse_79 : decode cX11_inverse 79 = .ok (.astore 7, 2) := by decide +kernel
theorem dX11_inverse_81 : decode cX11_inverse 81 = .ok (.aload_n 0, 1) := by decide +kernel
theorem dX11_inverse_82 : decode cX11_inverse 82 = .ok (.aload_n 0, 1) := by decide +kernel
theorem dX11_inverse_83 : decode cX11_inverse 83 = .ok (.getfield 74, 3) := by decide +kernel
theorem dX11_inverse_86 : decode cX11_inverse 86 = .ok (.invokevirtual 34, 3) := by decide +kernel
theorem dX11_inverse_89 : decode cX11_inverse 89 = .ok (.astore 8, 2) := by decide +kernel
theorem dX11_inverse_91 : decode cX11_inverse 91 = .ok (.aload_n 0, 1) := by decide +kernel
theorem dX11_inverse_92 : decode cX11_inverse 92 = .ok (.aload_n 0, 1) := by decide +kernel
theorem dX11_inverse_93 : decode cX11_inverse 93 = .ok (.getfield 113, 3) := by decide +kernel
theorem dX11_inverse_96 : decode cX11_inverse 96 = .ok (.invokevirtual 34, 3) := by decide +kernel
theorem dX11_inverse_99 : decode cX11_inverse 99 = .ok (.astore 9, 2) := by decide +kernel
theorem dX11_inverse_101 : decode cX11_inverse 101 = .ok (.aload_n 0, 1) := by decide +kernel
theorem dX11_inverse_102 : decode cX11_inverse 102 = .ok (.getfield 7, 3) := by decide +kernel
theorem dX11_inverse_105 : decode cX11_inverse 105 = .ok (.istore 10, 2) := by decide +kernel
theorem dX11_inverse_107 : decode cX11_inverse 107 = .ok (.aload 7, 2) := by decide +kernel
theorem dX11_inverse_109 : decode cX11_inverse 109 = .ok (.invokevirtual 60, 3) := by decide +kernel
theorem dX11_inverse_112 : decode cX11_inverse 112 = .ok (.ifCond .ne 69, 3) := by decide +kernel
theorem dX11_inverse_115 : decode cX11_inverse 115 = .ok (.aload_n 0, 1) := by decide +kernel
theorem dX11_inverse_116 : decode cX11_inverse 116 = .ok (.iconst 0, 1) := by decide +kernel
theorem dX11_inverse_117 : decode cX11_inverse 117 = .ok (.aload 6, 2) := by decide +kernel
theorem dX11_inverse_119 : decode cX11_inverse 119 = .ok (.aload 7, 2) := by decide +kernel
theorem dX11_inverse_121 : decode cX11_inverse 121 = .ok (.invokevirtual 207, 3) := by decide +kernel
theorem dX11_inverse_124 : decode cX11_inverse 124 = .ok (.aload_n 0, 1) := by decide +kernel
theorem dX11_inverse_125 : decode cX11_inverse 125 = .ok (.aload 8, 2) := by decide +kernel
theorem dX11_inverse_127 : decode cX11_inverse 127 = .ok (.aload_n 0, 1) := by decide +kernel
theorem dX11_inverse_128 : decode cX11_inverse 128 = .ok (.aload_n 0, 1) := by decide +kernel
theorem dX11_inverse_129 : decode cX11_inverse 129 = .ok (.getfield 78, 3) := by decide +kernel
theorem dX11_inverse_132 : decode cX11_inverse 132 = .ok (.aload 9, 2) := by decide +kernel
theorem dX11_inverse_134 : decode cX11_inverse 134 = .ok (.invokevirtual 122, 3) := by decide +kernel
theorem dX11_inverse_137 : decode cX11_inverse 137 = .ok (.invokevirtual 119, 3) := by decide +kernel
theorem dX11_inverse_140 : decode cX11_inverse 140 = .ok (.astore 11, 2) := by decide +kernel
theorem dX11_inverse_142 : decode cX11_inverse 142 = .ok (.aload 6, 2) := by decide +kernel
theorem dX11_inverse_144 : decode cX11_inverse 144 = .ok (.aload 7, 2) := by decide +kernel
theorem dX11_inverse_146 : decode cX11_inverse 146 = .ok (.invokevirtual 30, 3) := by decide +kernel
theorem dX11_inverse_149 : decode cX11_inverse 149 = .ok (.aload 7, 2) := by decide +kernel
theorem dX11_inverse_151 : decode cX11_inverse 151 = .ok (.aload_n 0, 1) := by decide +kernel
theorem dX11_inverse_152 : decode cX11_inverse 152 = .ok (.getfield 84, 3) := by decide +kernel
theorem dX11_inverse_155 : decode cX11_inverse 155 = .ok (.invokevirtual 30, 3) := by decide +kernel
theorem dX11_inverse_158 : decode cX11_inverse 158 = .ok (.aload 8, 2) := by decide +kernel
theorem dX11_inverse_160 : decode cX11_inverse 160 = .ok (.aload 9, 2) := by decide +kernel
theorem dX11_inverse_162 : decode cX11_inverse 162 = .ok (.invokevirtual 30, 3) := by decide +kernel
theorem dX11_inverse_165 : decode cX11_inverse 165 = .ok (.aload 9, 2) := by decide +kernel
theorem dX11_inverse_167 : decode cX11_inverse 167 = .ok (.aload 11, 2) := by decide +kernel
theorem dX11_inverse_169 : decode cX11_inverse 169 = .ok (.invokevirtual 30, 3) := by decide +kernel
theorem dX11_inverse_172 : decode cX11_inverse 172 = .ok (.aload_n 0, 1) := by decide +kernel
theorem dX11_inverse_173 : decode cX11_inverse 173 = .ok (.iload 10, 2) := by decide +kernel
theorem dX11_inverse_175 : decode cX11_inverse 175 = .ok (.putfield 7, 3) := by decide +kernel
theorem dX11_inverse_178 : decode cX11_inverse 178 = .ok (.goto (-71), 3) := by decide +kernel
theorem dX11_inverse_181 : decode cX11_inverse 181 = .ok (.aload 6, 2) := by decide +kernel
theorem dX11_inverse_183 : decode cX11_inverse 183 = .ok (.aload_n 0, 1) := by decide +kernel
theorem dX11_inverse_184 : decode cX11_inverse 184 = .ok (.getfield 113, 3) := by decide +kernel
theorem dX11_inverse_187 : decode cX11_inverse 187 = .ok (.invokestatic 197, 3) := by decide +kernel
theorem dX11_inverse_190 : decode cX11_inverse 190 = .ok (.ifCond .eq 6, 3) := by decide +kernel
theorem dX11_inverse_193 : decode cX11_inverse 193 = .ok (.bipush (-4), 2) := by decide +kernel
theorem dX11_inverse_195 : decode cX11_inverse 195 = .ok (.ireturn, 1) := by decide +kernel
theorem dX11_inverse_196 : decode cX11_inverse 196 = .ok (.aload_n 0, 1) := by decide +kernel
theorem dX11_inverse_197 : decode cX11_inverse 197 = .ok (.iconst 2, 1) := by decide +kernel
theorem dX11_inverse_198 : decode cX11_inverse 198 = .ok (.aload 8, 2) := by decide +kernel
theorem dX11_inverse_200 : decode cX11_inverse 200 = .ok (.aload 4, 2) := by decide +kernel
theorem dX11_inverse_202 : decode cX11_inverse 202 = .ok (.invokevirtual 207, 3) := by decide +kernel
theorem dX11_inverse_205 : decode cX11_inverse 205 = .ok (.aload_n 0, 1) := by decide +kernel
theorem dX11_inverse_206 : decode cX11_inverse 206 = .ok (.getfield 142, 3) := by decide +kernel
theorem dX11_inverse_209 : decode cX11_inverse 209 = .ok (.iload_n 3, 1) := by decide +kernel
theorem dX11_inverse_210 : decode cX11_inverse 210 = .ok (.aaload, 1) := by decide +kernel
theorem dX11_inverse_211 : decode cX11_inverse 211 = .ok (.aload_n 0, 1) := by decide +kernel
theorem dX11_inverse_212 : decode cX11_inverse 212 = .ok (.getfield 84, 3) := by decide +kernel
theorem dX11_inverse_215 : decode cX11_inverse 215 = .ok (.invokevirtual 30, 3) := by decide +kernel
theorem dX11_inverse_218 : decode cX11_inverse 218 = .ok (.iconst 1, 1) := by decide +kernel
theorem dX11_inverse_219 : decode cX11_inverse 219 = .ok (.ireturn, 1) := by decide +kernel
def zb_X11_inverse_107 (w0 : Nat) (w3 : Int32) (w4 : Nat) (w6 : Nat) (w7 : Nat) (w8 : Nat) (w9 : Nat) (w10 : Int32) (g31 : AH) : Option ((AH) ⊕ (AH)) :=
  (chk g31 w7 10).bind fun _ => (zs_X10_isZero g31 w7).bind fun x33 => (if x33 = 0 then (chk g31 w0 11).bind fun _ => (zs_X11_over g31 w0 ((0 : Int32)) w6 w7).bind fun g36 => (gR g36 w0 11 5).bind fun x37 => (chk g36 w0 11).bind fun _ => (zs_X11_times g36 w0 x37 w9).bind fun x39 => (chk x39.2 w0 11).bind fun _ => (zs_X11_less x39.2 w0 w8 x39.1).bind fun x41 => (chk x41.2 w6 10).bind fun _ => (zs_X10_become x41.2 w6 w7).bind fun g43 => (gR g43 w0 11 6).bind fun x44 => (chk g43 w7 10).bind fun _ => (zs_X10_become g43 w7 x44).bind fun g46 => (chk g46 w8 10).bind fun _ => (zs_X10_become g46 w8 w9).bind fun g48 => (chk g48 w9 10).bind fun _ => (zs_X10_become g48 w9 x41.1).bind fun g50 => (pV g50 w0 11 2 (.int w10)).bind fun g51 => some (Sum.inl g51) else some (Sum.inr g31))
def zs_X11_inverse (h : AH) (u0 : Nat) (u1 : Int32) (u2 : Int32) (u3 : Int32) : Option (Int32 × AH) :=
  (chk h u0 11).bind fun _ => (zs_X11_isSlot h u0 u1).bind fun x2 => (if x2.1 = 0 then some ((-1 : Int32), x2.2) else (chk x2.2 u0 11).bind fun _ => (zs_X11_isSlot x2.2 u0 u2).bind fun x5 => (if x5.1 = 0 then some ((-1 : Int32), x5.2) else (chk x5.2 u0 11).bind fun _ => (zs_X11_isSlot x5.2 u0 u3).bind fun x8 => (if x8.1 = 0 then some ((-1 : Int32), x8.2) else (gR x8.2 u0 11 9).bind fun x10 => (aR x8.2 x10 5 u2).bind fun x11 => (chk x8.2 u0 11).bind fun _ => (zs_X11_wrongRest x8.2 u0 x11).bind fun x13 => (if 0 ≤ x13 then (chk x8.2 u0 11).bind fun _ => (zs_X11_copy x8.2 u0 x11).bind fun x16 => (gR x16.2 u0 11 9).bind fun x17 => (aR x16.2 x17 5 u1).bind fun x18 => (chk x16.2 u0 11).bind fun _ => (zs_X11_over x16.2 u0 ((2 : Int32)) x18 x11).bind fun g20 => (gR g20 u0 11 6).bind fun x21 => (chk g20 u0 11).bind fun _ => (zs_X11_copy g20 u0 x21).bind fun x23 => (gR x23.2 u0 11 3).bind fun x24 => (chk x23.2 u0 11).bind fun _ => (zs_X11_copy x23.2 u0 x24).bind fun x26 => (gR x26.2 u0 11 4).bind fun x27 => (chk x26.2 u0 11).bind fun _ => (zs_X11_copy x26.2 u0 x27).bind fun x29 => (gI x29.2 u0 11 2).bind fun x30 => (iter (fun q : AH => zb_X11_inverse_107 u0 u3 x11 x16.1 x23.1 x26.1 x29.1 x30 q) FU x29.2).bind fun r52 => (gR r52 u0 11 4).bind fun x53 => (zs_X11_compare r52 x16.1 x53).bind fun x54 => (if x54 = 0 then (chk r52 u0 11).bind fun _ => (zs_X11_over r52 u0 ((2 : Int32)) x26.1 x11).bind fun g57 => (gR g57 u0 11 9).bind fun x58 => (aR g57 x58 5 u3).bind fun x59 => (gR g57 u0 11 6).bind fun x60 => (chk g57 x59 10).bind fun _ => (zs_X10_become g57 x59 x60).bind fun g62 => some ((1 : Int32), g62) else some ((-4 : Int32), r52)) else some (x13, x8.2)))))
set_option maxRecDepth 100000 in
set_option maxHeartbeats 4000000 in
theorem zm_X11_inverse (l : Launch) (D : hG) (z : Nat) {h : AH} {u0 : Nat} {u1 : Int32} {u2 : Int32} {u3 : Int32} {r : Int32} {h' : AH} (hs : zs_X11_inverse h u0 u1 u2 u3 = some (r, h')) : hC l D z yX11_inverse cX11_inverse 12 (Option.some Jvm.ClassFile.FieldType.int) 6 166 0 0 [.ref u0, .int u1, .int u2, .int u3] h h' (some (.int r)) := by
  refine hC_of (by decide) (Nat.le_of_ble_eq_true rfl) ?_
  intro p e s m below meth c hx hb hml hrt hlk hown hnm hts hk hr hz ls hl
  replace hown : s.vm.findClass RX11 = some m.cls := hown
  replace hl : lv_has ls 12 [(0, .ref u0), (1, .int u1), (2, .int u2), (3, .int u3)] := hl
  have hS : va_S (hA z) s.heap s.heap [] := va_S.rf
  suffices hgo : ∀ (H : Heap) (locs : List Loc), hR D z h H → va_S (hA z) s.heap H locs → W p l e ({ frames := 6, cells := 0, slots := 0, locals := 166 } : Room) s m ([.ref u0, .int u1, .int u2, .int u3] : List Value).toArray below meth c H locs 0 0 (MQ below (hQ D z h' (some (.int r))) ([.ref u0, .int u1, .int u2, .int u3] : List Value).toArray s 0 0 (hA z)) (F0 m 0 ls []) from hgo _ _ hr hS
  clear hr hS
  intro H locs hr hS
  unfold zs_X11_inverse at hs
  refine lv_aload_n hx hb dX11_inverse_0 rfl (lv_at hl 0 rfl) ?_
  refine lv_iload_n hx hb dX11_inverse_1 rfl (lv_at hl 1 rfl) ?_
  obtain ⟨_, ex1, hs⟩ := bi_inv hs
  obtain ⟨x2, ex2, hs⟩ := bi_inv hs
  refine hv_V1 (n := 1) [.int u1] [] hx hb hml hown hts hk hr hz hS (zm_X11_isSlot l D z ex2) ex1 rfl tw_956 tw_958 ts_21 tw_11 tw_959 (by decide +kernel) (by decide) ⟨(Nat.zero_le _), (Nat.zero_le _)⟩ rfl hl.1 (Nat.le_of_ble_eq_true rfl) dX11_inverse_2 rfl (fun H locs hr hS => ?_)
  refine lv_if_eq (tgt := 24) hx hb dX11_inverse_5 (by decide) (fun c3 => ?_) (fun c3 => ?_)
  · rw [if_pos c3] at hs
    refine lv_iconst (v := (-1)) hx hb dX11_inverse_24 (by decide) ?_
    obtain ⟨rfl, rfl⟩ := Prod.mk.inj (Option.some.inj hs)
    exact hv_iret hx hb hrt hlk hr hS dX11_inverse_25
  · rw [if_neg c3] at hs
    refine lv_aload_n hx hb dX11_inverse_8 rfl (lv_at hl 0 rfl) ?_
    refine lv_iload_n hx hb dX11_inverse_9 rfl (lv_at hl 2 rfl) ?_
    obtain ⟨_, ex4, hs⟩ := bi_inv hs
    obtain ⟨x5, ex5, hs⟩ := bi_inv hs
    refine hv_V1 (n := 1) [.int u2] [] hx hb hml hown hts hk hr hz hS (zm_X11_isSlot l D z ex5) ex4 rfl tw_956 tw_958 ts_21 tw_11 tw_959 (by decide +kernel) (by decide) ⟨(Nat.zero_le _), (Nat.zero_le _)⟩ rfl hl.1 (Nat.le_of_ble_eq_true rfl) dX11_inverse_10 rfl (fun H locs hr hS => ?_)
    refine lv_if_eq (tgt := 24) hx hb dX11_inverse_13 (by decide) (fun c6 => ?_) (fun c6 => ?_)
    · rw [if_pos c6] at hs
      refine lv_iconst (v := (-1)) hx hb dX11_inverse_24 (by decide) ?_
      obtain ⟨rfl, rfl⟩ := Prod.mk.inj (Option.some.inj hs)
      exact hv_iret hx hb hrt hlk hr hS dX11_inverse_25
    · rw [if_neg c6] at hs
      refine lv_aload_n hx hb dX11_inverse_16 rfl (lv_at hl 0 rfl) ?_
      refine lv_iload_n hx hb dX11_inverse_17 rfl (lv_at hl 3 rfl) ?_
      obtain ⟨_, ex7, hs⟩ := bi_inv hs
      obtain ⟨x8, ex8, hs⟩ := bi_inv hs
      refine hv_V1 (n := 1) [.int u3] [] hx hb hml hown hts hk hr hz hS (zm_X11_isSlot l D z ex8) ex7 rfl tw_956 tw_958 ts_21 tw_11 tw_959 (by decide +kernel) (by decide) ⟨(Nat.zero_le _), (Nat.zero_le _)⟩ rfl hl.1 (Nat.le_of_ble_eq_true rfl) dX11_inverse_18 rfl (fun H locs hr hS => ?_)
      refine lv_if_ne (tgt := 26) hx hb dX11_inverse_21 (by decide) (fun c9 => ?_) (fun c9 => ?_)
      · rw [if_neg c9] at hs
        refine lv_aload_n hx hb dX11_inverse_26 rfl (lv_at hl 0 rfl) ?_
        obtain ⟨x10, ex10, hs⟩ := bi_inv hs
        refine hv_gR (C := RX11) (T := TX11) (N := 23) (ci := 11) hx hb hts inX11 hown hk hr rfl 9 (by decide) (hts _ tw_891) ex10 dX11_inverse_27 ?_
        refine lv_iload_n hx hb dX11_inverse_30 rfl (lv_at hl 2 rfl) ?_
        obtain ⟨x11, ex11, hs⟩ := bi_inv hs
        refine hv_aR (kd := 5) hx hb hk hr rfl ex11 dX11_inverse_31 ?_
        refine lv_astore (lv' := [(4, .ref x11), (0, .ref u0), (1, .int u1), (2, .int u2), (3, .int u3)]) hx hb dX11_inverse_32 hl (by decide) rfl (fun ls hl => ?_)
        refine lv_aload_n hx hb dX11_inverse_34 rfl (lv_at hl 1 rfl) ?_
        refine lv_aload hx hb dX11_inverse_35 (lv_at hl 0 rfl) ?_
        obtain ⟨_, ex12, hs⟩ := bi_inv hs
        obtain ⟨x13, ex13, hs⟩ := bi_inv hs
        refine hv_V1 (n := 1) [.ref x11] [] hx hb hml hown hts hk hr hz hS (zm_X11_wrongRest l D z ex13) ex12 rfl tw_1136 tw_1138 ts_41 tw_11 tw_1139 (by decide +kernel) (by decide) ⟨(Nat.zero_le _), (Nat.zero_le _)⟩ rfl hl.1 (Nat.le_of_ble_eq_true rfl) dX11_inverse_37 rfl (fun H locs hr hS => ?_)
        refine lv_istore (lv' := [(5, .int x13), (4, .ref x11), (0, .ref u0), (1, .int u1), (2, .int u2), (3, .int u3)]) hx hb dX11_inverse_40 hl (by decide) rfl (fun ls hl => ?_)
        refine lv_iload hx hb dX11_inverse_42 (lv_at hl 0 rfl) ?_
        refine lv_if_ge (tgt := 50) hx hb dX11_inverse_44 (by decide) (fun c14 => ?_) (fun c14 => ?_)
        · rw [if_pos c14] at hs
          refine lv_aload_n hx hb dX11_inverse_50 rfl (lv_at hl 2 rfl) ?_
          refine lv_aload hx hb dX11_inverse_51 (lv_at hl 1 rfl) ?_
          obtain ⟨_, ex15, hs⟩ := bi_inv hs
          obtain ⟨x16, ex16, hs⟩ := bi_inv hs
          refine hv_V1 (n := 1) [.ref x11] [] hx hb hml hown hts hk hr hz hS (zm_X11_copy l D z ex16) ex15 rfl tw_996 tw_998 ts_25 tw_11 tw_999 (by decide +kernel) (by decide) ⟨(Nat.zero_le _), (Nat.zero_le _)⟩ rfl hl.1 (Nat.le_of_ble_eq_true rfl) dX11_inverse_53 rfl (fun H locs hr hS => ?_)
          refine lv_astore (lv' := [(6, .ref x16.1), (5, .int x13), (4, .ref x11), (0, .ref u0), (1, .int u1), (2, .int u2), (3, .int u3)]) hx hb dX11_inverse_56 hl (by decide) rfl (fun ls hl => ?_)
          refine lv_aload_n hx hb dX11_inverse_58 rfl (lv_at hl 3 rfl) ?_
          refine lv_iconst (v := 2) hx hb dX11_inverse_59 (by decide) ?_
          refine lv_aload_n hx hb dX11_inverse_60 rfl (lv_at hl 3 rfl) ?_
          obtain ⟨x17, ex17, hs⟩ := bi_inv hs
          refine hv_gR (C := RX11) (T := TX11) (N := 23) (ci := 11) hx hb hts inX11 hown hk hr rfl 9 (by decide) (hts _ tw_891) ex17 dX11_inverse_61 ?_
          refine lv_iload_n hx hb dX11_inverse_64 rfl (lv_at hl 4 rfl) ?_
          obtain ⟨x18, ex18, hs⟩ := bi_inv hs
          refine hv_aR (kd := 5) hx hb hk hr rfl ex18 dX11_inverse_65 ?_
          refine lv_aload hx hb dX11_inverse_66 (lv_at hl 2 rfl) ?_
          obtain ⟨_, ex19, hs⟩ := bi_inv hs
          obtain ⟨g20, eg20, hs⟩ := bi_inv hs
          refine hv_V0 (n := 3) [.int ((2 : Int32)), .ref x18, .ref x11] [] hx hb hml hown hts hk hr hz hS (zm_X11_over l D z eg20) ex19 rfl tw_1107 tw_1109 ts_38 tw_11 tw_1110 (by decide +kernel) (by decide) ⟨(Nat.zero_le _), (Nat.zero_le _)⟩ rfl hl.1 (Nat.le_of_ble_eq_true rfl) dX11_inverse_68 rfl (fun H locs hr hS => ?_)
          refine lv_aload_n hx hb dX11_inverse_71 rfl (lv_at hl 3 rfl) ?_
          refine lv_aload_n hx hb dX11_inverse_72 rfl (lv_at hl 3 rfl) ?_
          obtain ⟨x21, ex21, hs⟩ := bi_inv hs
          refine hv_gR (C := RX11) (T := TX11) (N := 23) (ci := 11) hx hb hts inX11 hown hk hr rfl 6 (by decide) (hts _ tw_888) ex21 dX11_inverse_73 ?_
          obtain ⟨_, ex22, hs⟩ := bi_inv hs
          obtain ⟨x23, ex23, hs⟩ := bi_inv hs
          refine hv_V1 (n := 1) [.ref x21] [] hx hb hml hown hts hk hr hz hS (zm_X11_copy l D z ex23) ex22 rfl tw_996 tw_998 ts_25 tw_11 tw_999 (by decide +kernel) (by decide) ⟨(Nat.zero_le _), (Nat.zero_le _)⟩ rfl hl.1 (Nat.le_of_ble_eq_true rfl) dX11_inverse_76 rfl (fun H locs hr hS => ?_)
          refine lv_astore (lv' := [(7, .ref x23.1), (6, .ref x16.1), (5, .int x13), (4, .ref x11), (0, .ref u0), (1, .int u1), (2, .int u2), (3, .int u3)]) hx hb dX11_inverse_79 hl (by decide) rfl (fun ls hl => ?_)
          refine lv_aload_n hx hb dX11_inverse_81 rfl (lv_at hl 4 rfl) ?_
          refine lv_aload_n hx hb dX11_inverse_82 rfl (lv_at hl 4 rfl) ?_
          obtain ⟨x24, ex24, hs⟩ := bi_inv hs
          refine hv_gR (C := RX11) (T := TX11) (N := 23) (ci := 11) hx hb hts inX11 hown hk hr rfl 3 (by decide) (hts _ tw_885) ex24 dX11_inverse_83 ?_
          obtain ⟨_, ex25, hs⟩ := bi_inv hs
          obtain ⟨x26, ex26, hs⟩ := bi_inv hs
          refine hv_V1 (n := 1) [.ref x24] [] hx hb hml hown hts hk hr hz hS (zm_X11_copy l D z ex26) ex25 rfl tw_996 tw_998 ts_25 tw_11 tw_999 (by decide +kernel) (by decide) ⟨(Nat.zero_le _), (Nat.zero_le _)⟩ rfl hl.1 (Nat.le_of_ble_eq_true rfl) dX11_inverse_86 rfl (fun H locs hr hS => ?_)
          refine lv_astore (lv' := [(8, .ref x26.1), (7, .ref x23.1), (6, .ref x16.1), (5, .int x13), (4, .ref x11), (0, .ref u0), (1, .int u1), (2, .int u2), (3, .int u3)]) hx hb dX11_inverse_89 hl (by decide) rfl (fun ls hl => ?_)
          refine lv_aload_n hx hb dX11_inverse_91 rfl (lv_at hl 5 rfl) ?_
          refine lv_aload_n hx hb dX11_inverse_92 rfl (lv_at hl 5 rfl) ?_
          obtain ⟨x27, ex27, hs⟩ := bi_inv hs
          refine hv_gR (C := RX11) (T := TX11) (N := 23) (ci := 11) hx hb hts inX11 hown hk hr rfl 4 (by decide) (hts _ tw_886) ex27 dX11_inverse_93 ?_
          obtain ⟨_, ex28, hs⟩ := bi_inv hs
          obtain ⟨x29, ex29, hs⟩ := bi_inv hs
          refine hv_V1 (n := 1) [.ref x27] [] hx hb hml hown hts hk hr hz hS (zm_X11_copy l D z ex29) ex28 rfl tw_996 tw_998 ts_25 tw_11 tw_999 (by decide +kernel) (by decide) ⟨(Nat.zero_le _), (Nat.zero_le _)⟩ rfl hl.1 (Nat.le_of_ble_eq_true rfl) dX11_inverse_96 rfl (fun H locs hr hS => ?_)
          refine lv_astore (lv' := [(9, .ref x29.1), (8, .ref x26.1), (7, .ref x23.1), (6, .ref x16.1), (5, .int x13), (4, .ref x11), (0, .ref u0), (1, .int u1), (2, .int u2), (3, .int u3)]) hx hb dX11_inverse_99 hl (by decide) rfl (fun ls hl => ?_)
          refine lv_aload_n hx hb dX11_inverse_101 rfl (lv_at hl 6 rfl) ?_
          obtain ⟨x30, ex30, hs⟩ := bi_inv hs
          refine hv_gI (C := RX11) (T := TX11) (N := 23) (ci := 11) hx hb hts inX11 hown hk hr rfl 2 (by decide) (hts _ tw_884) ex30 dX11_inverse_102 ?_
          refine lv_istore (lv' := [(10, .int x30), (9, .ref x29.1), (8, .ref x26.1), (7, .ref x23.1), (6, .ref x16.1), (5, .int x13), (4, .ref x11), (0, .ref u0), (1, .int u1), (2, .int u2), (3, .int u3)]) hx hb dX11_inverse_105 hl (by decide) rfl (fun ls hl => ?_)
          obtain ⟨r52, er52, hs⟩ := bi_inv hs
          refine iter_W (fun (q : AH) => ∀ (H : Heap) (locs : List Loc) (ls : Array Slot), hR D z q H → va_S (hA z) s.heap H locs → lv_has ls 12 [(0, .ref u0), (3, .int u3), (4, .ref x11), (6, .ref x16.1), (7, .ref x23.1), (8, .ref x26.1), (9, .ref x29.1), (10, .int x30)] → W p l e ({ frames := 6, cells := 0, slots := 0, locals := 166 } : Room) s m ([.ref u0, .int u1, .int u2, .int u3] : List Value).toArray below meth c H locs 0 0 (MQ below (hQ D z h' (some (.int r))) ([.ref u0, .int u1, .int u2, .int u3] : List Value).toArray s 0 0 (hA z)) (F0 m 107 ls [])) (fun (x : AH) => ∀ (H : Heap) (locs : List Loc) (ls : Array Slot), hR D z x H → va_S (hA z) s.heap H locs → lv_has ls 12 [(0, .ref u0), (3, .int u3), (4, .ref x11), (6, .ref x16.1), (8, .ref x26.1)] → W p l e ({ frames := 6, cells := 0, slots := 0, locals := 166 } : Room) s m ([.ref u0, .int u1, .int u2, .int u3] : List Value).toArray below meth c H locs 0 0 (MQ below (hQ D z h' (some (.int r))) ([.ref u0, .int u1, .int u2, .int u3] : List Value).toArray s 0 0 (hA z)) (F0 m 181 ls [])) ?_ FU _ r52 er52 ?_ H locs ls hr hS (lv_sub hl [7, 10, 6, 4, 3, 2, 1, 0] rfl)
          · intro q o hs hcont hexit
            obtain ⟨g31, rfl⟩ : ∃ q2, q2 = q := ⟨_, rfl⟩
            replace hs : zb_X11_inverse_107 u0 u3 x11 x16.1 x23.1 x26.1 x29.1 x30 g31 = some o := hs
            intro H locs ls hr hS hl
            unfold zb_X11_inverse_107 at hs
            refine lv_aload hx hb dX11_inverse_107 (lv_at hl 4 rfl) ?_
            obtain ⟨_, ex32, hs⟩ := bi_inv hs
            obtain ⟨x33, ex33, hs⟩ := bi_inv hs
            refine hv_V1 (n := 0) [] [] hx hb hml hown hts hk hr hz hS (zm_X10_isZero l D z ex33) ex32 rfl tw_1011 tw_1012 tw_1013 tw_12 tw_1014 (by decide +kernel) (by decide) ⟨(Nat.zero_le _), (Nat.zero_le _)⟩ rfl hl.1 (Nat.le_of_ble_eq_true rfl) dX11_inverse_109 rfl (fun H locs hr hS => ?_)
            refine lv_if_ne (tgt := 181) hx hb dX11_inverse_112 (by decide) (fun c34 => ?_) (fun c34 => ?_)
            · rw [if_neg c34] at hs
              obtain rfl := Option.some.inj hs
              exact hexit _ rfl H locs ls hr hS (lv_sub hl [0, 1, 2, 3, 5] rfl)
            · rw [if_pos c34] at hs
              refine lv_aload_n hx hb dX11_inverse_115 rfl (lv_at hl 0 rfl) ?_
              refine lv_iconst (v := 0) hx hb dX11_inverse_116 (by decide) ?_
              refine lv_aload hx hb dX11_inverse_117 (lv_at hl 3 rfl) ?_
              refine lv_aload hx hb dX11_inverse_119 (lv_at hl 4 rfl) ?_
              obtain ⟨_, ex35, hs⟩ := bi_inv hs
              obtain ⟨g36, eg36, hs⟩ := bi_inv hs
              refine hv_V0 (n := 3) [.int ((0 : Int32)), .ref x16.1, .ref x23.1] [] hx hb hml hown hts hk hr hz hS (zm_X11_over l D z eg36) ex35 rfl tw_1107 tw_1109 ts_38 tw_11 tw_1110 (by decide +kernel) (by decide) ⟨(Nat.zero_le _), (Nat.zero_le _)⟩ rfl hl.1 (Nat.le_of_ble_eq_true rfl) dX11_inverse_121 rfl (fun H locs hr hS => ?_)
              refine lv_aload_n hx hb dX11_inverse_124 rfl (lv_at hl 0 rfl) ?_
              refine lv_aload hx hb dX11_inverse_125 (lv_at hl 5 rfl) ?_
              refine lv_aload_n hx hb dX11_inverse_127 rfl (lv_at hl 0 rfl) ?_
              refine lv_aload_n hx hb dX11_inverse_128 rfl (lv_at hl 0 rfl) ?_
              obtain ⟨x37, ex37, hs⟩ := bi_inv hs
              refine hv_gR (C := RX11) (T := TX11) (N := 23) (ci := 11) hx hb hts inX11 hown hk hr rfl 5 (by decide) (hts _ tw_887) ex37 dX11_inverse_129 ?_
              refine lv_aload hx hb dX11_inverse_132 (lv_at hl 6 rfl) ?_
              obtain ⟨_, ex38, hs⟩ := bi_inv hs
              obtain ⟨x39, ex39, hs⟩ := bi_inv hs
              refine hv_V1 (n := 2) [.ref x37, .ref x29.1] [.ref x26.1, .ref u0] hx hb hml hown hts hk hr hz hS (zm_X11_times l D z ex39) ex38 rfl tw_1003 tw_1005 ts_26 tw_11 tw_1006 (by decide +kernel) (by decide) ⟨(Nat.zero_le _), (Nat.zero_le _)⟩ rfl hl.1 (Nat.le_of_ble_eq_true rfl) dX11_inverse_134 rfl (fun H locs hr hS => ?_)
              obtain ⟨_, ex40, hs⟩ := bi_inv hs
              obtain ⟨x41, ex41, hs⟩ := bi_inv hs
              refine hv_V1 (n := 2) [.ref x26.1, .ref x39.1] [] hx hb hml hown hts hk hr hz hS (zm_X11_less l D z ex41) ex40 rfl tw_1099 tw_1101 ts_37 tw_11 tw_1102 (by decide +kernel) (by decide) ⟨(Nat.zero_le _), (Nat.zero_le _)⟩ rfl hl.1 (Nat.le_of_ble_eq_true rfl) dX11_inverse_137 rfl (fun H locs hr hS => ?_)
              refine lv_astore (lv' := [(11, .ref x41.1), (0, .ref u0), (3, .int u3), (4, .ref x11), (6, .ref x16.1), (7, .ref x23.1), (8, .ref x26.1), (9, .ref x29.1), (10, .int x30)]) hx hb dX11_inverse_140 hl (by decide) rfl (fun ls hl => ?_)
              refine lv_aload hx hb dX11_inverse_142 (lv_at hl 4 rfl) ?_
              refine lv_aload hx hb dX11_inverse_144 (lv_at hl 5 rfl) ?_
              obtain ⟨_, ex42, hs⟩ := bi_inv hs
              obtain ⟨g43, eg43, hs⟩ := bi_inv hs
              refine hv_V0 (n := 1) [.ref x23.1] [] hx hb hml hown hts hk hr hz hS (zm_X10_become l D z eg43) ex42 rfl tw_875 tw_876 tw_877 tw_12 tw_878 (by decide +kernel) (by decide) ⟨(Nat.zero_le _), (Nat.zero_le _)⟩ rfl hl.1 (Nat.le_of_ble_eq_true rfl) dX11_inverse_146 rfl (fun H locs hr hS => ?_)
              refine lv_aload hx hb dX11_inverse_149 (lv_at hl 5 rfl) ?_
              refine lv_aload_n hx hb dX11_inverse_151 rfl (lv_at hl 1 rfl) ?_
              obtain ⟨x44, ex44, hs⟩ := bi_inv hs
              refine hv_gR (C := RX11) (T := TX11) (N := 23) (ci := 11) hx hb hts inX11 hown hk hr rfl 6 (by decide) (hts _ tw_888) ex44 dX11_inverse_152 ?_
              obtain ⟨_, ex45, hs⟩ := bi_inv hs
              obtain ⟨g46, eg46, hs⟩ := bi_inv hs
              refine hv_V0 (n := 1) [.ref x44] [] hx hb hml hown hts hk hr hz hS (zm_X10_become l D z eg46) ex45 rfl tw_875 tw_876 tw_877 tw_12 tw_878 (by decide +kernel) (by decide) ⟨(Nat.zero_le _), (Nat.zero_le _)⟩ rfl hl.1 (Nat.le_of_ble_eq_true rfl) dX11_inverse_155 rfl (fun H locs hr hS => ?_)
              refine lv_aload hx hb dX11_inverse_158 (lv_at hl 6 rfl) ?_
              refine lv_aload hx hb dX11_inverse_160 (lv_at hl 7 rfl) ?_
              obtain ⟨_, ex47, hs⟩ := bi_inv hs
              obtain ⟨g48, eg48, hs⟩ := bi_inv hs
              refine hv_V0 (n := 1) [.ref x29.1] [] hx hb hml hown hts hk hr hz hS (zm_X10_become l D z eg48) ex47 rfl tw_875 tw_876 tw_877 tw_12 tw_878 (by decide +kernel) (by decide) ⟨(Nat.zero_le _), (Nat.zero_le _)⟩ rfl hl.1 (Nat.le_of_ble_eq_true rfl) dX11_inverse_162 rfl (fun H locs hr hS => ?_)
              refine lv_aload hx hb dX11_inverse_165 (lv_at hl 7 rfl) ?_
              refine lv_aload hx hb dX11_inverse_167 (lv_at hl 0 rfl) ?_
              obtain ⟨_, ex49, hs⟩ := bi_inv hs
              obtain ⟨g50, eg50, hs⟩ := bi_inv hs
              refine hv_V0 (n := 1) [.ref x41.1] [] hx hb hml hown hts hk hr hz hS (zm_X10_become l D z eg50) ex49 rfl tw_875 tw_876 tw_877 tw_12 tw_878 (by decide +kernel) (by decide) ⟨(Nat.zero_le _), (Nat.zero_le _)⟩ rfl hl.1 (Nat.le_of_ble_eq_true rfl) dX11_inverse_169 rfl (fun H locs hr hS => ?_)
              refine lv_aload_n hx hb dX11_inverse_172 rfl (lv_at hl 1 rfl) ?_
              refine lv_iload hx hb dX11_inverse_173 (lv_at hl 8 rfl) ?_
              obtain ⟨g51, eg51, hs⟩ := bi_inv hs
              refine hv_pV (C := RX11) (T := TX11) (N := 23) (ci := 11) hx hb hts inX11 tyX11 tyX11_ok nmX11 hown hk hr hS rfl 2 (by decide) (hts _ tw_884) rfl rfl rfl eg51 dX11_inverse_175 (fun H locs hr hS => ?_)
              refine lv_goto (tgt := 107) hx hb dX11_inverse_178 (by decide) ?_
              obtain rfl := Option.some.inj hs
              exact hcont _ rfl H locs ls hr hS (lv_sub hl [1, 2, 3, 4, 5, 6, 7, 8] rfl)
          · intro H locs ls hr hS hl
            refine lv_aload hx hb dX11_inverse_181 (lv_at hl 3 rfl) ?_
            refine lv_aload_n hx hb dX11_inverse_183 rfl (lv_at hl 0 rfl) ?_
            obtain ⟨x53, ex53, hs⟩ := bi_inv hs
            refine hv_gR (C := RX11) (T := TX11) (N := 23) (ci := 11) hx hb hts inX11 hown hk hr rfl 4 (by decide) (hts _ tw_886) ex53 dX11_inverse_184 ?_
            obtain ⟨x54, ex54, hs⟩ := bi_inv hs
            refine hv_S1 (n := 2) [.ref x16.1, .ref x53] [] hx hb hml hown hts hk hr hz hS (zm_X11_compare l D z ex54) tw_1080 tw_1081 tw_11 tw_1082 (by decide +kernel) (by decide) ⟨(Nat.zero_le _), (Nat.zero_le _)⟩ rfl hl.1 (Nat.le_of_ble_eq_true rfl) dX11_inverse_187 rfl (fun H locs hr hS => ?_)
            refine lv_if_eq (tgt := 196) hx hb dX11_inverse_190 (by decide) (fun c55 => ?_) (fun c55 => ?_)
            · rw [if_pos c55] at hs
              refine lv_aload_n hx hb dX11_inverse_196 rfl (lv_at hl 0 rfl) ?_
              refine lv_iconst (v := 2) hx hb dX11_inverse_197 (by decide) ?_
              refine lv_aload hx hb dX11_inverse_198 (lv_at hl 4 rfl) ?_
              refine lv_aload hx hb dX11_inverse_200 (lv_at hl 2 rfl) ?_
              obtain ⟨_, ex56, hs⟩ := bi_inv hs
              obtain ⟨g57, eg57, hs⟩ := bi_inv hs
              refine hv_V0 (n := 3) [.int ((2 : Int32)), .ref x26.1, .ref x11] [] hx hb hml hown hts hk hr hz hS (zm_X11_over l D z eg57) ex56 rfl tw_1107 tw_1109 ts_38 tw_11 tw_1110 (by decide +kernel) (by decide) ⟨(Nat.zero_le _), (Nat.zero_le _)⟩ rfl hl.1 (Nat.le_of_ble_eq_true rfl) dX11_inverse_202 rfl (fun H locs hr hS => ?_)
              refine lv_aload_n hx hb dX11_inverse_205 rfl (lv_at hl 0 rfl) ?_
              obtain ⟨x58, ex58, hs⟩ := bi_inv hs
              refine hv_gR (C := RX11) (T := TX11) (N := 23) (ci := 11) hx hb hts inX11 hown hk hr rfl 9 (by decide) (hts _ tw_891) ex58 dX11_inverse_206 ?_
              refine lv_iload_n hx hb dX11_inverse_209 rfl (lv_at hl 1 rfl) ?_
              obtain ⟨x59, ex59, hs⟩ := bi_inv hs
              refine hv_aR (kd := 5) hx hb hk hr rfl ex59 dX11_inverse_210 ?_
              refine lv_aload_n hx hb dX11_inverse_211 rfl (lv_at hl 0 rfl) ?_
              obtain ⟨x60, ex60, hs⟩ := bi_inv hs
              refine hv_gR (C := RX11) (T := TX11) (N := 23) (ci := 11) hx hb hts inX11 hown hk hr rfl 6 (by decide) (hts _ tw_888) ex60 dX11_inverse_212 ?_
              obtain ⟨_, ex61, hs⟩ := bi_inv hs
              obtain ⟨g62, eg62, hs⟩ := bi_inv hs
              refine hv_V0 (n := 1) [.ref x60] [] hx hb hml hown hts hk hr hz hS (zm_X10_become l D z eg62) ex61 rfl tw_875 tw_876 tw_877 tw_12 tw_878 (by decide +kernel) (by decide) ⟨(Nat.zero_le _), (Nat.zero_le _)⟩ rfl hl.1 (Nat.le_of_ble_eq_true rfl) dX11_inverse_215 rfl (fun H locs hr hS => ?_)
              refine lv_iconst (v := 1) hx hb dX11_inverse_218 (by decide) ?_
              obtain ⟨rfl, rfl⟩ := Prod.mk.inj (Option.some.inj hs)
              exact hv_iret hx hb hrt hlk hr hS dX11_inverse_219
            · rw [if_neg c55] at hs
              refine lv_bipush (v := (-4)) hx hb dX11_inverse_193 (by decide) ?_
              obtain ⟨rfl, rfl⟩ := Prod.mk.inj (Option.some.inj hs)
              exact hv_iret hx hb hrt hlk hr hS dX11_inverse_195
        · rw [if_neg c14] at hs
          refine lv_iload hx hb dX11_inverse_47 (lv_at hl 0 rfl) ?_
          obtain ⟨rfl, rfl⟩ := Prod.mk.inj (Option.some.inj hs)
          exact hv_iret hx hb hrt hlk hr hS dX11_inverse_49
      · rw [if_pos c9] at hs
        refine lv_iconst (v := (-1)) hx hb dX11_inverse_24 (by decide) ?_
        obtain ⟨rfl, rfl⟩ := Prod.mk.inj (Option.some.inj hs)
        exact hv_iret hx hb hrt hlk hr hS dX11_inverse_25
theorem dX11_lowest_0 : decode cX11_lowest 0 = .ok (.lconst 0, 1) := by decide +kernel
theorem dX11_lowest_1 : decode cX11_lowest 1 = .ok (.lstore_n 1, 1) := by decide +kernel
theorem dX11_lowest_2 : decode cX11_lowest 2 = .ok (.iconst 0, 1) := by decide +kernel
theorem dX11_lowest_3 : decode cX11_lowest 3 = .ok (.istore_n 3, 1) := by decide +kernel
theorem dX11_lowest_4 : decode cX11_lowest 4 = .ok (.iload_n 3, 1) := by decide +kernel
theorem dX11_lowest_5 : decode cX11_lowest 5 = .ok (.iconst 4, 1) := by decide +kernel
theorem dX11_lowest_6 : decode cX11_lowest 6 = .ok (.if_icmp .ge 32, 3) := by decide +kernel
theorem dX11_lowest_9 : decode cX11_lowest 9 = .ok (.iload_n 3, 1) := by decide +kernel
theorem dX11_lowest_10 : decode cX11_lowest 10 = .ok (.aload_n 0, 1) := by decide +kernel
theorem dX11_lowest_11 : decode cX11_lowest 11 = .ok (.getfield 42, 3) := by decide +kernel
theorem dX11_lowest_14 : decode cX11_lowest 14 = .ok (.if_icmp .ge 24, 3) := by decide +kernel
theorem dX11_lowest_17 : decode cX11_lowest 17 = .ok (.lload_n 1, 1) := by decide +kernel
theorem dX11_lowest_18 : decode cX11_lowest 18 = .ok (.aload_n 0, 1) := by decide +kernel
theorem dX11_lowest_19 : decode cX11_lowest 19 = .ok (.getfield 18, 3) := by decide +kernel
theorem dX11_lowest_22 : decode cX11_lowest 22 = .ok (.iload_n 3, 1) := by decide +kernel
theorem dX11_lowest_23 : decode cX11_lowest 23 = .ok (.iaload, 1) := by decide +kernel
theorem dX11_lowest_24 : decode cX11_lowest 24 = .ok (.i2l, 1) := by decide +kernel
theorem dX11_lowest_25 : decode cX11_lowest 25 = .ok (.bipush 16, 2) := by decide +kernel
theorem dX11_lowest_27 : decode cX11_lowest 27 = .ok (.iload_n 3, 1) := by decide +kernel
theorem dX11_lowest_28 : decode cX11_lowest 28 = .ok (.imul, 1) := by decide +kernel
theorem dX11_lowest_29 : decode cX11_lowest 29 = .ok (.lshl, 1) := by decide +kernel
theorem dX11_lowest_30 : decode cX11_lowest 30 = .ok (.lor, 1) := by decide +kernel
theorem dX11_lowest_31 : decode cX11_lowest 31 = .ok (.lstore_n 1, 1) := by decide +kernel
theorem dX11_lowest_32 : decode cX11_lowest 32 = .ok (.iinc 3 1, 3) := by decide +kernel
theorem dX11_lowest_35 : decode cX11_lowest 35 = .ok (.goto (-31), 3) := by decide +kernel
theorem dX11_lowest_38 : decode cX11_lowest 38 = .ok (.aload_n 0, 1) := by decide +kernel
theorem dX11_lowest_39 : decode cX11_lowest 39 = .ok (.getfield 38, 3) := by decide +kernel
theorem dX11_lowest_42 : decode cX11_lowest 42 = .ok (.ifCond .eq 8, 3) := by decide +kernel
theorem dX11_lowest_45 : decode cX11_lowest 45 = .ok (.lload_n 1, 1) := by decide +kernel
theorem dX11_lowest_46 : decode cX11_lowest 46 = .ok (.lneg, 1) := by decide +kernel
theorem dX11_lowest_47 : decode cX11_lowest 47 = .ok (.goto 4, 3) := by decide +kernel
theorem dX11_lowest_50 : decode cX11_lowest 50 = .ok (.lload_n 1, 1) := by decide +kernel
theorem dX11_lowest_51 : decode cX11_lowest 51 = .ok (.lreturn, 1) := by decide +kernel
def zb_X11_lowest_4 (h : AH) (w0 : Nat) (w1 : Int64) (w3 : Int32) : Option ((Int64 × Int32) ⊕ (Int64)) :=
  (if (4 : Int32) ≤ w3 then some (Sum.inr w1) else (gI h w0 10 1).bind fun x2 => (if x2 ≤ w3 then some (Sum.inr w1) else (gR h w0 10 2).bind fun x4 => (aI h x4 0 w3).bind fun x5 => lt_ (w1 ||| (x5.toInt64 <<< ((((16 : Int32)) * w3).toInt64 &&& 63))) fun x6 => some (Sum.inl ((x6, w3 + (1 : Int32))))))
def zs_X11_lowest (h : AH) (u0 : Nat) : Option Int64 :=
  (iter (fun q : Int64 × Int32 => zb_X11_lowest_4 h u0 q.1 q.2) FU (((0 : Int64), (0 : Int32)))).bind fun r7 => (gI h u0 10 0).bind fun x8 => (if x8 = 0 then some r7 else some (-r7))
set_option maxRecDepth 100000 in
set_option maxHeartbeats 4000000 in
theorem zm_X11_lowest (l : Launch) (D : hG) (z : Nat) {h : AH} {u0 : Nat} {r : Int64} (hs : zs_X11_lowest h u0 = some r) : hC l D z yX11_lowest cX11_lowest 4 (Option.some Jvm.ClassFile.FieldType.long) 0 0 0 0 [.ref u0] h h (some (.long r)) := by
  refine hC_of (by decide) (Nat.le_of_ble_eq_true rfl) ?_
  intro p e s m below meth c hx hb hml hrt hlk hown hnm hts hk hr hz ls hl
  replace hown : s.vm.findClass RX11 = some m.cls := hown
  replace hl : lv_has ls 4 [(0, .ref u0)] := hl
  have hS : va_S (hA z) s.heap s.heap [] := va_S.rf
  suffices hgo : ∀ (H : Heap) (locs : List Loc), hR D z h H → va_S (hA z) s.heap H locs → W p l e ({ frames := 0, cells := 0, slots := 0, locals := 0 } : Room) s m ([.ref u0] : List Value).toArray below meth c H locs 0 0 (MQ below (hQ D z h (some (.long r))) ([.ref u0] : List Value).toArray s 0 0 (hA z)) (F0 m 0 ls []) from hgo _ _ hr hS
  clear hr hS
  intro H locs hr hS
  unfold zs_X11_lowest at hs
  refine lv_lconst (v := 0) hx hb dX11_lowest_0 (by decide) ?_
  refine lv_lstore_n (lv' := [(1, .long ((0 : Int64))), (0, .ref u0)]) hx hb dX11_lowest_1 rfl hl (by decide) rfl (fun ls hl => ?_)
  refine lv_iconst (v := 0) hx hb dX11_lowest_2 (by decide) ?_
  refine lv_istore_n (lv' := [(3, .int ((0 : Int32))), (1, .long ((0 : Int64))), (0, .ref u0)]) hx hb dX11_lowest_3 rfl hl (by decide) rfl (fun ls hl => ?_)
  obtain ⟨r7, er7, hs⟩ := bi_inv hs
  refine iter_W (fun (q : Int64 × Int32) => ∀ (H : Heap) (locs : List Loc) (ls : Array Slot), hR D z h H → va_S (hA z) s.heap H locs → lv_has ls 4 [(0, .ref u0), (1, .long q.1), (3, .int q.2)] → W p l e ({ frames := 0, cells := 0, slots := 0, locals := 0 } : Room) s m ([.ref u0] : List Value).toArray below meth c H locs 0 0 (MQ below (hQ D z h (some (.long r))) ([.ref u0] : List Value).toArray s 0 0 (hA z)) (F0 m 4 ls [])) (fun (x : Int64) => ∀ (H : Heap) (locs : List Loc) (ls : Array Slot), hR D z h H → va_S (hA z) s.heap H locs → lv_has ls 4 [(0, .ref u0), (1, .long x)] → W p l e ({ frames := 0, cells := 0, slots := 0, locals := 0 } : Room) s m ([.ref u0] : List Value).toArray below meth c H locs 0 0 (MQ below (hQ D z h (some (.long r))) ([.ref u0] : List Value).toArray s 0 0 (hA z)) (F0 m 38 ls [])) ?_ FU _ r7 er7 ?_ H locs ls hr hS (lv_sub hl [2, 1, 0] rfl)
  · intro q o hs hcont hexit
    obtain ⟨w1, w3⟩ := q
    replace hs : zb_X11_lowest_4 h u0 w1 w3 = some o := hs
    intro H locs ls hr hS hl
    unfold zb_X11_lowest_4 at hs
    refine lv_iload_n hx hb dX11_lowest_4 rfl (lv_at hl 2 rfl) ?_
    refine lv_iconst (v := 4) hx hb dX11_lowest_5 (by decide) ?_
    refine lv_icmp_ge (tgt := 38) hx hb dX11_lowest_6 (by decide) (fun c1 => ?_) (fun c1 => ?_)
    · rw [if_pos c1] at hs
      obtain rfl := Option.some.inj hs
      exact hexit _ rfl H locs ls hr hS (lv_sub hl [0, 1] rfl)
    · rw [if_neg c1] at hs
      refine lv_iload_n hx hb dX11_lowest_9 rfl (lv_at hl 2 rfl) ?_
      refine lv_aload_n hx hb dX11_lowest_10 rfl (lv_at hl 0 rfl) ?_
      obtain ⟨x2, ex2, hs⟩ := bi_inv hs
      refine hv_gI (C := RX10) (T := TX10) (N := 3) (ci := 10) hx hb hts inX10 hown hk hr rfl 1 (by decide) (hts _ tw_865) ex2 dX11_lowest_11 ?_
      refine lv_icmp_ge (tgt := 38) hx hb dX11_lowest_14 (by decide) (fun c3 => ?_) (fun c3 => ?_)
      · rw [if_pos c3] at hs
        obtain rfl := Option.some.inj hs
        exact hexit _ rfl H locs ls hr hS (lv_sub hl [0, 1] rfl)
      · rw [if_neg c3] at hs
        refine lv_lload_n hx hb dX11_lowest_17 rfl (lv_at hl 1 rfl) ?_
        refine lv_aload_n hx hb dX11_lowest_18 rfl (lv_at hl 0 rfl) ?_
        obtain ⟨x4, ex4, hs⟩ := bi_inv hs
        refine hv_gR (C := RX10) (T := TX10) (N := 3) (ci := 10) hx hb hts inX10 hown hk hr rfl 2 (by decide) (hts _ tw_867) ex4 dX11_lowest_19 ?_
        refine lv_iload_n hx hb dX11_lowest_22 rfl (lv_at hl 2 rfl) ?_
        obtain ⟨x5, ex5, hs⟩ := bi_inv hs
        refine hv_aI hx hb hk hr ex5 dX11_lowest_23 ?_
        refine lv_i2l hx hb dX11_lowest_24 rfl ?_
        refine lv_bipush (v := 16) hx hb dX11_lowest_25 (by decide) ?_
        refine lv_iload_n hx hb dX11_lowest_27 rfl (lv_at hl 2 rfl) ?_
        refine lv_imul hx hb dX11_lowest_28 ?_
        refine lv_lshl hx hb dX11_lowest_29 rfl ?_
        refine lv_lor hx hb dX11_lowest_30 ?_
        refine lv_topl (fun x6 ex6 => ?_)
        replace hs := lt_inv hs x6 ex6
        refine lv_lstore_n (lv' := [(1, .long x6), (0, .ref u0), (3, .int w3)]) hx hb dX11_lowest_31 rfl hl (by decide) rfl (fun ls hl => ?_)
        refine lv_iinc (v := w3 + (1 : Int32)) (lv' := [(3, .int (w3 + (1 : Int32))), (1, .long x6), (0, .ref u0)]) hx hb dX11_lowest_32 hl (k := 2) rfl (ii_v _ (by decide)) (by decide) rfl (fun ls hl => ?_)
        refine lv_goto (tgt := 4) hx hb dX11_lowest_35 (by decide) ?_
        obtain rfl := Option.some.inj hs
        exact hcont _ rfl H locs ls hr hS (lv_sub hl [2, 1, 0] rfl)
  · intro H locs ls hr hS hl
    refine lv_aload_n hx hb dX11_lowest_38 rfl (lv_at hl 0 rfl) ?_
    obtain ⟨x8, ex8, hs⟩ := bi_inv hs
    refine hv_gI (C := RX10) (T := TX10) (N := 3) (ci := 10) hx hb hts inX10 hown hk hr rfl 0 (by decide) (hts _ tw_863) ex8 dX11_lowest_39 ?_
    refine lv_if_eq (tgt := 50) hx hb dX11_lowest_42 (by decide) (fun c9 => ?_) (fun c9 => ?_)
    · rw [if_pos c9] at hs
      refine lv_lload_n hx hb dX11_lowest_50 rfl (lv_at hl 1 rfl) ?_
      obtain rfl := Option.some.inj hs
      exact hv_lret hx hb hrt hlk hr hS dX11_lowest_51
    · rw [if_neg c9] at hs
      refine lv_lload_n hx hb dX11_lowest_45 rfl (lv_at hl 1 rfl) ?_
      refine lv_lneg hx hb dX11_lowest_46 ?_
      refine lv_goto (tgt := 51) hx hb dX11_lowest_47 (by decide) ?_
      obtain rfl := Option.some.inj hs
      exact hv_lret hx hb hrt hlk hr hS dX11_lowest_51
theorem dX11_isShort_0 : decode cX11_isShort 0 = .ok (.aload_n 0, 1) := by decide +kernel
theorem dX11_isShort_1 : decode cX11_isShort 1 = .ok (.aload_n 1, 1) := by decide +kernel
theorem dX11_isShort_2 : decode cX11_isShort 2 = .ok (.invokestatic 193, 3) := by decide +kernel
theorem dX11_isShort_5 : decode cX11_isShort 5 = .ok (.invokevirtual 87, 3) := by decide +kernel
theorem dX11_isShort_8 : decode cX11_isShort 8 = .ok (.aload_n 1, 1) := by decide +kernel
theorem dX11_isShort_9 : decode cX11_isShort 9 = .ok (.invokestatic 197, 3) := by decide +kernel
theorem dX11_isShort_12 : decode cX11_isShort 12 = .ok (.ifCond .ne 7, 3) := by decide +kernel
theorem dX11_isShort_15 : decode cX11_isShort 15 = .ok (.iconst 1, 1) := by decide +kernel
theorem dX11_isShort_16 : decode cX11_isShort 16 = .ok (.goto 4, 3) := by decide +kernel
theorem dX11_isShort_19 : decode cX11_isShort 19 = .ok (.iconst 0, 1) := by decide +kernel
theorem dX11_isShort_20 : decode cX11_isShort 20 = .ok (.ireturn, 1) := by decide +kernel
def zs_X11_isShort (h : AH) (u0 : Nat) (u1 : Nat) : Option (Int32 × AH) :=
  (zs_X11_lowest h u1).bind fun x1 => (chk h u0 11).bind fun _ => (zs_X11_of h u0 x1).bind fun x3 => (zs_X11_compare x3.2 x3.1 u1).bind fun x4 => (if x4 = 0 then some ((1 : Int32), x3.2) else some ((0 : Int32), x3.2))
set_option maxRecDepth 100000 in
set_option maxHeartbeats 4000000 in
theorem zm_X11_isShort (l : Launch) (D : hG) (z : Nat) {h : AH} {u0 : Nat} {u1 : Nat} {r : Int32} {h' : AH} (hs : zs_X11_isShort h u0 u1 = some (r, h')) : hC l D z yX11_isShort cX11_isShort 2 (Option.some Jvm.ClassFile.FieldType.boolean) 2 48 0 0 [.ref u0, .ref u1] h h' (some (.int r)) := by
  refine hC_of (by decide) (Nat.le_of_ble_eq_true rfl) ?_
  intro p e s m below meth c hx hb hml hrt hlk hown hnm hts hk hr hz ls hl
  replace hown : s.vm.findClass RX11 = some m.cls := hown
  replace hl : lv_has ls 2 [(0, .ref u0), (1, .ref u1)] := hl
  have hS : va_S (hA z) s.heap s.heap [] := va_S.rf
  suffices hgo : ∀ (H : Heap) (locs : List Loc), hR D z h H → va_S (hA z) s.heap H locs → W p l e ({ frames := 2, cells := 0, slots := 0, locals := 48 } : Room) s m ([.ref u0, .ref u1] : List Value).toArray below meth c H locs 0 0 (MQ below (hQ D z h' (some (.int r))) ([.ref u0, .ref u1] : List Value).toArray s 0 0 (hA z)) (F0 m 0 ls []) from hgo _ _ hr hS
  clear hr hS
  intro H locs hr hS
  unfold zs_X11_isShort at hs
  refine lv_aload_n hx hb dX11_isShort_0 rfl (lv_at hl 0 rfl) ?_
  refine lv_aload_n hx hb dX11_isShort_1 rfl (lv_at hl 1 rfl) ?_
  obtain ⟨x1, ex1, hs⟩ := bi_inv hs
  refine hv_S1 (n := 1) [.ref u1] [.ref u0] hx hb hml hown hts hk hr hz hS (zm_X11_lowest l D z ex1) tw_1069 tw_1070 tw_11 tw_1071 (by decide +kernel) (by decide) ⟨(Nat.zero_le _), (Nat.zero_le _)⟩ rfl hl.1 (Nat.le_of_ble_eq_true rfl) dX11_isShort_2 rfl (fun H locs hr hS => ?_)
  obtain ⟨_, ex2, hs⟩ := bi_inv hs
  obtain ⟨x3, ex3, hs⟩ := bi_inv hs
  refine hv_V1 (n := 1) [.long x1] [] hx hb hml hown hts hk hr hz hS (zm_X11_of l D z ex3) ex2 rfl tw_960 tw_962 ts_22 tw_11 tw_963 (by decide +kernel) (by decide) ⟨(Nat.zero_le _), (Nat.zero_le _)⟩ rfl hl.1 (Nat.le_of_ble_eq_true rfl) dX11_isShort_5 rfl (fun H locs hr hS => ?_)
  refine lv_aload_n hx hb dX11_isShort_8 rfl (lv_at hl 1 rfl) ?_
  obtain ⟨x4, ex4, hs⟩ := bi_inv hs
  refine hv_S1 (n := 2) [.ref x3.1, .ref u1] [] hx hb hml hown hts hk hr hz hS (zm_X11_compare l D z ex4) tw_1080 tw_1081 tw_11 tw_1082 (by decide +kernel) (by decide) ⟨(Nat.zero_le _), (Nat.zero_le _)⟩ rfl hl.1 (Nat.le_of_ble_eq_true rfl) dX11_isShort_9 rfl (fun H locs hr hS => ?_)
  refine lv_if_ne (tgt := 19) hx hb dX11_isShort_12 (by decide) (fun c5 => ?_) (fun c5 => ?_)
  · rw [if_neg c5] at hs
    refine lv_iconst (v := 0) hx hb dX11_isShort_19 (by decide) ?_
    obtain ⟨rfl, rfl⟩ := Prod.mk.inj (Option.some.inj hs)
    exact hv_zret hx hb hrt hlk hr hS (by decide) dX11_isShort_20
  · rw [if_pos c5] at hs
    refine lv_iconst (v := 1) hx hb dX11_isShort_15 (by decide) ?_
    refine lv_goto (tgt := 20) hx hb dX11_isShort_16 (by decide) ?_
    obtain ⟨rfl, rfl⟩ := Prod.mk.inj (Option.some.inj hs)
    exact hv_zret hx hb hrt hlk hr hS (by decide) dX11_isShort_20
theorem dX11_length_0 : decode cX11_length 0 = .ok (.aload_n 0, 1) := by decide +kernel
theorem dX11_length_1 : decode cX11_length 1 = .ok (.iload_n 1, 1) := by decide +kernel
theorem dX11_length_2 : decode cX11_length 2 = .ok (.invokevirtual 177, 3) := by decide +kernel
theorem dX11_length_5 : decode cX11_length 5 = .ok (.ifCond .eq 15, 3) := by decide +kernel
theorem dX11_length_8 : decode cX11_length 8 = .ok (.aload_n 0, 1) := by decide +kernel
theorem dX11_length_9 : decode cX11_length 9 = .ok (.getfield 142, 3) := by decide +kernel
theorem dX11_length_12 : decode cX11_length 12 = .ok (.iload_n 1, 1) := by decide +kernel
theorem dX11_length_13 : decode cX11_length 13 = .ok (.aaload, 1) := by decide +kernel
theorem dX11_length_14 : decode cX11_length 14 = .ok (.invokevirtual 131, 3) := by decide +kernel
theorem dX11_length_17 : decode cX11_length 17 = .ok (.goto 4, 3) := by decide +kernel
theorem dX11_length_20 : decode cX11_length 20 = .ok (.iconst (-1), 1) := by decide +kernel
theorem dX11_length_21 : decode cX11_length 21 = .ok (.ireturn, 1) := by decide +kernel
def zs_X11_length (h : AH) (u0 : Nat) (u1 : Int32) : Option (Int32 × AH) :=
  (chk h u0 11).bind fun _ => (zs_X11_isSlot h u0 u1).bind fun x2 => (if x2.1 = 0 then some ((-1 : Int32), x2.2) else (gR x2.2 u0 11 9).bind fun x4 => (aR x2.2 x4 5 u1).bind fun x5 => (chk x2.2 x5 10).bind fun _ => (zs_X10_bits x2.2 x5).bind fun x7 => some (x7, x2.2))
set_option maxRecDepth 100000 in
set_option maxHeartbeats 4000000 in
theorem zm_X11_length (l : Launch) (D : hG) (z : Nat) {h : AH} {u0 : Nat} {u1 : Int32} {r : Int32} {h' : AH} (hs : zs_X11_length h u0 u1 = some (r, h')) : hC l D z yX11_length cX11_length 2 (Option.some Jvm.ClassFile.FieldType.int) 2 41 0 0 [.ref u0, .int u1] h h' (some (.int r)) := by
  refine hC_of (by decide) (Nat.le_of_ble_eq_true rfl) ?_
  intro p e s m below meth c hx hb hml hrt hlk hown hnm hts hk hr hz ls hl
  replace hown : s.vm.findClass RX11 = some m.cls := hown
  replace hl : lv_has ls 2 [(0, .ref u0), (1, .int u1)] := hl
  have hS : va_S (hA z) s.heap s.heap [] := va_S.rf
  suffices hgo : ∀ (H : Heap) (locs : List Loc), hR D z h H → va_S (hA z) s.heap H locs → W p l e ({ frames := 2, cells := 0, slots := 0, locals := 41 } : Room) s m ([.ref u0, .int u1] : List Value).toArray below meth c H locs 0 0 (MQ below (hQ D z h' (some (.int r))) ([.ref u0, .int u1] : List Value).toArray s 0 0 (hA z)) (F0 m 0 ls []) from hgo _ _ hr hS
  clear hr hS
  intro H locs hr hS
  unfold zs_X11_length at hs
  refine lv_aload_n hx hb dX11_length_0 rfl (lv_at hl 0 rfl) ?_
  refine lv_iload_n hx hb dX11_length_1 rfl (lv_at hl 1 rfl) ?_
  obtain ⟨_, ex1, hs⟩ := bi_inv hs
  obtain ⟨x2, ex2, hs⟩ := bi_inv hs
  refine hv_V1 (n := 1) [.int u1] [] hx hb hml hown hts hk hr hz hS (zm_X11_isSlot l D z ex2) ex1 rfl tw_956 tw_958 ts_21 tw_11 tw_959 (by decide +kernel) (by decide) ⟨(Nat.zero_le _), (Nat.zero_le _)⟩ rfl hl.1 (Nat.le_of_ble_eq_true rfl) dX11_length_2 rfl (fun H locs hr hS => ?_)
  refine lv_if_eq (tgt := 20) hx hb dX11_length_5 (by decide) (fun c3 => ?_) (fun c3 => ?_)
  · rw [if_pos c3] at hs
    refine lv_iconst (v := (-1)) hx hb dX11_length_20 (by decide) ?_
    obtain ⟨rfl, rfl⟩ := Prod.mk.inj (Option.some.inj hs)
    exact hv_iret hx hb hrt hlk hr hS dX11_length_21
  · rw [if_neg c3] at hs
    refine lv_aload_n hx hb dX11_length_8 rfl (lv_at hl 0 rfl) ?_
    obtain ⟨x4, ex4, hs⟩ := bi_inv hs
    refine hv_gR (C := RX11) (T := TX11) (N := 23) (ci := 11) hx hb hts inX11 hown hk hr rfl 9 (by decide) (hts _ tw_891) ex4 dX11_length_9 ?_
    refine lv_iload_n hx hb dX11_length_12 rfl (lv_at hl 1 rfl) ?_
    obtain ⟨x5, ex5, hs⟩ := bi_inv hs
    refine hv_aR (kd := 5) hx hb hk hr rfl ex5 dX11_length_13 ?_
    obtain ⟨_, ex6, hs⟩ := bi_inv hs
    obtain ⟨x7, ex7, hs⟩ := bi_inv hs
    refine hv_V1 (n := 0) [] [] hx hb hml hown hts hk hr hz hS (zm_X10_bits l D z ex7) ex6 rfl tw_980 tw_981 tw_982 tw_12 tw_983 (by decide +kernel) (by decide) ⟨(Nat.zero_le _), (Nat.zero_le _)⟩ rfl hl.1 (Nat.le_of_ble_eq_true rfl) dX11_length_14 rfl (fun H locs hr hS => ?_)
    refine lv_goto (tgt := 21) hx hb dX11_length_17 (by decide) ?_
    obtain ⟨rfl, rfl⟩ := Prod.mk.inj (Option.some.inj hs)
    exact hv_iret hx hb hrt hlk hr hS dX11_length_21
theorem dX11_limb_0 : decode cX11_limb 0 = .ok (.aload_n 0, 1) := by decide +kernel
theorem dX11_limb_1 : decode cX11_limb 1 = .ok (.iload_n 1, 1) := by decide +kernel
theorem dX11_limb_2 : decode cX11_limb 2 = .ok (.invokevirtual 177, 3) := by decide +kernel
theorem dX11_limb_5 : decode cX11_limb 5 = .ok (.ifCond .eq 13, 3) := by decide +kernel
theorem dX11_limb_8 : decode cX11_limb 8 = .ok (.iload_n 2, 1) := by decide +kernel
theorem dX11_limb_9 : decode cX11_limb 9 = .ok (.ifCond .lt 9, 3) := by decide +kernel
theorem dX11_limb_12 : decode cX11_limb 12 = .ok (.iload_n 2, 1) := by decide +kernel
theorem dX11_limb_13 : decode cX11_limb 13 = .ok (.bipush 20, 2) := by decide +kernel
theorem dX11_limb_15 : decode cX11_limb 15 = .ok (.if_icmp .le 5, 3) := by decide +kernel
theorem dX11_limb_18 : decode cX11_limb 18 = .ok (.lconst 0, 1) := by decide +kernel
theorem dX11_limb_19 : decode cX11_limb 19 = .ok (.lreturn, 1) := by decide +kernel
theorem dX11_limb_20 : decode cX11_limb 20 = .ok (.aload_n 0, 1) := by decide +kernel
theorem dX11_limb_21 : decode cX11_limb 21 = .ok (.getfield 142, 3) := by decide +kernel
theorem dX11_limb_24 : decode cX11_limb 24 = .ok (.iload_n 1, 1) := by decide +kernel
theorem dX11_limb_25 : decode cX11_limb 25 = .ok (.aaload, 1) := by decide +kernel
theorem dX11_limb_26 : decode cX11_limb 26 = .ok (.astore_n 3, 1) := by decide +kernel
theorem dX11_limb_27 : decode cX11_limb 27 = .ok (.iconst 2, 1) := by decide +kernel
theorem dX11_limb_28 : decode cX11_limb 28 = .ok (.iload_n 2, 1) := by decide +kernel
theorem dX11_limb_29 : decode cX11_limb 29 = .ok (.imul, 1) := by decide +kernel
theorem dX11_limb_30 : decode cX11_limb 30 = .ok (.aload_n 3, 1) := by decide +kernel
theorem dX11_limb_31 : decode cX11_limb 31 = .ok (.getfield 42, 3) := by decide +kernel
theorem dX11_limb_34 : decode cX11_limb 34 = .ok (.if_icmp .ge 15, 3) := by decide +kernel
theorem dX11_limb_37 : decode cX11_limb 37 = .ok (.aload_n 3, 1) := by decide +kernel
theorem dX11_limb_38 : decode cX11_limb 38 = .ok (.getfield 18, 3) := by decide +kernel
theorem dX11_limb_41 : decode cX11_limb 41 = .ok (.iconst 2, 1) := by decide +kernel
theorem dX11_limb_42 : decode cX11_limb 42 = .ok (.iload_n 2, 1) := by decide +kernel
theorem dX11_limb_43 : decode cX11_limb 43 = .ok (.imul, 1) := by decide +kernel
theorem dX11_limb_44 : decode cX11_limb 44 = .ok (.iaload, 1) := by decide +kernel
theorem dX11_limb_45 : decode cX11_limb 45 = .ok (.i2l, 1) := by decide +kernel
theorem dX11_limb_46 : decode cX11_limb 46 = .ok (.goto 4, 3) := by decide +kernel
theorem dX11_limb_49 : decode cX11_limb 49 = .ok (.lconst 0, 1) := by decide +kernel
theorem dX11_limb_50 : decode cX11_limb 50 = .ok (.lstore 4, 2) := by decide +kernel
theorem dX11_limb_52 : decode cX11_limb 52 = .ok (.iconst 2, 1) := by decide +kernel
theorem dX11_limb_53 : decode cX11_limb 53 = .ok (.iload_n 2, 1) := by decide +kernel
theorem dX11_limb_54 : decode cX11_limb 54 = .ok (.imul, 1) := by decide +kernel
theorem dX11_limb_55 : decode cX11_limb 55 = .ok (.iconst 1, 1) := by decide +kernel
theorem dX11_limb_56 : decode cX11_limb 56 = .ok (.iadd, 1) := by decide +kernel
theorem dX11_limb_57 : decode cX11_limb 57 = .ok (.aload_n 3, 1) := by decide +kernel
theorem dX11_limb_58 : decode cX11_limb 58 = .ok (.getfield 42, 3) := by decide +kernel
theorem dX11_limb_61 : decode cX11_limb 61 = .ok (.if_icmp .ge 17, 3) := by decide +kernel
theorem dX11_limb_64 : decode cX11_limb 64 = .ok (.aload_n 3, 1) := by decide +kernel
theorem dX11_limb_65 : decode cX11_limb 65 = .ok (.getfield 18, 3) := by decide +kernel
theorem dX11_limb_68 : decode cX11_limb 68 = .ok (.iconst 2, 1) := by decide +kernel
theorem dX11_limb_69 : decode cX11_limb 69 = .ok (.iload_n 2, 1) := by decide +kernel
theorem dX11_limb_70 : decode cX11_limb 70 = .ok (.imul, 1) := by decide +kernel
theorem dX11_limb_71 : decode cX11_limb 71 = .ok (.iconst 1, 1) := by decide +kernel
theorem dX11_limb_72 : decode cX11_limb 72 = .ok (.iadd, 1) := by decide +kernel
theorem dX11_limb_73 : decode cX11_limb 73 = .ok (.iaload, 1) := by decide +kernel
theorem dX11_limb_74 : decode cX11_limb 74 = .ok (.i2l, 1) := by decide +kernel
theorem dX11_limb_75 : decode cX11_limb 75 = .ok (.goto 4, 3) := by decide +kernel
theorem dX11_limb_78 : decode cX11_limb 78 = .ok (.lconst 0, 1) := by decide +kernel
theorem dX11_limb_79 : decode cX11_limb 79 = .ok (.lstore 6, 2) := by decide +kernel
theorem dX11_limb_81 : decode cX11_limb 81 = .ok (.lload 6, 2) := by decide +kernel
theorem dX11_limb_83 : decode cX11_limb 83 = .ok (.bipush 16, 2) := by decide +kernel
theorem dX11_limb_85 : decode cX11_limb 85 = .ok (.lshl, 1) := by decide +kernel
theorem dX11_limb_86 : decode cX11_limb 86 = .ok (.lload 4, 2) := by decide +kernel
theorem dX11_limb_88 : decode cX11_limb 88 = .ok (.lor, 1) := by decide +kernel
theorem dX11_limb_89 : decode cX11_limb 89 = .ok (.lreturn, 1) := by decide +kernel
def zj_X11_limb_50 (g10 : AH) (y2_50 : Int32) (y3_50 : Nat) (t0_50 : Int64) : Option (Int64 × AH) :=
  (gI g10 y3_50 10 1).bind fun x11 => (if x11 ≤ (((2 : Int32)) * y2_50) + ((1 : Int32)) then some ((((0 : Int64)) <<< (((16 : Int32)).toInt64 &&& 63)) ||| t0_50, g10) else (gR g10 y3_50 10 2).bind fun x13 => (aI g10 x13 0 ((((2 : Int32)) * y2_50) + ((1 : Int32)))).bind fun x14 => some ((x14.toInt64 <<< (((16 : Int32)).toInt64 &&& 63)) ||| t0_50, g10))
def zs_X11_limb (h : AH) (u0 : Nat) (u1 : Int32) (u2 : Int32) : Option (Int64 × AH) :=
  (chk h u0 11).bind fun _ => (zs_X11_isSlot h u0 u1).bind fun x2 => (if x2.1 = 0 then some ((0 : Int64), x2.2) else (if u2 < 0 then some ((0 : Int64), x2.2) else (if u2 ≤ (20 : Int32) then (gR x2.2 u0 11 9).bind fun x6 => (aR x2.2 x6 5 u1).bind fun x7 => (gI x2.2 x7 10 1).bind fun x8 => (if x8 ≤ ((2 : Int32)) * u2 then zj_X11_limb_50 x2.2 u2 x7 ((0 : Int64)) else (gR x2.2 x7 10 2).bind fun x15 => (aI x2.2 x15 0 (((2 : Int32)) * u2)).bind fun x16 => zj_X11_limb_50 x2.2 u2 x7 x16.toInt64) else some ((0 : Int64), x2.2))))
set_option maxRecDepth 100000 in
set_option maxHeartbeats 4000000 in
theorem zm_X11_limb (l : Launch) (D : hG) (z : Nat) {h : AH} {u0 : Nat} {u1 : Int32} {u2 : Int32} {r : Int64} {h' : AH} (hs : zs_X11_limb h u0 u1 u2 = some (r, h')) : hC l D z yX11_limb cX11_limb 8 (Option.some Jvm.ClassFile.FieldType.long) 1 21 0 0 [.ref u0, .int u1, .int u2] h h' (some (.long r)) := by
  refine hC_of (by decide) (Nat.le_of_ble_eq_true rfl) ?_
  intro p e s m below meth c hx hb hml hrt hlk hown hnm hts hk hr hz ls hl
  replace hown : s.vm.findClass RX11 = some m.cls := hown
  replace hl : lv_has ls 8 [(0, .ref u0), (1, .int u1), (2, .int u2)] := hl
  have hS : va_S (hA z) s.heap s.heap [] := va_S.rf
  suffices hgo : ∀ (H : Heap) (locs : List Loc), hR D z h H → va_S (hA z) s.heap H locs → W p l e ({ frames := 1, cells := 0, slots := 0, locals := 21 } : Room) s m ([.ref u0, .int u1, .int u2] : List Value).toArray below meth c H locs 0 0 (MQ below (hQ D z h' (some (.long r))) ([.ref u0, .int u1, .int u2] : List Value).toArray s 0 0 (hA z)) (F0 m 0 ls []) from hgo _ _ hr hS
  clear hr hS
  intro H locs hr hS
  have hJ50 : ∀ (g10 : AH) (y2_50 : Int32) (y3_50 : Nat) (t0_50 : Int64) (H : Heap) (locs : List Loc) (ls : Array Slot), zj_X11_limb_50 g10 y2_50 y3_50 t0_50 = some (r, h') → hR D z g10 H → va_S (hA z) s.heap H locs → lv_has ls 8 [(2, .int y2_50), (3, .ref y3_50)] → W p l e ({ frames := 1, cells := 0, slots := 0, locals := 21 } : Room) s m ([.ref u0, .int u1, .int u2] : List Value).toArray below meth c H locs 0 0 (MQ below (hQ D z h' (some (.long r))) ([.ref u0, .int u1, .int u2] : List Value).toArray s 0 0 (hA z)) (F0 m 50 ls [.long t0_50]) := by
    intro g10 y2_50 y3_50 t0_50 H locs ls hs hr hS hl
    unfold zj_X11_limb_50 at hs
    refine lv_lstore (lv' := [(4, .long t0_50), (2, .int y2_50), (3, .ref y3_50)]) hx hb dX11_limb_50 hl (by decide) rfl (fun ls hl => ?_)
    refine lv_iconst (v := 2) hx hb dX11_limb_52 (by decide) ?_
    refine lv_iload_n hx hb dX11_limb_53 rfl (lv_at hl 1 rfl) ?_
    refine lv_imul hx hb dX11_limb_54 ?_
    refine lv_iconst (v := 1) hx hb dX11_limb_55 (by decide) ?_
    refine lv_iadd hx hb dX11_limb_56 ?_
    refine lv_aload_n hx hb dX11_limb_57 rfl (lv_at hl 2 rfl) ?_
    obtain ⟨x11, ex11, hs⟩ := bi_inv hs
    refine hv_gI (C := RX10) (T := TX10) (N := 3) (ci := 10) hx hb hts inX10 hown hk hr rfl 1 (by decide) (hts _ tw_865) ex11 dX11_limb_58 ?_
    refine lv_icmp_ge (tgt := 78) hx hb dX11_limb_61 (by decide) (fun c12 => ?_) (fun c12 => ?_)
    · rw [if_pos c12] at hs
      refine lv_lconst (v := 0) hx hb dX11_limb_78 (by decide) ?_
      refine lv_lstore (lv' := [(6, .long ((0 : Int64))), (4, .long t0_50), (2, .int y2_50), (3, .ref y3_50)]) hx hb dX11_limb_79 hl (by decide) rfl (fun ls hl => ?_)
      refine lv_lload hx hb dX11_limb_81 (lv_at hl 0 rfl) ?_
      refine lv_bipush (v := 16) hx hb dX11_limb_83 (by decide) ?_
      refine lv_lshl hx hb dX11_limb_85 rfl ?_
      refine lv_lload hx hb dX11_limb_86 (lv_at hl 1 rfl) ?_
      refine lv_lor hx hb dX11_limb_88 ?_
      obtain ⟨rfl, rfl⟩ := Prod.mk.inj (Option.some.inj hs)
      exact hv_lret hx hb hrt hlk hr hS dX11_limb_89
    · rw [if_neg c12] at hs
      refine lv_aload_n hx hb dX11_limb_64 rfl (lv_at hl 2 rfl) ?_
      obtain ⟨x13, ex13, hs⟩ := bi_inv hs
      refine hv_gR (C := RX10) (T := TX10) (N := 3) (ci := 10) hx hb hts inX10 hown hk hr rfl 2 (by decide) (hts _ tw_867) ex13 dX11_limb_65 ?_
      refine lv_iconst (v := 2) hx hb dX11_limb_68 (by decide) ?_
      refine lv_iload_n hx hb dX11_limb_69 rfl (lv_at hl 1 rfl) ?_
      refine lv_imul hx hb dX11_limb_70 ?_
      refine lv_iconst (v := 1) hx hb dX11_limb_71 (by decide) ?_
      refine lv_iadd hx hb dX11_limb_72 ?_
      obtain ⟨x14, ex14, hs⟩ := bi_inv hs
      refine hv_aI hx hb hk hr ex14 dX11_limb_73 ?_
      refine lv_i2l hx hb dX11_limb_74 rfl ?_
      refine lv_goto (tgt := 79) hx hb dX11_limb_75 (by decide) ?_
      refine lv_lstore (lv' := [(6, .long x14.toInt64), (4, .long t0_50), (2, .int y2_50), (3, .ref y3_50)]) hx hb dX11_limb_79 hl (by decide) rfl (fun ls hl => ?_)
      refine lv_lload hx hb dX11_limb_81 (lv_at hl 0 rfl) ?_
      refine lv_bipush (v := 16) hx hb dX11_limb_83 (by decide) ?_
      refine lv_lshl hx hb dX11_limb_85 rfl ?_
      refine lv_lload hx hb dX11_limb_86 (lv_at hl 1 rfl) ?_
      refine lv_lor hx hb dX11_limb_88 ?_
      obtain ⟨rfl, rfl⟩ := Prod.mk.inj (Option.some.inj hs)
      exact hv_lret hx hb hrt hlk hr hS dX11_limb_89
  unfold zs_X11_limb at hs
  refine lv_aload_n hx hb dX11_limb_0 rfl (lv_at hl 0 rfl) ?_
  refine lv_iload_n hx hb dX11_limb_1 rfl (lv_at hl 1 rfl) ?_
  obtain ⟨_, ex1, hs⟩ := bi_inv hs
  obtain ⟨x2, ex2, hs⟩ := bi_inv hs
  refine hv_V1 (n := 1) [.int u1] [] hx hb hml hown hts hk hr hz hS (zm_X11_isSlot l D z ex2) ex1 rfl tw_956 tw_958 ts_21 tw_11 tw_959 (by decide +kernel) (by decide) ⟨(Nat.zero_le _), (Nat.zero_le _)⟩ rfl hl.1 (Nat.le_of_ble_eq_true rfl) dX11_limb_2 rfl (fun H locs hr hS => ?_)
  refine lv_if_eq (tgt := 18) hx hb dX11_limb_5 (by decide) (fun c3 => ?_) (fun c3 => ?_)
  · rw [if_pos c3] at hs
    refine lv_lconst (v := 0) hx hb dX11_limb_18 (by decide) ?_
    obtain ⟨rfl, rfl⟩ := Prod.mk.inj (Option.some.inj hs)
    exact hv_lret hx hb hrt hlk hr hS dX11_limb_19
  · rw [if_neg c3] at hs
    refine lv_iload_n hx hb dX11_limb_8 rfl (lv_at hl 2 rfl) ?_
    refine lv_if_lt (tgt := 18) hx hb dX11_limb_9 (by decide) (fun c4 => ?_) (fun c4 => ?_)
    · rw [if_pos c4] at hs
      refine lv_lconst (v := 0) hx hb dX11_limb_18 (by decide) ?_
      obtain ⟨rfl, rfl⟩ := Prod.mk.inj (Option.some.inj hs)
      exact hv_lret hx hb hrt hlk hr hS dX11_limb_19
    · rw [if_neg c4] at hs
      refine lv_iload_n hx hb dX11_limb_12 rfl (lv_at hl 2 rfl) ?_
      refine lv_bipush (v := 20) hx hb dX11_limb_13 (by decide) ?_
      refine lv_icmp_le (tgt := 20) hx hb dX11_limb_15 (by decide) (fun c5 => ?_) (fun c5 => ?_)
      · rw [if_pos c5] at hs
        refine lv_aload_n hx hb dX11_limb_20 rfl (lv_at hl 0 rfl) ?_
        obtain ⟨x6, ex6, hs⟩ := bi_inv hs
        refine hv_gR (C := RX11) (T := TX11) (N := 23) (ci := 11) hx hb hts inX11 hown hk hr rfl 9 (by decide) (hts _ tw_891) ex6 dX11_limb_21 ?_
        refine lv_iload_n hx hb dX11_limb_24 rfl (lv_at hl 1 rfl) ?_
        obtain ⟨x7, ex7, hs⟩ := bi_inv hs
        refine hv_aR (kd := 5) hx hb hk hr rfl ex7 dX11_limb_25 ?_
        refine lv_astore_n (lv' := [(3, .ref x7), (0, .ref u0), (1, .int u1), (2, .int u2)]) hx hb dX11_limb_26 rfl hl (by decide) rfl (fun ls hl => ?_)
        refine lv_iconst (v := 2) hx hb dX11_limb_27 (by decide) ?_
        refine lv_iload_n hx hb dX11_limb_28 rfl (lv_at hl 3 rfl) ?_
        refine lv_imul hx hb dX11_limb_29 ?_
        refine lv_aload_n hx hb dX11_limb_30 rfl (lv_at hl 0 rfl) ?_
        obtain ⟨x8, ex8, hs⟩ := bi_inv hs
        refine hv_gI (C := RX10) (T := TX10) (N := 3) (ci := 10) hx hb hts inX10 hown hk hr rfl 1 (by decide) (hts _ tw_865) ex8 dX11_limb_31 ?_
        refine lv_icmp_ge (tgt := 49) hx hb dX11_limb_34 (by decide) (fun c9 => ?_) (fun c9 => ?_)
        · rw [if_pos c9] at hs
          refine lv_lconst (v := 0) hx hb dX11_limb_49 (by decide) ?_
          exact hJ50 x2.2 u2 x7 ((0 : Int64)) H locs ls hs hr hS (lv_sub hl [3, 0] rfl)
        · rw [if_neg c9] at hs
          refine lv_aload_n hx hb dX11_limb_37 rfl (lv_at hl 0 rfl) ?_
          obtain ⟨x15, ex15, hs⟩ := bi_inv hs
          refine hv_gR (C := RX10) (T := TX10) (N := 3) (ci := 10) hx hb hts inX10 hown hk hr rfl 2 (by decide) (hts _ tw_867) ex15 dX11_limb_38 ?_
          refine lv_iconst (v := 2) hx hb dX11_limb_41 (by decide) ?_
          refine lv_iload_n hx hb dX11_limb_42 rfl (lv_at hl 3 rfl) ?_
          refine lv_imul hx hb dX11_limb_43 ?_
          obtain ⟨x16, ex16, hs⟩ := bi_inv hs
          refine hv_aI hx hb hk hr ex16 dX11_limb_44 ?_
          refine lv_i2l hx hb dX11_limb_45 rfl ?_
          refine lv_goto (tgt := 50) hx hb dX11_limb_46 (by decide) ?_
          exact hJ50 x2.2 u2 x7 x16.toInt64 H locs ls hs hr hS (lv_sub hl [3, 0] rfl)
      · rw [if_neg c5] at hs
        refine lv_lconst (v := 0) hx hb dX11_limb_18 (by decide) ?_
        obtain ⟨rfl, rfl⟩ := Prod.mk.inj (Option.some.inj hs)
        exact hv_lret hx hb hrt hlk hr hS dX11_limb_19
theorem dX11_limbs_0 : decode cX11_limbs 0 = .ok (.aload_n 0, 1) := by decide +kernel
theorem dX11_limbs_1 : decode cX11_limbs 1 = .ok (.iload_n 1, 1) := by decide +kernel
theorem dX11_limbs_2 : decode cX11_limbs 2 = .ok (.invokevirtual 177, 3) := by decide +kernel
theorem dX11_limbs_5 : decode cX11_limbs 5 = .ok (.ifCond .ne 7, 3) := by decide +kernel
theorem dX11_limbs_8 : decode cX11_limbs 8 = .ok (.iconst (-1), 1) := by decide +kernel
theorem dX11_limbs_9 : decode cX11_limbs 9 = .ok (.goto 33, 3) := by decide +kernel
theorem dX11_limbs_12 : decode cX11_limbs 12 = .ok (.aload_n 0, 1) := by decide +kernel
theorem dX11_limbs_13 : decode cX11_limbs 13 = .ok (.aload_n 0, 1) := by decide +kernel
theorem dX11_limbs_14 : decode cX11_limbs 14 = .ok (.getfield 142, 3) := by decide +kernel
theorem dX11_limbs_17 : decode cX11_limbs 17 = .ok (.iload_n 1, 1) := by decide +kernel
theorem dX11_limbs_18 : decode cX11_limbs 18 = .ok (.aaload, 1) := by decide +kernel
theorem dX11_limbs_19 : decode cX11_limbs 19 = .ok (.invokevirtual 200, 3) := by decide +kernel
theorem dX11_limbs_22 : decode cX11_limbs 22 = .ok (.ifCond .eq 7, 3) := by decide +kernel
theorem dX11_limbs_25 : decode cX11_limbs 25 = .ok (.iconst 0, 1) := by decide +kernel
theorem dX11_limbs_26 : decode cX11_limbs 26 = .ok (.goto 16, 3) := by decide +kernel
theorem dX11_limbs_29 : decode cX11_limbs 29 = .ok (.aload_n 0, 1) := by decide +kernel
theorem dX11_limbs_30 : decode cX11_limbs 30 = .ok (.getfield 142, 3) := by decide +kernel
theorem dX11_limbs_33 : decode cX11_limbs 33 = .ok (.iload_n 1, 1) := by decide +kernel
theorem dX11_limbs_34 : decode cX11_limbs 34 = .ok (.aaload, 1) := by decide +kernel
theorem dX11_limbs_35 : decode cX11_limbs 35 = .ok (.getfield 42, 3) := by decide +kernel
theorem dX11_limbs_38 : decode cX11_limbs 38 = .ok (.iconst 1, 1) := by decide +kernel
theorem dX11_limbs_39 : decode cX11_limbs 39 = .ok (.iadd, 1) := by decide +kernel
theorem dX11_limbs_40 : decode cX11_limbs 40 = .ok (.iconst 2, 1) := by decide +kernel
theorem dX11_limbs_41 : decode cX11_limbs 41 = .ok (.idiv, 1) := by decide +kernel
theorem dX11_limbs_42 : decode cX11_limbs 42 = .ok (.ireturn, 1) := by decide +kernel
def zs_X11_limbs (h : AH) (u0 : Nat) (u1 : Int32) : Option (Int32 × AH) :=
  (chk h u0 11).bind fun _ => (zs_X11_isSlot h u0 u1).bind fun x2 => (if x2.1 = 0 then some ((-1 : Int32), x2.2) else (gR x2.2 u0 11 9).bind fun x4 => (aR x2.2 x4 5 u1).bind fun x5 => (chk x2.2 u0 11).bind fun _ => (zs_X11_isShort x2.2 u0 x5).bind fun x7 => (if x7.1 = 0 then (gR x7.2 u0 11 9).bind fun x9 => (aR x7.2 x9 5 u1).bind fun x10 => (gI x7.2 x10 10 1).bind fun x11 => some ((x11 + ((1 : Int32))) / ((2 : Int32)), x7.2) else some ((0 : Int32), x7.2)))
set_option maxRecDepth 100000 in
set_option maxHeartbeats 4000000 in
theorem zm_X11_limbs (l : Launch) (D : hG) (z : Nat) {h : AH} {u0 : Nat} {u1 : Int32} {r : Int32} {h' : AH} (hs : zs_X11_limbs h u0 u1 = some (r, h')) : hC l D z yX11_limbs cX11_limbs 2 (Option.some Jvm.ClassFile.FieldType.int) 3 69 0 0 [.ref u0, .int u1] h h' (some (.int r)) := by
  refine hC_of (by decide) (Nat.le_of_ble_eq_true rfl) ?_
  intro p e s m below meth c hx hb hml hrt hlk hown hnm hts hk hr hz ls hl
  replace hown : s.vm.findClass RX11 = some m.cls := hown
  replace hl : lv_has ls 2 [(0, .ref u0), (1, .int u1)] := hl
  have hS : va_S (hA z) s.heap s.heap [] := va_S.rf
  suffices hgo : ∀ (H : Heap) (locs : List Loc), hR D z h H → va_S (hA z) s.heap H locs → W p l e ({ frames := 3, cells := 0, slots := 0, locals := 69 } : Room) s m ([.ref u0, .int u1] : List Value).toArray below meth c H locs 0 0 (MQ below (hQ D z h' (some (.int r))) ([.ref u0, .int u1] : List Value).toArray s 0 0 (hA z)) (F0 m 0 ls []) from hgo _ _ hr hS
  clear hr hS
  intro H locs hr hS
  unfold zs_X11_limbs at hs
  refine lv_aload_n hx hb dX11_limbs_0 rfl (lv_at hl 0 rfl) ?_
  refine lv_iload_n hx hb dX11_limbs_1 rfl (lv_at hl 1 rfl) ?_
  obtain ⟨_, ex1, hs⟩ := bi_inv hs
  obtain ⟨x2, ex2, hs⟩ := bi_inv hs
  refine hv_V1 (n := 1) [.int u1] [] hx hb hml hown hts hk hr hz hS (zm_X11_isSlot l D z ex2) ex1 rfl tw_956 tw_958 ts_21 tw_11 tw_959 (by decide +kernel) (by decide) ⟨(Nat.zero_le _), (Nat.zero_le _)⟩ rfl hl.1 (Nat.le_of_ble_eq_true rfl) dX11_limbs_2 rfl (fun H locs hr hS => ?_)
  refine lv_if_ne (tgt := 12) hx hb dX11_limbs_5 (by decide) (fun c3 => ?_) (fun c3 => ?_)
  · rw [if_neg c3] at hs
    refine lv_aload_n hx hb dX11_limbs_12 rfl (lv_at hl 0 rfl) ?_
    refine lv_aload_n hx hb dX11_limbs_13 rfl (lv_at hl 0 rfl) ?_
    obtain ⟨x4, ex4, hs⟩ := bi_inv hs
    refine hv_gR (C := RX11) (T := TX11) (N := 23) (ci := 11) hx hb hts inX11 hown hk hr rfl 9 (by decide) (hts _ tw_891) ex4 dX11_limbs_14 ?_
    refine lv_iload_n hx hb dX11_limbs_17 rfl (lv_at hl 1 rfl) ?_
    obtain ⟨x5, ex5, hs⟩ := bi_inv hs
    refine hv_aR (kd := 5) hx hb hk hr rfl ex5 dX11_limbs_18 ?_
    obtain ⟨_, ex6, hs⟩ := bi_inv hs
    obtain ⟨x7, ex7, hs⟩ := bi_inv hs
    refine hv_V1 (n := 1) [.ref x5] [] hx hb hml hown hts hk hr hz hS (zm_X11_isShort l D z ex7) ex6 rfl tw_1076 tw_1078 ts_35 tw_11 tw_1079 (by decide +kernel) (by decide) ⟨(Nat.zero_le _), (Nat.zero_le _)⟩ rfl hl.1 (Nat.le_of_ble_eq_true rfl) dX11_limbs_19 rfl (fun H locs hr hS => ?_)
    refine lv_if_eq (tgt := 29) hx hb dX11_limbs_22 (by decide) (fun c8 => ?_) (fun c8 => ?_)
    · rw [if_pos c8] at hs
      refine lv_aload_n hx hb dX11_limbs_29 rfl (lv_at hl 0 rfl) ?_
      obtain ⟨x9, ex9, hs⟩ := bi_inv hs
      refine hv_gR (C := RX11) (T := TX11) (N := 23) (ci := 11) hx hb hts inX11 hown hk hr rfl 9 (by decide) (hts _ tw_891) ex9 dX11_limbs_30 ?_
      refine lv_iload_n hx hb dX11_limbs_33 rfl (lv_at hl 1 rfl) ?_
      obtain ⟨x10, ex10, hs⟩ := bi_inv hs
      refine hv_aR (kd := 5) hx hb hk hr rfl ex10 dX11_limbs_34 ?_
      obtain ⟨x11, ex11, hs⟩ := bi_inv hs
      refine hv_gI (C := RX10) (T := TX10) (N := 3) (ci := 10) hx hb hts inX10 hown hk hr rfl 1 (by decide) (hts _ tw_865) ex11 dX11_limbs_35 ?_
      refine lv_iconst (v := 1) hx hb dX11_limbs_38 (by decide) ?_
      refine lv_iadd hx hb dX11_limbs_39 ?_
      refine lv_iconst (v := 2) hx hb dX11_limbs_40 (by decide) ?_
      refine lv_idiv hx hb dX11_limbs_41 (by decide) ?_
      obtain ⟨rfl, rfl⟩ := Prod.mk.inj (Option.some.inj hs)
      exact hv_iret hx hb hrt hlk hr hS dX11_limbs_42
    · rw [if_neg c8] at hs
      refine lv_iconst (v := 0) hx hb dX11_limbs_25 (by decide) ?_
      refine lv_goto (tgt := 42) hx hb dX11_limbs_26 (by decide) ?_
      obtain ⟨rfl, rfl⟩ := Prod.mk.inj (Option.some.inj hs)
      exact hv_iret hx hb hrt hlk hr hS dX11_limbs_42
  · rw [if_pos c3] at hs
    refine lv_iconst (v := (-1)) hx hb dX11_limbs_8 (by decide) ?_
    refine lv_goto (tgt := 42) hx hb dX11_limbs_9 (by decide) ?_
    obtain ⟨rfl, rfl⟩ := Prod.mk.inj (Option.some.inj hs)
    exact hv_iret hx hb hrt hlk hr hS dX11_limbs_42
theorem dX11_low_0 : decode cX11_low 0 = .ok (.aload_n 0, 1) := by decide +kernel
theorem dX11_low_1 : decode cX11_low 1 = .ok (.iload_n 1, 1) := by decide +kernel
theorem dX11_low_2 : decode cX11_low 2 = .ok (.invokevirtual 177, 3) := by decide +kernel
theorem dX11_low_5 : decode cX11_low 5 = .ok (.ifCond .eq 15, 3) := by decide +kernel
theorem dX11_low_8 : decode cX11_low 8 = .ok (.aload_n 0, 1) := by decide +kernel
theorem dX11_low_9 : decode cX11_low 9 = .ok (.getfield 142, 3) := by decide +kernel
theorem dX11_low_12 : decode cX11_low 12 = .ok (.iload_n 1, 1) := by decide +kernel
theorem dX11_low_13 : decode cX11_low 13 = .ok (.aaload, 1) := by decide +kernel
theorem dX11_low_14 : decode cX11_low 14 = .ok (.invokestatic 193, 3) := by decide +kernel
theorem dX11_low_17 : decode cX11_low 17 = .ok (.goto 4, 3) := by decide +kernel
theorem dX11_low_20 : decode cX11_low 20 = .ok (.lconst 0, 1) := by decide +kernel
theorem dX11_low_21 : decode cX11_low 21 = .ok (.lreturn, 1) := by decide +kernel
def zs_X11_low (h : AH) (u0 : Nat) (u1 : Int32) : Option (Int64 × AH) :=
  (chk h u0 11).bind fun _ => (zs_X11_isSlot h u0 u1).bind fun x2 => (if x2.1 = 0 then some ((0 : Int64), x2.2) else (gR x2.2 u0 11 9).bind fun x4 => (aR x2.2 x4 5 u1).bind fun x5 => (zs_X11_lowest x2.2 x5).bind fun x6 => some (x6, x2.2))
set_option maxRecDepth 100000 in
set_option maxHeartbeats 4000000 in
theorem zm_X11_low (l : Launch) (D : hG) (z : Nat) {h : AH} {u0 : Nat} {u1 : Int32} {r : Int64} {h' : AH} (hs : zs_X11_low h u0 u1 = some (r, h')) : hC l D z yX11_low cX11_low 2 (Option.some Jvm.ClassFile.FieldType.long) 1 23 0 0 [.ref u0, .int u1] h h' (some (.long r)) := by
  refine hC_of (by decide) (Nat.le_of_ble_eq_true rfl) ?_
  intro p e s m below meth c hx hb hml hrt hlk hown hnm hts hk hr hz ls hl
  replace hown : s.vm.findClass RX11 = some m.cls := hown
  replace hl : lv_has ls 2 [(0, .ref u0), (1, .int u1)] := hl
  have hS : va_S (hA z) s.heap s.heap [] := va_S.rf
  suffices hgo : ∀ (H : Heap) (locs : List Loc), hR D z h H → va_S (hA z) s.heap H locs → W p l e ({ frames := 1, cells := 0, slots := 0, locals := 23 } : Room) s m ([.ref u0, .int u1] : List Value).toArray below meth c H locs 0 0 (MQ below (hQ D z h' (some (.long r))) ([.ref u0, .int u1] : List Value).toArray s 0 0 (hA z)) (F0 m 0 ls []) from hgo _ _ hr hS
  clear hr hS
  intro H locs hr hS
  unfold zs_X11_low at hs
  refine lv_aload_n hx hb dX11_low_0 rfl (lv_at hl 0 rfl) ?_
  refine lv_iload_n hx hb dX11_low_1 rfl (lv_at hl 1 rfl) ?_
  obtain ⟨_, ex1, hs⟩ := bi_inv hs
  obtain ⟨x2, ex2, hs⟩ := bi_inv hs
  refine hv_V1 (n := 1) [.int u1] [] hx hb hml hown hts hk hr hz hS (zm_X11_isSlot l D z ex2) ex1 rfl tw_956 tw_958 ts_21 tw_11 tw_959 (by decide +kernel) (by decide) ⟨(Nat.zero_le _), (Nat.zero_le _)⟩ rfl hl.1 (Nat.le_of_ble_eq_true rfl) dX11_low_2 rfl (fun H locs hr hS => ?_)
  refine lv_if_eq (tgt := 20) hx hb dX11_low_5 (by decide) (fun c3 => ?_) (fun c3 => ?_)
  · rw [if_pos c3] at hs
    refine lv_lconst (v := 0) hx hb dX11_low_20 (by decide) ?_
    obtain ⟨rfl, rfl⟩ := Prod.mk.inj (Option.some.inj hs)
    exact hv_lret hx hb hrt hlk hr hS dX11_low_21
  · rw [if_neg c3] at hs
    refine lv_aload_n hx hb dX11_low_8 rfl (lv_at hl 0 rfl) ?_
    obtain ⟨x4, ex4, hs⟩ := bi_inv hs
    refine hv_gR (C := RX11) (T := TX11) (N := 23) (ci := 11) hx hb hts inX11 hown hk hr rfl 9 (by decide) (hts _ tw_891) ex4 dX11_low_9 ?_
    refine lv_iload_n hx hb dX11_low_12 rfl (lv_at hl 1 rfl) ?_
    obtain ⟨x5, ex5, hs⟩ := bi_inv hs
    refine hv_aR (kd := 5) hx hb hk hr rfl ex5 dX11_low_13 ?_
    obtain ⟨x6, ex6, hs⟩ := bi_inv hs
    refine hv_S1 (n := 1) [.ref x5] [] hx hb hml hown hts hk hr hz hS (zm_X11_lowest l D z ex6) tw_1069 tw_1070 tw_11 tw_1071 (by decide +kernel) (by decide) ⟨(Nat.zero_le _), (Nat.zero_le _)⟩ rfl hl.1 (Nat.le_of_ble_eq_true rfl) dX11_low_14 rfl (fun H locs hr hS => ?_)
    refine lv_goto (tgt := 21) hx hb dX11_low_17 (by decide) ?_
    obtain ⟨rfl, rfl⟩ := Prod.mk.inj (Option.some.inj hs)
    exact hv_lret hx hb hrt hlk hr hS dX11_low_21
theorem dX11_ones_0 : decode cX11_ones 0 = .ok (.aload_n 0, 1) := by decide +kernel
theorem dX11_ones_1 : decode cX11_ones 1 = .ok (.iload_n 1, 1) := by decide +kernel
theorem dX11_ones_2 : decode cX11_ones 2 = .ok (.invokevirtual 177, 3) := by decide +kernel
theorem dX11_ones_5 : decode cX11_ones 5 = .ok (.ifCond .ne 5, 3) := by decide +kernel
theorem dX11_ones_8 : decode cX11_ones 8 = .ok (.iconst (-1), 1) := by decide +kernel
theorem dX11_ones_9 : decode cX11_ones 9 = .ok (.ireturn, 1) := by decide +kernel
theorem dX11_ones_10 : decode cX11_ones 10 = .ok (.iconst 0, 1) := by decide +kernel
theorem dX11_ones_11 : decode cX11_ones 11 = .ok (.istore_n 2, 1) := by decide +kernel
theorem dX11_ones_12 : decode cX11_ones 12 = .ok (.aload_n 0, 1) := by decide +kernel
theorem dX11_ones_13 : decode cX11_ones 13 = .ok (.aload_n 0, 1) := by decide +kernel
theorem dX11_ones_14 : decode cX11_ones 14 = .ok (.getfield 142, 3) := by decide +kernel
theorem dX11_ones_17 : decode cX11_ones 17 = .ok (.iload_n 1, 1) := by decide +kernel
theorem dX11_ones_18 : decode cX11_ones 18 = .ok (.aaload, 1) := by decide +kernel
theorem dX11_ones_19 : decode cX11_ones 19 = .ok (.aload_n 0, 1) := by decide +kernel
theorem dX11_ones_20 : decode cX11_ones 20 = .ok (.getfield 158, 3) := by decide +kernel
theorem dX11_ones_23 : decode cX11_ones 23 = .ok (.invokevirtual 223, 3) := by decide +kernel
theorem dX11_ones_26 : decode cX11_ones 26 = .ok (.astore_n 3, 1) := by decide +kernel
theorem dX11_ones_27 : decode cX11_ones 27 = .ok (.iconst 0, 1) := by decide +kernel
theorem dX11_ones_28 : decode cX11_ones 28 = .ok (.istore 4, 2) := by decide +kernel
theorem dX11_ones_30 : decode cX11_ones 30 = .ok (.iload 4, 2) := by decide +kernel
theorem dX11_ones_32 : decode cX11_ones 32 = .ok (.bipush 64, 2) := by decide +kernel
theorem dX11_ones_34 : decode cX11_ones 34 = .ok (.if_icmp .ge 41, 3) := by decide +kernel
theorem dX11_ones_37 : decode cX11_ones 37 = .ok (.iload_n 2, 1) := by decide +kernel
theorem dX11_ones_38 : decode cX11_ones 38 = .ok (.aload_n 0, 1) := by decide +kernel
theorem dX11_ones_39 : decode cX11_ones 39 = .ok (.getfield 142, 3) := by decide +kernel
theorem dX11_ones_42 : decode cX11_ones 42 = .ok (.iload_n 1, 1) := by decide +kernel
theorem dX11_ones_43 : decode cX11_ones 43 = .ok (.aaload, 1) := by decide +kernel
theorem dX11_ones_44 : decode cX11_ones 44 = .ok (.getfield 38, 3) := by decide +kernel
theorem dX11_ones_47 : decode cX11_ones 47 = .ok (.ifCond .eq 13, 3) := by decide +kernel
theorem dX11_ones_50 : decode cX11_ones 50 = .ok (.ldc 59, 2) := by decide +kernel
theorem dX11_ones_52 : decode cX11_ones 52 = .ok (.aload_n 3, 1) := by decide +kernel
theorem dX11_ones_53 : decode cX11_ones 53 = .ok (.iload 4, 2) := by decide +kernel
theorem dX11_ones_55 : decode cX11_ones 55 = .ok (.iaload, 1) := by decide +kernel
theorem dX11_ones_56 : decode cX11_ones 56 = .ok (.isub, 1) := by decide +kernel
theorem dX11_ones_57 : decode cX11_ones 57 = .ok (.goto 7, 3) := by decide +kernel
theorem dX11_ones_60 : decode cX11_ones 60 = .ok (.aload_n 3, 1) := by decide +kernel
theorem dX11_ones_61 : decode cX11_ones 61 = .ok (.iload 4, 2) := by decide +kernel
theorem dX11_ones_63 : decode cX11_ones 63 = .ok (.iaload, 1) := by decide +kernel
theorem dX11_ones_64 : decode cX11_ones 64 = .ok (.invokestatic 233, 3) := by decide +kernel
theorem dX11_ones_67 : decode cX11_ones 67 = .ok (.iadd, 1) := by decide +kernel
theorem dX11_ones_68 : decode cX11_ones 68 = .ok (.istore_n 2, 1) := by decide +kernel
theorem dX11_ones_69 : decode cX11_ones 69 = .ok (.iinc 4 1, 3) := by decide +kernel
theorem dX11_ones_72 : decode cX11_ones 72 = .ok (.goto (-42), 3) := by decide +kernel
theorem dX11_ones_75 : decode cX11_ones 75 = .ok (.iload_n 2, 1) := by decide +kernel
theorem dX11_ones_76 : decode cX11_ones 76 = .ok (.ireturn, 1) := by decide +kernel
def zj_X11_ones_64 (h : AH) (w0 : Nat) (w1 : Int32) (w3 : Nat) (y4_64 : Int32) (t0_64 : Int32) (t1_64 : Int32) : Option ((Int32 × Int32) ⊕ (Int32)) :=
  (zs_J6_bitCount_0f7a4 h t0_64).bind fun x15 => lt_ (t1_64 + x15) fun x16 => some (Sum.inl ((x16, y4_64 + (1 : Int32))))
def zb_X11_ones_30 (h : AH) (w0 : Nat) (w1 : Int32) (w3 : Nat) (w2 : Int32) (w4 : Int32) : Option ((Int32 × Int32) ⊕ (Int32)) :=
  (if (64 : Int32) ≤ w4 then some (Sum.inr w2) else (gR h w0 11 9).bind fun x10 => (aR h x10 5 w1).bind fun x11 => (gI h x11 10 0).bind fun x12 => (if x12 = 0 then (aI h w3 0 w4).bind fun x14 => zj_X11_ones_64 h w0 w1 w3 w4 x14 w2 else (aI h w3 0 w4).bind fun x17 => zj_X11_ones_64 h w0 w1 w3 w4 (((65535 : Int32)) - x17) w2))
def zs_X11_ones (h : AH) (u0 : Nat) (u1 : Int32) : Option (Int32 × AH) :=
  (chk h u0 11).bind fun _ => (zs_X11_isSlot h u0 u1).bind fun x2 => (if x2.1 = 0 then some ((-1 : Int32), x2.2) else (gR x2.2 u0 11 9).bind fun x4 => (aR x2.2 x4 5 u1).bind fun x5 => (gR x2.2 u0 11 16).bind fun x6 => (chk x2.2 u0 11).bind fun _ => (zs_X11_twos x2.2 u0 x5 x6).bind fun x8 => (iter (fun q : Int32 × Int32 => zb_X11_ones_30 x8.2 u0 u1 x8.1 q.1 q.2) FU (((0 : Int32), (0 : Int32)))).bind fun r18 => some (r18, x8.2))
set_option maxRecDepth 100000 in
set_option maxHeartbeats 4000000 in
theorem zm_X11_ones (l : Launch) (D : hG) (z : Nat) {h : AH} {u0 : Nat} {u1 : Int32} {r : Int32} {h' : AH} (hs : zs_X11_ones h u0 u1 = some (r, h')) : hC l D z yX11_ones cX11_ones 5 (Option.some Jvm.ClassFile.FieldType.int) 6 160 0 0 [.ref u0, .int u1] h h' (some (.int r)) := by
  refine hC_of (by decide) (Nat.le_of_ble_eq_true rfl) ?_
  intro p e s m below meth c hx hb hml hrt hlk hown hnm hts hk hr hz ls hl
  replace hown : s.vm.findClass RX11 = some m.cls := hown
  replace hl : lv_has ls 5 [(0, .ref u0), (1, .int u1)] := hl
  have hS : va_S (hA z) s.heap s.heap [] := va_S.rf
  suffices hgo : ∀ (H : Heap) (locs : List Loc), hR D z h H → va_S (hA z) s.heap H locs → W p l e ({ frames := 6, cells := 0, slots := 0, locals := 160 } : Room) s m ([.ref u0, .int u1] : List Value).toArray below meth c H locs 0 0 (MQ below (hQ D z h' (some (.int r))) ([.ref u0, .int u1] : List Value).toArray s 0 0 (hA z)) (F0 m 0 ls []) from hgo _ _ hr hS
  clear hr hS
  intro H locs hr hS
  unfold zs_X11_ones at hs
  refine lv_aload_n hx hb dX11_ones_0 rfl (lv_at hl 0 rfl) ?_
  refine lv_iload_n hx hb dX11_ones_1 rfl (lv_at hl 1 rfl) ?_
  obtain ⟨_, ex1, hs⟩ := bi_inv hs
  obtain ⟨x2, ex2, hs⟩ := bi_inv hs
  refine hv_V1 (n := 1) [.int u1] [] hx hb hml hown hts hk hr hz hS (zm_X11_isSlot l D z ex2) ex1 rfl tw_956 tw_958 ts_21 tw_11 tw_959 (by decide +kernel) (by decide) ⟨(Nat.zero_le _), (Nat.zero_le _)⟩ rfl hl.1 (Nat.le_of_ble_eq_true rfl) dX11_ones_2 rfl (fun H locs hr hS => ?_)
  refine lv_if_ne (tgt := 10) hx hb dX11_ones_5 (by decide) (fun c3 => ?_) (fun c3 => ?_)
  · rw [if_neg c3] at hs
    refine lv_iconst (v := 0) hx hb dX11_ones_10 (by decide) ?_
    refine lv_istore_n (lv' := [(2, .int ((0 : Int32))), (0, .ref u0), (1, .int u1)]) hx hb dX11_ones_11 rfl hl (by decide) rfl (fun ls hl => ?_)
    refine lv_aload_n hx hb dX11_ones_12 rfl (lv_at hl 1 rfl) ?_
    refine lv_aload_n hx hb dX11_ones_13 rfl (lv_at hl 1 rfl) ?_
    obtain ⟨x4, ex4, hs⟩ := bi_inv hs
    refine hv_gR (C := RX11) (T := TX11) (N := 23) (ci := 11) hx hb hts inX11 hown hk hr rfl 9 (by decide) (hts _ tw_891) ex4 dX11_ones_14 ?_
    refine lv_iload_n hx hb dX11_ones_17 rfl (lv_at hl 2 rfl) ?_
    obtain ⟨x5, ex5, hs⟩ := bi_inv hs
    refine hv_aR (kd := 5) hx hb hk hr rfl ex5 dX11_ones_18 ?_
    refine lv_aload_n hx hb dX11_ones_19 rfl (lv_at hl 1 rfl) ?_
    obtain ⟨x6, ex6, hs⟩ := bi_inv hs
    refine hv_gR (C := RX11) (T := TX11) (N := 23) (ci := 11) hx hb hts inX11 hown hk hr rfl 16 (by decide) (hts _ tw_898) ex6 dX11_ones_20 ?_
    obtain ⟨_, ex7, hs⟩ := bi_inv hs
    obtain ⟨x8, ex8, hs⟩ := bi_inv hs
    refine hv_V1 (n := 2) [.ref x5, .ref x6] [] hx hb hml hown hts hk hr hz hS (zm_X11_twos l D z ex8) ex7 rfl tw_1148 tw_1150 ts_42 tw_11 tw_1151 (by decide +kernel) (by decide) ⟨(Nat.zero_le _), (Nat.zero_le _)⟩ rfl hl.1 (Nat.le_of_ble_eq_true rfl) dX11_ones_23 rfl (fun H locs hr hS => ?_)
    refine lv_astore_n (lv' := [(3, .ref x8.1), (2, .int ((0 : Int32))), (0, .ref u0), (1, .int u1)]) hx hb dX11_ones_26 rfl hl (by decide) rfl (fun ls hl => ?_)
    refine lv_iconst (v := 0) hx hb dX11_ones_27 (by decide) ?_
    refine lv_istore (lv' := [(4, .int ((0 : Int32))), (3, .ref x8.1), (2, .int ((0 : Int32))), (0, .ref u0), (1, .int u1)]) hx hb dX11_ones_28 hl (by decide) rfl (fun ls hl => ?_)
    obtain ⟨r18, er18, hs⟩ := bi_inv hs
    refine iter_W (fun (q : Int32 × Int32) => ∀ (H : Heap) (locs : List Loc) (ls : Array Slot), hR D z x8.2 H → va_S (hA z) s.heap H locs → lv_has ls 5 [(0, .ref u0), (1, .int u1), (3, .ref x8.1), (2, .int q.1), (4, .int q.2)] → W p l e ({ frames := 6, cells := 0, slots := 0, locals := 160 } : Room) s m ([.ref u0, .int u1] : List Value).toArray below meth c H locs 0 0 (MQ below (hQ D z h' (some (.int r))) ([.ref u0, .int u1] : List Value).toArray s 0 0 (hA z)) (F0 m 30 ls [])) (fun (x : Int32) => ∀ (H : Heap) (locs : List Loc) (ls : Array Slot), hR D z x8.2 H → va_S (hA z) s.heap H locs → lv_has ls 5 [(2, .int x)] → W p l e ({ frames := 6, cells := 0, slots := 0, locals := 160 } : Room) s m ([.ref u0, .int u1] : List Value).toArray below meth c H locs 0 0 (MQ below (hQ D z h' (some (.int r))) ([.ref u0, .int u1] : List Value).toArray s 0 0 (hA z)) (F0 m 75 ls [])) ?_ FU _ r18 er18 ?_ H locs ls hr hS (lv_sub hl [3, 4, 1, 2, 0] rfl)
    · intro q o hs hcont hexit
      obtain ⟨w2, w4⟩ := q
      replace hs : zb_X11_ones_30 x8.2 u0 u1 x8.1 w2 w4 = some o := hs
      intro H locs ls hr hS hl
      have hJ64 : ∀ (y4_64 : Int32) (t0_64 : Int32) (t1_64 : Int32) (H : Heap) (locs : List Loc) (ls : Array Slot), zj_X11_ones_64 x8.2 u0 u1 x8.1 y4_64 t0_64 t1_64 = some o → hR D z x8.2 H → va_S (hA z) s.heap H locs → lv_has ls 5 [(0, .ref u0), (1, .int u1), (3, .ref x8.1), (4, .int y4_64)] → W p l e ({ frames := 6, cells := 0, slots := 0, locals := 160 } : Room) s m ([.ref u0, .int u1] : List Value).toArray below meth c H locs 0 0 (MQ below (hQ D z h' (some (.int r))) ([.ref u0, .int u1] : List Value).toArray s 0 0 (hA z)) (F0 m 64 ls [.int t0_64, .int t1_64]) := by
        intro y4_64 t0_64 t1_64 H locs ls hs hr hS hl
        unfold zj_X11_ones_64 at hs
        obtain ⟨x15, ex15, hs⟩ := bi_inv hs
        refine hv_S1 (n := 1) [.int t0_64] [.int t1_64] hx hb hml hown hts hk hr hz hS (zm_J6_bitCount_0f7a4 l D z ex15) tw_1174 tw_1175 tw_14 tw_1176 (by decide +kernel) (by decide) ⟨(Nat.zero_le _), (Nat.zero_le _)⟩ rfl hl.1 (Nat.le_of_ble_eq_true rfl) dX11_ones_64 rfl (fun H locs hr hS => ?_)
        refine lv_iadd hx hb dX11_ones_67 ?_
        refine lv_topi (fun x16 ex16 => ?_)
        replace hs := lt_inv hs x16 ex16
        refine lv_istore_n (lv' := [(2, .int x16), (0, .ref u0), (1, .int u1), (3, .ref x8.1), (4, .int y4_64)]) hx hb dX11_ones_68 rfl hl (by decide) rfl (fun ls hl => ?_)
        refine lv_iinc (v := y4_64 + (1 : Int32)) (lv' := [(4, .int (y4_64 + (1 : Int32))), (2, .int x16), (0, .ref u0), (1, .int u1), (3, .ref x8.1)]) hx hb dX11_ones_69 hl (k := 4) rfl (ii_v _ (by decide)) (by decide) rfl (fun ls hl => ?_)
        refine lv_goto (tgt := 30) hx hb dX11_ones_72 (by decide) ?_
        obtain rfl := Option.some.inj hs
        exact hcont _ rfl H locs ls hr hS (lv_sub hl [2, 3, 4, 1, 0] rfl)
      unfold zb_X11_ones_30 at hs
      refine lv_iload hx hb dX11_ones_30 (lv_at hl 4 rfl) ?_
      refine lv_bipush (v := 64) hx hb dX11_ones_32 (by decide) ?_
      refine lv_icmp_ge (tgt := 75) hx hb dX11_ones_34 (by decide) (fun c9 => ?_) (fun c9 => ?_)
      · rw [if_pos c9] at hs
        obtain rfl := Option.some.inj hs
        exact hexit _ rfl H locs ls hr hS (lv_sub hl [3] rfl)
      · rw [if_neg c9] at hs
        refine lv_iload_n hx hb dX11_ones_37 rfl (lv_at hl 3 rfl) ?_
        refine lv_aload_n hx hb dX11_ones_38 rfl (lv_at hl 0 rfl) ?_
        obtain ⟨x10, ex10, hs⟩ := bi_inv hs
        refine hv_gR (C := RX11) (T := TX11) (N := 23) (ci := 11) hx hb hts inX11 hown hk hr rfl 9 (by decide) (hts _ tw_891) ex10 dX11_ones_39 ?_
        refine lv_iload_n hx hb dX11_ones_42 rfl (lv_at hl 1 rfl) ?_
        obtain ⟨x11, ex11, hs⟩ := bi_inv hs
        refine hv_aR (kd := 5) hx hb hk hr rfl ex11 dX11_ones_43 ?_
        obtain ⟨x12, ex12, hs⟩ := bi_inv hs
        refine hv_gI (C := RX10) (T := TX10) (N := 3) (ci := 10) hx hb hts inX10 hown hk hr rfl 0 (by decide) (hts _ tw_863) ex12 dX11_ones_44 ?_
        refine lv_if_eq (tgt := 60) hx hb dX11_ones_47 (by decide) (fun c13 => ?_) (fun c13 => ?_)
        · rw [if_pos c13] at hs
          refine lv_aload_n hx hb dX11_ones_60 rfl (lv_at hl 2 rfl) ?_
          refine lv_iload hx hb dX11_ones_61 (lv_at hl 4 rfl) ?_
          obtain ⟨x14, ex14, hs⟩ := bi_inv hs
          refine hv_aI hx hb hk hr ex14 dX11_ones_63 ?_
          exact hJ64 w4 x14 w2 H locs ls hs hr hS (lv_sub hl [0, 1, 2, 4] rfl)
        · rw [if_neg c13] at hs
          refine lv_ldc hx hb hown (hts _ tw_1026) dX11_ones_50 ?_
          refine lv_aload_n hx hb dX11_ones_52 rfl (lv_at hl 2 rfl) ?_
          refine lv_iload hx hb dX11_ones_53 (lv_at hl 4 rfl) ?_
          obtain ⟨x17, ex17, hs⟩ := bi_inv hs
          refine hv_aI hx hb hk hr ex17 dX11_ones_55 ?_
          refine lv_isub hx hb dX11_ones_56 ?_
          refine lv_goto (tgt := 64) hx hb dX11_ones_57 (by decide) ?_
          exact hJ64 w4 (((65535 : Int32)) - x17) w2 H locs ls hs hr hS (lv_sub hl [0, 1, 2, 4] rfl)
    · intro H locs ls hr hS hl
      refine lv_iload_n hx hb dX11_ones_75 rfl (lv_at hl 0 rfl) ?_
      obtain ⟨rfl, rfl⟩ := Prod.mk.inj (Option.some.inj hs)
      exact hv_iret hx hb hrt hlk hr hS dX11_ones_76
  · rw [if_pos c3] at hs
    refine lv_iconst (v := (-1)) hx hb dX11_ones_8 (by decide) ?_
    obtain ⟨rfl, rfl⟩ := Prod.mk.inj (Option.some.inj hs)
    exact hv_iret hx hb hrt hlk hr hS dX11_ones_9
theorem dX11_out_0 : decode cX11_out 0 = .ok (.aload_n 0, 1) := by decide +kernel
theorem dX11_out_1 : decode cX11_out 1 = .ok (.iload_n 1, 1) := by decide +kernel
theorem dX11_out_2 : decode cX11_out 2 = .ok (.ifCond .lt 15, 3) := by decide +kernel
theorem dX11_out_5 : decode cX11_out 5 = .ok (.iload_n 1, 1) := by decide +kernel
theorem dX11_out_6 : decode cX11_out 6 = .ok (.aload_n 0, 1) := by decide +kernel
theorem dX11_out_7 : decode cX11_out 7 = .ok (.getfield 190, 3) := by decide +kernel
theorem dX11_out_10 : decode cX11_out 10 = .ok (.if_icmp .ge 7, 3) := by decide +kernel
theorem dX11_out_13 : decode cX11_out 13 = .ok (.iconst 0, 1) := by decide +kernel
theorem dX11_out_14 : decode cX11_out 14 = .ok (.goto 4, 3) := by decide +kernel
theorem dX11_out_17 : decode cX11_out 17 = .ok (.iconst 1, 1) := by decide +kernel
theorem dX11_out_18 : decode cX11_out 18 = .ok (.putfield 1, 3) := by decide +kernel
theorem dX11_out_21 : decode cX11_out 21 = .ok (.aload_n 0, 1) := by decide +kernel
theorem dX11_out_22 : decode cX11_out 22 = .ok (.getfield 1, 3) := by decide +kernel
theorem dX11_out_25 : decode cX11_out 25 = .ok (.ifCond .ne 12, 3) := by decide +kernel
theorem dX11_out_28 : decode cX11_out 28 = .ok (.aload_n 0, 1) := by decide +kernel
theorem dX11_out_29 : decode cX11_out 29 = .ok (.getfield 155, 3) := by decide +kernel
theorem dX11_out_32 : decode cX11_out 32 = .ok (.iload_n 1, 1) := by decide +kernel
theorem dX11_out_33 : decode cX11_out 33 = .ok (.baload, 1) := by decide +kernel
theorem dX11_out_34 : decode cX11_out 34 = .ok (.goto 4, 3) := by decide +kernel
theorem dX11_out_37 : decode cX11_out 37 = .ok (.iconst 0, 1) := by decide +kernel
theorem dX11_out_38 : decode cX11_out 38 = .ok (.ireturn, 1) := by decide +kernel
def zj_X11_out_18 (g2 : AH) (y0_18 : Nat) (y1_18 : Int32) (t0_18 : Int32) (t1_18 : Nat) : Option (Int32 × AH) :=
  (pV g2 t1_18 11 0 (.int t0_18)).bind fun g3 => (gI g3 y0_18 11 0).bind fun x4 => (if x4 = 0 then (gR g3 y0_18 11 14).bind fun x6 => (aI g3 x6 2 y1_18).bind fun x7 => some (x7, g3) else some ((0 : Int32), g3))
def zs_X11_out (h : AH) (u0 : Nat) (u1 : Int32) : Option (Int32 × AH) :=
  (if u1 < 0 then zj_X11_out_18 h u0 u1 ((1 : Int32)) u0 else (gI h u0 11 15).bind fun x8 => (if x8 ≤ u1 then zj_X11_out_18 h u0 u1 ((1 : Int32)) u0 else zj_X11_out_18 h u0 u1 ((0 : Int32)) u0))
set_option maxRecDepth 100000 in
set_option maxHeartbeats 4000000 in
theorem zm_X11_out (l : Launch) (D : hG) (z : Nat) {h : AH} {u0 : Nat} {u1 : Int32} {r : Int32} {h' : AH} (hs : zs_X11_out h u0 u1 = some (r, h')) : hC l D z yX11_out cX11_out 2 (Option.some Jvm.ClassFile.FieldType.int) 0 0 0 0 [.ref u0, .int u1] h h' (some (.int r)) := by
  refine hC_of (by decide) (Nat.le_of_ble_eq_true rfl) ?_
  intro p e s m below meth c hx hb hml hrt hlk hown hnm hts hk hr hz ls hl
  replace hown : s.vm.findClass RX11 = some m.cls := hown
  replace hl : lv_has ls 2 [(0, .ref u0), (1, .int u1)] := hl
  have hS : va_S (hA z) s.heap s.heap [] := va_S.rf
  suffices hgo : ∀ (H : Heap) (locs : List Loc), hR D z h H → va_S (hA z) s.heap H locs → W p l e ({ frames := 0, cells := 0, slots := 0, locals := 0 } : Room) s m ([.ref u0, .int u1] : List Value).toArray below meth c H locs 0 0 (MQ below (hQ D z h' (some (.int r))) ([.ref u0, .int u1] : List Value).toArray s 0 0 (hA z)) (F0 m 0 ls []) from hgo _ _ hr hS
  clear hr hS
  intro H locs hr hS
  have hJ18 : ∀ (g2 : AH) (y0_18 : Nat) (y1_18 : Int32) (t0_18 : Int32) (t1_18 : Nat) (H : Heap) (locs : List Loc) (ls : Array Slot), zj_X11_out_18 g2 y0_18 y1_18 t0_18 t1_18 = some (r, h') → hR D z g2 H → va_S (hA z) s.heap H locs → lv_has ls 2 [(0, .ref y0_18), (1, .int y1_18)] → W p l e ({ frames := 0, cells := 0, slots := 0, locals := 0 } : Room) s m ([.ref u0, .int u1] : List Value).toArray below meth c H locs 0 0 (MQ below (hQ D z h' (some (.int r))) ([.ref u0, .int u1] : List Value).toArray s 0 0 (hA z)) (F0 m 18 ls [.int t0_18, .ref t1_18]) := by
    intro g2 y0_18 y1_18 t0_18 t1_18 H locs ls hs hr hS hl
    unfold zj_X11_out_18 at hs
    obtain ⟨g3, eg3, hs⟩ := bi_inv hs
    refine hv_pV (C := RX11) (T := TX11) (N := 23) (ci := 11) hx hb hts inX11 tyX11 tyX11_ok nmX11 hown hk hr hS rfl 0 (by decide) (hts _ tw_882) rfl rfl rfl eg3 dX11_out_18 (fun H locs hr hS => ?_)
    refine lv_aload_n hx hb dX11_out_21 rfl (lv_at hl 0 rfl) ?_
    obtain ⟨x4, ex4, hs⟩ := bi_inv hs
    refine hv_gI (C := RX11) (T := TX11) (N := 23) (ci := 11) hx hb hts inX11 hown hk hr rfl 0 (by decide) (hts _ tw_882) ex4 dX11_out_22 ?_
    refine lv_if_ne (tgt := 37) hx hb dX11_out_25 (by decide) (fun c5 => ?_) (fun c5 => ?_)
    · rw [if_neg c5] at hs
      refine lv_iconst (v := 0) hx hb dX11_out_37 (by decide) ?_
      obtain ⟨rfl, rfl⟩ := Prod.mk.inj (Option.some.inj hs)
      exact hv_iret hx hb hrt hlk hr hS dX11_out_38
    · rw [if_pos c5] at hs
      refine lv_aload_n hx hb dX11_out_28 rfl (lv_at hl 0 rfl) ?_
      obtain ⟨x6, ex6, hs⟩ := bi_inv hs
      refine hv_gR (C := RX11) (T := TX11) (N := 23) (ci := 11) hx hb hts inX11 hown hk hr rfl 14 (by decide) (hts _ tw_896) ex6 dX11_out_29 ?_
      refine lv_iload_n hx hb dX11_out_32 rfl (lv_at hl 1 rfl) ?_
      obtain ⟨x7, ex7, hs⟩ := bi_inv hs
      refine hv_aB hx hb hk hr ex7 dX11_out_33 ?_
      refine lv_goto (tgt := 38) hx hb dX11_out_34 (by decide) ?_
      obtain ⟨rfl, rfl⟩ := Prod.mk.inj (Option.some.inj hs)
      exact hv_iret hx hb hrt hlk hr hS dX11_out_38
  unfold zs_X11_out at hs
  refine lv_aload_n hx hb dX11_out_0 rfl (lv_at hl 0 rfl) ?_
  refine lv_iload_n hx hb dX11_out_1 rfl (lv_at hl 1 rfl) ?_
  refine lv_if_lt (tgt := 17) hx hb dX11_out_2 (by decide) (fun c1 => ?_) (fun c1 => ?_)
  · rw [if_pos c1] at hs
    refine lv_iconst (v := 1) hx hb dX11_out_17 (by decide) ?_
    exact hJ18 h u0 u1 ((1 : Int32)) u0 H locs ls hs hr hS (lv_sub hl [0, 1] rfl)
  · rw [if_neg c1] at hs
    refine lv_iload_n hx hb dX11_out_5 rfl (lv_at hl 1 rfl) ?_
    refine lv_aload_n hx hb dX11_out_6 rfl (lv_at hl 0 rfl) ?_
    obtain ⟨x8, ex8, hs⟩ := bi_inv hs
    refine hv_gI (C := RX11) (T := TX11) (N := 23) (ci := 11) hx hb hts inX11 hown hk hr rfl 15 (by decide) (hts _ tw_897) ex8 dX11_out_7 ?_
    refine lv_icmp_ge (tgt := 17) hx hb dX11_out_10 (by decide) (fun c9 => ?_) (fun c9 => ?_)
    · rw [if_pos c9] at hs
      refine lv_iconst (v := 1) hx hb dX11_out_17 (by decide) ?_
      exact hJ18 h u0 u1 ((1 : Int32)) u0 H locs ls hs hr hS (lv_sub hl [0, 1] rfl)
    · rw [if_neg c9] at hs
      refine lv_iconst (v := 0) hx hb dX11_out_13 (by decide) ?_
      refine lv_goto (tgt := 18) hx hb dX11_out_14 (by decide) ?_
      exact hJ18 h u0 u1 ((0 : Int32)) u0 H locs ls hs hr hS (lv_sub hl [0, 1] rfl)
theorem dX11_over__0 : decode cX11_over_ 0 = .ok (.aload_n 0, 1) := by decide +kernel
theorem dX11_over__1 : decode cX11_over_ 1 = .ok (.iload_n 2, 1) := by decide +kernel
theorem dX11_over__2 : decode cX11_over_ 2 = .ok (.invokevirtual 177, 3) := by decide +kernel
theorem dX11_over__5 : decode cX11_over_ 5 = .ok (.ifCond .eq 45, 3) := by decide +kernel
theorem dX11_over__8 : decode cX11_over_ 8 = .ok (.aload_n 0, 1) := by decide +kernel
theorem dX11_over__9 : decode cX11_over_ 9 = .ok (.iload_n 3, 1) := by decide +kernel
theorem dX11_over__10 : decode cX11_over_ 10 = .ok (.invokevirtual 177, 3) := by decide +kernel
theorem dX11_over__13 : decode cX11_over_ 13 = .ok (.ifCond .eq 37, 3) := by decide +kernel
theorem dX11_over__16 : decode cX11_over_ 16 = .ok (.aload_n 0, 1) := by decide +kernel
theorem dX11_over__17 : decode cX11_over_ 17 = .ok (.iload 4, 2) := by decide +kernel
theorem dX11_over__19 : decode cX11_over_ 19 = .ok (.invokevirtual 177, 3) := by decide +kernel
theorem dX11_over__22 : decode cX11_over_ 22 = .ok (.ifCond .eq 28, 3) := by decide +kernel
theorem dX11_over__25 : decode cX11_over_ 25 = .ok (.aload_n 0, 1) := by decide +kernel
theorem dX11_over__26 : decode cX11_over_ 26 = .ok (.iload 5, 2) := by decide +kernel
theorem dX11_over__28 : decode cX11_over_ 28 = .ok (.invokevirtual 177, 3) := by decide +kernel
theorem dX11_over__31 : decode cX11_over_ 31 = .ok (.ifCond .eq 19, 3) := by decide +kernel
theorem dX11_over__34 : decode cX11_over_ 34 = .ok (.iload 4, 2) := by decide +kernel
theorem dX11_over__36 : decode cX11_over_ 36 = .ok (.iload 5, 2) := by decide +kernel
theorem dX11_over__38 : decode cX11_over_ 38 = .ok (.if_icmp .eq 12, 3) := by decide +kernel
theorem dX11_over__41 : decode cX11_over_ 41 = .ok (.iload_n 1, 1) := by decide +kernel
theorem dX11_over__42 : decode cX11_over_ 42 = .ok (.ifCond .lt 8, 3) := by decide +kernel
theorem dX11_over__45 : decode cX11_over_ 45 = .ok (.iload_n 1, 1) := by decide +kernel
theorem dX11_over__46 : decode cX11_over_ 46 = .ok (.iconst 2, 1) := by decide +kernel
theorem dX11_over__47 : decode cX11_over_ 47 = .ok (.if_icmp .le 5, 3) := by decide +kernel
theorem dX11_over__50 : decode cX11_over_ 50 = .ok (.iconst (-1), 1) := by decide +kernel
theorem dX11_over__51 : decode cX11_over_ 51 = .ok (.ireturn, 1) := by decide +kernel
theorem dX11_over__52 : decode cX11_over_ 52 = .ok (.aload_n 0, 1) := by decide +kernel
theorem dX11_over__53 : decode cX11_over_ 53 = .ok (.getfield 142, 3) := by decide +kernel
theorem dX11_over__56 : decode cX11_over_ 56 = .ok (.iload_n 3, 1) := by decide +kernel
theorem dX11_over__57 : decode cX11_over_ 57 = .ok (.aaload, 1) := by decide +kernel
theorem dX11_over__58 : decode cX11_over_ 58 = .ok (.invokevirtual 60, 3) := by decide +kernel
theorem dX11_over__61 : decode cX11_over_ 61 = .ok (.ifCond .eq 6, 3) := by decide +kernel
theorem dX11_over__64 : decode cX11_over_ 64 = .ok (.bipush (-2), 2) := by decide +kernel
theorem dX11_over__66 : decode cX11_over_ 66 = .ok (.ireturn, 1) := by decide +kernel
theorem dX11_over__67 : decode cX11_over_ 67 = .ok (.aload_n 0, 1) := by decide +kernel
theorem dX11_over__68 : decode cX11_over_ 68 = .ok (.iload_n 1, 1) := by decide +kernel
theorem dX11_over__69 : decode cX11_over_ 69 = .ok (.aload_n 0, 1) := by decide +kernel
theorem dX11_over__70 : decode cX11_over_ 70 = .ok (.getfield 142, 3) := by decide +kernel
theorem dX11_over__73 : decode cX11_over_ 73 = .ok (.iload_n 2, 1) := by decide +kernel
theorem dX11_over__74 : decode cX11_over_ 74 = .ok (.aaload, 1) := by decide +kernel
theorem dX11_over__75 : decode cX11_over_ 75 = .ok (.aload_n 0, 1) := by decide +kernel
theorem dX11_over__76 : decode cX11_over_ 76 = .ok (.getfield 142, 3) := by decide +kernel
theorem dX11_over__79 : decode cX11_over_ 79 = .ok (.iload_n 3, 1) := by decide +kernel
theorem dX11_over__80 : decode cX11_over_ 80 = .ok (.aaload, 1) := by decide +kernel
theorem dX11_over__81 : decode cX11_over_ 81 = .ok (.invokevirtual 207, 3) := by decide +kernel
theorem dX11_over__84 : decode cX11_over_ 84 = .ok (.aload_n 0, 1) := by decide +kernel
theorem dX11_over__85 : decode cX11_over_ 85 = .ok (.getfield 78, 3) := by decide +kernel
theorem dX11_over__88 : decode cX11_over_ 88 = .ok (.invokestatic 173, 3) := by decide +kernel
theorem dX11_over__91 : decode cX11_over_ 91 = .ok (.ifCond .eq 13, 3) := by decide +kernel
theorem dX11_over__94 : decode cX11_over_ 94 = .ok (.aload_n 0, 1) := by decide +kernel
theorem dX11_over__95 : decode cX11_over_ 95 = .ok (.getfield 84, 3) := by decide +kernel
theorem dX11_over__98 : decode cX11_over_ 98 = .ok (.invokestatic 173, 3) := by decide +kernel
theorem dX11_over__101 : decode cX11_over_ 101 = .ok (.ifCond .ne 6, 3) := by decide +kernel
theorem dX11_over__104 : decode cX11_over_ 104 = .ok (.bipush (-5), 2) := by decide +kernel
theorem dX11_over__106 : decode cX11_over_ 106 = .ok (.ireturn, 1) := by decide +kernel
theorem dX11_over__107 : decode cX11_over_ 107 = .ok (.aload_n 0, 1) := by decide +kernel
theorem dX11_over__108 : decode cX11_over_ 108 = .ok (.getfield 142, 3) := by decide +kernel
theorem dX11_over__111 : decode cX11_over_ 111 = .ok (.iload 4, 2) := by decide +kernel
theorem dX11_over__113 : decode cX11_over_ 113 = .ok (.aaload, 1) := by decide +kernel
theorem dX11_over__114 : decode cX11_over_ 114 = .ok (.aload_n 0, 1) := by decide +kernel
theorem dX11_over__115 : decode cX11_over_ 115 = .ok (.getfield 78, 3) := by decide +kernel
theorem dX11_over__118 : decode cX11_over_ 118 = .ok (.invokevirtual 30, 3) := by decide +kernel
theorem dX11_over__121 : decode cX11_over_ 121 = .ok (.aload_n 0, 1) := by decide +kernel
theorem dX11_over__122 : decode cX11_over_ 122 = .ok (.getfield 142, 3) := by decide +kernel
theorem dX11_over__125 : decode cX11_over_ 125 = .ok (.iload 5, 2) := by decide +kernel
theorem dX11_over__127 : decode cX11_over_ 127 = .ok (.aaload, 1) := by decide +kernel
theorem dX11_over__128 : decode cX11_over_ 128 = .ok (.aload_n 0, 1) := by decide +kernel
theorem dX11_over__129 : decode cX11_over_ 129 = .ok (.getfield 84, 3) := by decide +kernel
theorem dX11_over__132 : decode cX11_over_ 132 = .ok (.invokevirtual 30, 3) := by decide +kernel
theorem dX11_over__135 : decode cX11_over_ 135 = .ok (.iconst 1, 1) := by decide +kernel
theorem dX11_over__136 : decode cX11_over_ 136 = .ok (.ireturn, 1) := by decide +kernel
def zs_X11_over_ (h : AH) (u0 : Nat) (u1 : Int32) (u2 : Int32) (u3 : Int32) (u4 : Int32) (u5 : Int32) : Option (Int32 × AH) :=
  (chk h u0 11).bind fun _ => (zs_X11_isSlot h u0 u2).bind fun x2 => (if x2.1 = 0 then some ((-1 : Int32), x2.2) else (chk x2.2 u0 11).bind fun _ => (zs_X11_isSlot x2.2 u0 u3).bind fun x5 => (if x5.1 = 0 then some ((-1 : Int32), x5.2) else (chk x5.2 u0 11).bind fun _ => (zs_X11_isSlot x5.2 u0 u4).bind fun x8 => (if x8.1 = 0 then some ((-1 : Int32), x8.2) else (chk x8.2 u0 11).bind fun _ => (zs_X11_isSlot x8.2 u0 u5).bind fun x11 => (if x11.1 = 0 then some ((-1 : Int32), x11.2) else (if u4 = u5 then some ((-1 : Int32), x11.2) else (if u1 < 0 then some ((-1 : Int32), x11.2) else (if u1 ≤ (2 : Int32) then (gR x11.2 u0 11 9).bind fun x16 => (aR x11.2 x16 5 u3).bind fun x17 => (chk x11.2 x17 10).bind fun _ => (zs_X10_isZero x11.2 x17).bind fun x19 => (if x19 = 0 then (gR x11.2 u0 11 9).bind fun x21 => (aR x11.2 x21 5 u2).bind fun x22 => (gR x11.2 u0 11 9).bind fun x23 => (aR x11.2 x23 5 u3).bind fun x24 => (chk x11.2 u0 11).bind fun _ => (zs_X11_over x11.2 u0 u1 x22 x24).bind fun g26 => (gR g26 u0 11 5).bind fun x27 => (zs_X11_fits g26 x27).bind fun x28 => (if x28 = 0 then some ((-5 : Int32), g26) else (gR g26 u0 11 6).bind fun x30 => (zs_X11_fits g26 x30).bind fun x31 => (if x31 = 0 then some ((-5 : Int32), g26) else (gR g26 u0 11 9).bind fun x33 => (aR g26 x33 5 u4).bind fun x34 => (gR g26 u0 11 5).bind fun x35 => (chk g26 x34 10).bind fun _ => (zs_X10_become g26 x34 x35).bind fun g37 => (gR g37 u0 11 9).bind fun x38 => (aR g37 x38 5 u5).bind fun x39 => (gR g37 u0 11 6).bind fun x40 => (chk g37 x39 10).bind fun _ => (zs_X10_become g37 x39 x40).bind fun g42 => some ((1 : Int32), g42))) else some ((-2 : Int32), x11.2)) else some ((-1 : Int32), x11.2))))))))
set_option maxRecDepth 100000 in
set_option maxHeartbeats 4000000 in
theorem zm_X11_over_ (l : Launch) (D : hG) (z : Nat) {h : AH} {u0 : Nat} {u1 : Int32} {u2 : Int32} {u3 : Int32} {u4 : Int32} {u5 : Int32} {r : Int32} {h' : AH} (hs : zs_X11_over_ h u0 u1 u2 u3 u4 u5 = some (r, h')) : hC l D z yX11_over_ cX11_over_ 6 (Option.some Jvm.ClassFile.FieldType.int) 6 166 0 0 [.ref u0, .int u1, .int u2, .int u3, .int u4, .int u5] h h' (some (.int r)) := by
  refine hC_of (by decide) (Nat.le_of_ble_eq_true rfl) ?_
  intro p e s m below meth c hx hb hml hrt hlk hown hnm hts hk hr hz ls hl
  replace hown : s.vm.findClass RX11 = some m.cls := hown
  replace hl : lv_has ls 6 [(0, .ref u0), (1, .int u1), (2, .int u2), (3, .int u3), (4, .int u4), (5, .int u5)] := hl
  have hS : va_S (hA z) s.heap s.heap [] := va_S.rf
  suffices hgo : ∀ (H : Heap) (locs : List Loc), hR D z h H → va_S (hA z) s.heap H locs → W p l e ({ frames := 6, cells := 0, slots := 0, locals := 166 } : Room) s m ([.ref u0, .int u1, .int u2, .int u3, .int u4, .int u5] : List Value).toArray below meth c H locs 0 0 (MQ below (hQ D z h' (some (.int r))) ([.ref u0, .int u1, .int u2, .int u3, .int u4, .int u5] : List Value).toArray s 0 0 (hA z)) (F0 m 0 ls []) from hgo _ _ hr hS
  clear hr hS
  intro H locs hr hS
  unfold zs_X11_over_ at hs
  refine lv_aload_n hx hb dX11_over__0 rfl (lv_at hl 0 rfl) ?_
  refine lv_iload_n hx hb dX11_over__1 rfl (lv_at hl 2 rfl) ?_
  obtain ⟨_, ex1, hs⟩ := bi_inv hs
  obtain ⟨x2, ex2, hs⟩ := bi_inv hs
  refine hv_V1 (n := 1) [.int u2] [] hx hb hml hown hts hk hr hz hS (zm_X11_isSlot l D z ex2) ex1 rfl tw_956 tw_958 ts_21 tw_11 tw_959 (by decide +kernel) (by decide) ⟨(Nat.zero_le _), (Nat.zero_le _)⟩ rfl hl.1 (Nat.le_of_ble_eq_true rfl) dX11_over__2 rfl (fun H locs hr hS => ?_)
  refine lv_if_eq (tgt := 50) hx hb dX11_over__5 (by decide) (fun c3 => ?_) (fun c3 => ?_)
  · rw [if_pos c3] at hs
    refine lv_iconst (v := (-1)) hx hb dX11_over__50 (by decide) ?_
    obtain ⟨rfl, rfl⟩ := Prod.mk.inj (Option.some.inj hs)
    exact hv_iret hx hb hrt hlk hr hS dX11_over__51
  · rw [if_neg c3] at hs
    refine lv_aload_n hx hb dX11_over__8 rfl (lv_at hl 0 rfl) ?_
    refine lv_iload_n hx hb dX11_over__9 rfl (lv_at hl 3 rfl) ?_
    obtain ⟨_, ex4, hs⟩ := bi_inv hs
    obtain ⟨x5, ex5, hs⟩ := bi_inv hs
    refine hv_V1 (n := 1) [.int u3] [] hx hb hml hown hts hk hr hz hS (zm_X11_isSlot l D z ex5) ex4 rfl tw_956 tw_958 ts_21 tw_11 tw_959 (by decide +kernel) (by decide) ⟨(Nat.zero_le _), (Nat.zero_le _)⟩ rfl hl.1 (Nat.le_of_ble_eq_true rfl) dX11_over__10 rfl (fun H locs hr hS => ?_)
    refine lv_if_eq (tgt := 50) hx hb dX11_over__13 (by decide) (fun c6 => ?_) (fun c6 => ?_)
    · rw [if_pos c6] at hs
      refine lv_iconst (v := (-1)) hx hb dX11_over__50 (by decide) ?_
      obtain ⟨rfl, rfl⟩ := Prod.mk.inj (Option.some.inj hs)
      exact hv_iret hx hb hrt hlk hr hS dX11_over__51
    · rw [if_neg c6] at hs
      refine lv_aload_n hx hb dX11_over__16 rfl (lv_at hl 0 rfl) ?_
      refine lv_iload hx hb dX11_over__17 (lv_at hl 4 rfl) ?_
      obtain ⟨_, ex7, hs⟩ := bi_inv hs
      obtain ⟨x8, ex8, hs⟩ := bi_inv hs
      refine hv_V1 (n := 1) [.int u4] [] hx hb hml hown hts hk hr hz hS (zm_X11_isSlot l D z ex8) ex7 rfl tw_956 tw_958 ts_21 tw_11 tw_959 (by decide +kernel) (by decide) ⟨(Nat.zero_le _), (Nat.zero_le _)⟩ rfl hl.1 (Nat.le_of_ble_eq_true rfl) dX11_over__19 rfl (fun H locs hr hS => ?_)
      refine lv_if_eq (tgt := 50) hx hb dX11_over__22 (by decide) (fun c9 => ?_) (fun c9 => ?_)
      · rw [if_pos c9] at hs
        refine lv_iconst (v := (-1)) hx hb dX11_over__50 (by decide) ?_
        obtain ⟨rfl, rfl⟩ := Prod.mk.inj (Option.some.inj hs)
        exact hv_iret hx hb hrt hlk hr hS dX11_over__51
      · rw [if_neg c9] at hs
        refine lv_aload_n hx hb dX11_over__25 rfl (lv_at hl 0 rfl) ?_
        refine lv_iload hx hb dX11_over__26 (lv_at hl 5 rfl) ?_
        obtain ⟨_, ex10, hs⟩ := bi_inv hs
        obtain ⟨x11, ex11, hs⟩ := bi_inv hs
        refine hv_V1 (n := 1) [.int u5] [] hx hb hml hown hts hk hr hz hS (zm_X11_isSlot l D z ex11) ex10 rfl tw_956 tw_958 ts_21 tw_11 tw_959 (by decide +kernel) (by decide) ⟨(Nat.zero_le _), (Nat.zero_le _)⟩ rfl hl.1 (Nat.le_of_ble_eq_true rfl) dX11_over__28 rfl (fun H locs hr hS => ?_)
        refine lv_if_eq (tgt := 50) hx hb dX11_over__31 (by decide) (fun c12 => ?_) (fun c12 => ?_)
        · rw [if_pos c12] at hs
          refine lv_iconst (v := (-1)) hx hb dX11_over__50 (by decide) ?_
          obtain ⟨rfl, rfl⟩ := Prod.mk.inj (Option.some.inj hs)
          exact hv_iret hx hb hrt hlk hr hS dX11_over__51
        · rw [if_neg c12] at hs
          refine lv_iload hx hb dX11_over__34 (lv_at hl 4 rfl) ?_
          refine lv_iload hx hb dX11_over__36 (lv_at hl 5 rfl) ?_
          refine lv_icmp_eq (tgt := 50) hx hb dX11_over__38 (by decide) (fun c13 => ?_) (fun c13 => ?_)
          · rw [if_pos c13] at hs
            refine lv_iconst (v := (-1)) hx hb dX11_over__50 (by decide) ?_
            obtain ⟨rfl, rfl⟩ := Prod.mk.inj (Option.some.inj hs)
            exact hv_iret hx hb hrt hlk hr hS dX11_over__51
          · rw [if_neg c13] at hs
            refine lv_iload_n hx hb dX11_over__41 rfl (lv_at hl 1 rfl) ?_
            refine lv_if_lt (tgt := 50) hx hb dX11_over__42 (by decide) (fun c14 => ?_) (fun c14 => ?_)
            · rw [if_pos c14] at hs
              refine lv_iconst (v := (-1)) hx hb dX11_over__50 (by decide) ?_
              obtain ⟨rfl, rfl⟩ := Prod.mk.inj (Option.some.inj hs)
              exact hv_iret hx hb hrt hlk hr hS dX11_over__51
            · rw [if_neg c14] at hs
              refine lv_iload_n hx hb dX11_over__45 rfl (lv_at hl 1 rfl) ?_
              refine lv_iconst (v := 2) hx hb dX11_over__46 (by decide) ?_
              refine lv_icmp_le (tgt := 52) hx hb dX11_over__47 (by decide) (fun c15 => ?_) (fun c15 => ?_)
              · rw [if_pos c15] at hs
                refine lv_aload_n hx hb dX11_over__52 rfl (lv_at hl 0 rfl) ?_
                obtain ⟨x16, ex16, hs⟩ := bi_inv hs
                refine hv_gR (C := RX11) (T := TX11) (N := 23) (ci := 11) hx hb hts inX11 hown hk hr rfl 9 (by decide) (hts _ tw_891) ex16 dX11_over__53 ?_
                refine lv_iload_n hx hb dX11_over__56 rfl (lv_at hl 3 rfl) ?_
                obtain ⟨x17, ex17, hs⟩ := bi_inv hs
                refine hv_aR (kd := 5) hx hb hk hr rfl ex17 dX11_over__57 ?_
                obtain ⟨_, ex18, hs⟩ := bi_inv hs
                obtain ⟨x19, ex19, hs⟩ := bi_inv hs
                refine hv_V1 (n := 0) [] [] hx hb hml hown hts hk hr hz hS (zm_X10_isZero l D z ex19) ex18 rfl tw_1011 tw_1012 tw_1013 tw_12 tw_1014 (by decide +kernel) (by decide) ⟨(Nat.zero_le _), (Nat.zero_le _)⟩ rfl hl.1 (Nat.le_of_ble_eq_true rfl) dX11_over__58 rfl (fun H locs hr hS => ?_)
                refine lv_if_eq (tgt := 67) hx hb dX11_over__61 (by decide) (fun c20 => ?_) (fun c20 => ?_)
                · rw [if_pos c20] at hs
                  refine lv_aload_n hx hb dX11_over__67 rfl (lv_at hl 0 rfl) ?_
                  refine lv_iload_n hx hb dX11_over__68 rfl (lv_at hl 1 rfl) ?_
                  refine lv_aload_n hx hb dX11_over__69 rfl (lv_at hl 0 rfl) ?_
                  obtain ⟨x21, ex21, hs⟩ := bi_inv hs
                  refine hv_gR (C := RX11) (T := TX11) (N := 23) (ci := 11) hx hb hts inX11 hown hk hr rfl 9 (by decide) (hts _ tw_891) ex21 dX11_over__70 ?_
                  refine lv_iload_n hx hb dX11_over__73 rfl (lv_at hl 2 rfl) ?_
                  obtain ⟨x22, ex22, hs⟩ := bi_inv hs
                  refine hv_aR (kd := 5) hx hb hk hr rfl ex22 dX11_over__74 ?_
                  refine lv_aload_n hx hb dX11_over__75 rfl (lv_at hl 0 rfl) ?_
                  obtain ⟨x23, ex23, hs⟩ := bi_inv hs
                  refine hv_gR (C := RX11) (T := TX11) (N := 23) (ci := 11) hx hb hts inX11 hown hk hr rfl 9 (by decide) (hts _ tw_891) ex23 dX11_over__76 ?_
                  refine lv_iload_n hx hb dX11_over__79 rfl (lv_at hl 3 rfl) ?_
                  obtain ⟨x24, ex24, hs⟩ := bi_inv hs
                  refine hv_aR (kd := 5) hx hb hk hr rfl ex24 dX11_over__80 ?_
                  obtain ⟨_, ex25, hs⟩ := bi_inv hs
                  obtain ⟨g26, eg26, hs⟩ := bi_inv hs
                  refine hv_V0 (n := 3) [.int u1, .ref x22, .ref x24] [] hx hb hml hown hts hk hr hz hS (zm_X11_over l D z eg26) ex25 rfl tw_1107 tw_1109 ts_38 tw_11 tw_1110 (by decide +kernel) (by decide) ⟨(Nat.zero_le _), (Nat.zero_le _)⟩ rfl hl.1 (Nat.le_of_ble_eq_true rfl) dX11_over__81 rfl (fun H locs hr hS => ?_)
                  refine lv_aload_n hx hb dX11_over__84 rfl (lv_at hl 0 rfl) ?_
                  obtain ⟨x27, ex27, hs⟩ := bi_inv hs
                  refine hv_gR (C := RX11) (T := TX11) (N := 23) (ci := 11) hx hb hts inX11 hown hk hr rfl 5 (by decide) (hts _ tw_887) ex27 dX11_over__85 ?_
                  obtain ⟨x28, ex28, hs⟩ := bi_inv hs
                  refine hv_S1 (n := 1) [.ref x27] [] hx hb hml hown hts hk hr hz hS (zm_X11_fits l D z ex28) tw_977 tw_978 tw_11 tw_979 (by decide +kernel) (by decide) ⟨(Nat.zero_le _), (Nat.zero_le _)⟩ rfl hl.1 (Nat.le_of_ble_eq_true rfl) dX11_over__88 rfl (fun H locs hr hS => ?_)
                  refine lv_if_eq (tgt := 104) hx hb dX11_over__91 (by decide) (fun c29 => ?_) (fun c29 => ?_)
                  · rw [if_pos c29] at hs
                    refine lv_bipush (v := (-5)) hx hb dX11_over__104 (by decide) ?_
                    obtain ⟨rfl, rfl⟩ := Prod.mk.inj (Option.some.inj hs)
                    exact hv_iret hx hb hrt hlk hr hS dX11_over__106
                  · rw [if_neg c29] at hs
                    refine lv_aload_n hx hb dX11_over__94 rfl (lv_at hl 0 rfl) ?_
                    obtain ⟨x30, ex30, hs⟩ := bi_inv hs
                    refine hv_gR (C := RX11) (T := TX11) (N := 23) (ci := 11) hx hb hts inX11 hown hk hr rfl 6 (by decide) (hts _ tw_888) ex30 dX11_over__95 ?_
                    obtain ⟨x31, ex31, hs⟩ := bi_inv hs
                    refine hv_S1 (n := 1) [.ref x30] [] hx hb hml hown hts hk hr hz hS (zm_X11_fits l D z ex31) tw_977 tw_978 tw_11 tw_979 (by decide +kernel) (by decide) ⟨(Nat.zero_le _), (Nat.zero_le _)⟩ rfl hl.1 (Nat.le_of_ble_eq_true rfl) dX11_over__98 rfl (fun H locs hr hS => ?_)
                    refine lv_if_ne (tgt := 107) hx hb dX11_over__101 (by decide) (fun c32 => ?_) (fun c32 => ?_)
                    · rw [if_neg c32] at hs
                      refine lv_aload_n hx hb dX11_over__107 rfl (lv_at hl 0 rfl) ?_
                      obtain ⟨x33, ex33, hs⟩ := bi_inv hs
                      refine hv_gR (C := RX11) (T := TX11) (N := 23) (ci := 11) hx hb hts inX11 hown hk hr rfl 9 (by decide) (hts _ tw_891) ex33 dX11_over__108 ?_
                      refine lv_iload hx hb dX11_over__111 (lv_at hl 4 rfl) ?_
                      obtain ⟨x34, ex34, hs⟩ := bi_inv hs
                      refine hv_aR (kd := 5) hx hb hk hr rfl ex34 dX11_over__113 ?_
                      refine lv_aload_n hx hb dX11_over__114 rfl (lv_at hl 0 rfl) ?_
                      obtain ⟨x35, ex35, hs⟩ := bi_inv hs
                      refine hv_gR (C := RX11) (T := TX11) (N := 23) (ci := 11) hx hb hts inX11 hown hk hr rfl 5 (by decide) (hts _ tw_887) ex35 dX11_over__115 ?_
                      obtain ⟨_, ex36, hs⟩ := bi_inv hs
                      obtain ⟨g37, eg37, hs⟩ := bi_inv hs
                      refine hv_V0 (n := 1) [.ref x35] [] hx hb hml hown hts hk hr hz hS (zm_X10_become l D z eg37) ex36 rfl tw_875 tw_876 tw_877 tw_12 tw_878 (by decide +kernel) (by decide) ⟨(Nat.zero_le _), (Nat.zero_le _)⟩ rfl hl.1 (Nat.le_of_ble_eq_true rfl) dX11_over__118 rfl (fun H locs hr hS => ?_)
                      refine lv_aload_n hx hb dX11_over__121 rfl (lv_at hl 0 rfl) ?_
                      obtain ⟨x38, ex38, hs⟩ := bi_inv hs
                      refine hv_gR (C := RX11) (T := TX11) (N := 23) (ci := 11) hx hb hts inX11 hown hk hr rfl 9 (by decide) (hts _ tw_891) ex38 dX11_over__122 ?_
                      refine lv_iload hx hb dX11_over__125 (lv_at hl 5 rfl) ?_
                      obtain ⟨x39, ex39, hs⟩ := bi_inv hs
                      refine hv_aR (kd := 5) hx hb hk hr rfl ex39 dX11_over__127 ?_
                      refine lv_aload_n hx hb dX11_over__128 rfl (lv_at hl 0 rfl) ?_
                      obtain ⟨x40, ex40, hs⟩ := bi_inv hs
                      refine hv_gR (C := RX11) (T := TX11) (N := 23) (ci := 11) hx hb hts inX11 hown hk hr rfl 6 (by decide) (hts _ tw_888) ex40 dX11_over__129 ?_
                      obtain ⟨_, ex41, hs⟩ := bi_inv hs
                      obtain ⟨g42, eg42, hs⟩ := bi_inv hs
                      refine hv_V0 (n := 1) [.ref x40] [] hx hb hml hown hts hk hr hz hS (zm_X10_become l D z eg42) ex41 rfl tw_875 tw_876 tw_877 tw_12 tw_878 (by decide +kernel) (by decide) ⟨(Nat.zero_le _), (Nat.zero_le _)⟩ rfl hl.1 (Nat.le_of_ble_eq_true rfl) dX11_over__132 rfl (fun H locs hr hS => ?_)
                      refine lv_iconst (v := 1) hx hb dX11_over__135 (by decide) ?_
                      obtain ⟨rfl, rfl⟩ := Prod.mk.inj (Option.some.inj hs)
                      exact hv_iret hx hb hrt hlk hr hS dX11_over__136
                    · rw [if_pos c32] at hs
                      refine lv_bipush (v := (-5)) hx hb dX11_over__104 (by decide) ?_
                      obtain ⟨rfl, rfl⟩ := Prod.mk.inj (Option.some.inj hs)
                      exact hv_iret hx hb hrt hlk hr hS dX11_over__106
                · rw [if_neg c20] at hs
                  refine lv_bipush (v := (-2)) hx hb dX11_over__64 (by decide) ?_
                  obtain ⟨rfl, rfl⟩ := Prod.mk.inj (Option.some.inj hs)
                  exact hv_iret hx hb hrt hlk hr hS dX11_over__66
              · rw [if_neg c15] at hs
                refine lv_iconst (v := (-1)) hx hb dX11_over__50 (by decide) ?_
                obtain ⟨rfl, rfl⟩ := Prod.mk.inj (Option.some.inj hs)
                exact hv_iret hx hb hrt hlk hr hS dX11_over__51
theorem dX11_part_0 : decode cX11_part 0 = .ok (.aload_n 0, 1) := by decide +kernel
theorem dX11_part_1 : decode cX11_part 1 = .ok (.iload_n 1, 1) := by decide +kernel
theorem dX11_part_2 : decode cX11_part 2 = .ok (.invokevirtual 236, 3) := by decide +kernel
theorem dX11_part_5 : decode cX11_part 5 = .ok (.ifCond .eq 20, 3) := by decide +kernel
theorem dX11_part_8 : decode cX11_part 8 = .ok (.aload_n 0, 1) := by decide +kernel
theorem dX11_part_9 : decode cX11_part 9 = .ok (.iload_n 3, 1) := by decide +kernel
theorem dX11_part_10 : decode cX11_part 10 = .ok (.invokevirtual 177, 3) := by decide +kernel
theorem dX11_part_13 : decode cX11_part 13 = .ok (.ifCond .eq 12, 3) := by decide +kernel
theorem dX11_part_16 : decode cX11_part 16 = .ok (.iload_n 2, 1) := by decide +kernel
theorem dX11_part_17 : decode cX11_part 17 = .ok (.ifCond .lt 8, 3) := by decide +kernel
theorem dX11_part_20 : decode cX11_part 20 = .ok (.iload_n 2, 1) := by decide +kernel
theorem dX11_part_21 : decode cX11_part 21 = .ok (.iconst 3, 1) := by decide +kernel
theorem dX11_part_22 : decode cX11_part 22 = .ok (.if_icmp .le 5, 3) := by decide +kernel
theorem dX11_part_25 : decode cX11_part 25 = .ok (.iconst (-1), 1) := by decide +kernel
theorem dX11_part_26 : decode cX11_part 26 = .ok (.ireturn, 1) := by decide +kernel
theorem dX11_part_27 : decode cX11_part 27 = .ok (.iload_n 2, 1) := by decide +kernel
theorem dX11_part_28 : decode cX11_part 28 = .ok (.iconst 2, 1) := by decide +kernel
theorem dX11_part_29 : decode cX11_part 29 = .ok (.if_icmp .ge 28, 3) := by decide +kernel
theorem dX11_part_32 : decode cX11_part 32 = .ok (.aload_n 0, 1) := by decide +kernel
theorem dX11_part_33 : decode cX11_part 33 = .ok (.iload_n 3, 1) := by decide +kernel
theorem dX11_part_34 : decode cX11_part 34 = .ok (.iload_n 2, 1) := by decide +kernel
theorem dX11_part_35 : decode cX11_part 35 = .ok (.ifCond .ne 12, 3) := by decide +kernel
theorem dX11_part_38 : decode cX11_part 38 = .ok (.aload_n 0, 1) := by decide +kernel
theorem dX11_part_39 : decode cX11_part 39 = .ok (.getfield 145, 3) := by decide +kernel
theorem dX11_part_42 : decode cX11_part 42 = .ok (.iload_n 1, 1) := by decide +kernel
theorem dX11_part_43 : decode cX11_part 43 = .ok (.aaload, 1) := by decide +kernel
theorem dX11_part_44 : decode cX11_part 44 = .ok (.goto 9, 3) := by decide +kernel
theorem dX11_part_47 : decode cX11_part 47 = .ok (.aload_n 0, 1) := by decide +kernel
theorem dX11_part_48 : decode cX11_part 48 = .ok (.getfield 148, 3) := by decide +kernel
theorem dX11_part_51 : decode cX11_part 51 = .ok (.iload_n 1, 1) := by decide +kernel
theorem dX11_part_52 : decode cX11_part 52 = .ok (.aaload, 1) := by decide +kernel
theorem dX11_part_53 : decode cX11_part 53 = .ok (.invokevirtual 180, 3) := by decide +kernel
theorem dX11_part_56 : decode cX11_part 56 = .ok (.ireturn, 1) := by decide +kernel
theorem dX11_part_57 : decode cX11_part 57 = .ok (.aload_n 0, 1) := by decide +kernel
theorem dX11_part_58 : decode cX11_part 58 = .ok (.iconst 1, 1) := by decide +kernel
theorem dX11_part_59 : decode cX11_part 59 = .ok (.aload_n 0, 1) := by decide +kernel
theorem dX11_part_60 : decode cX11_part 60 = .ok (.getfield 145, 3) := by decide +kernel
theorem dX11_part_63 : decode cX11_part 63 = .ok (.iload_n 1, 1) := by decide +kernel
theorem dX11_part_64 : decode cX11_part 64 = .ok (.aaload, 1) := by decide +kernel
theorem dX11_part_65 : decode cX11_part 65 = .ok (.aload_n 0, 1) := by decide +kernel
theorem dX11_part_66 : decode cX11_part 66 = .ok (.getfield 148, 3) := by decide +kernel
theorem dX11_part_69 : decode cX11_part 69 = .ok (.iload_n 1, 1) := by decide +kernel
theorem dX11_part_70 : decode cX11_part 70 = .ok (.aaload, 1) := by decide +kernel
theorem dX11_part_71 : decode cX11_part 71 = .ok (.invokevirtual 207, 3) := by decide +kernel
theorem dX11_part_74 : decode cX11_part 74 = .ok (.aload_n 0, 1) := by decide +kernel
theorem dX11_part_75 : decode cX11_part 75 = .ok (.getfield 78, 3) := by decide +kernel
theorem dX11_part_78 : decode cX11_part 78 = .ok (.astore 4, 2) := by decide +kernel
theorem dX11_part_80 : decode cX11_part 80 = .ok (.iload_n 2, 1) := by decide +kernel
theorem dX11_part_81 : decode cX11_part 81 = .ok (.iconst 2, 1) := by decide +kernel
theorem dX11_part_82 : decode cX11_part 82 = .ok (.if_icmp .ne 11, 3) := by decide +kernel
theorem dX11_part_85 : decode cX11_part 85 = .ok (.aload_n 0, 1) := by decide +kernel
theorem dX11_part_86 : decode cX11_part 86 = .ok (.iload_n 3, 1) := by decide +kernel
theorem dX11_part_87 : decode cX11_part 87 = .ok (.aload 4, 2) := by decide +kernel
theorem dX11_part_89 : decode cX11_part 89 = .ok (.invokevirtual 180, 3) := by decide +kernel
theorem dX11_part_92 : decode cX11_part 92 = .ok (.ireturn, 1) := by decide +kernel
theorem dX11_part_93 : decode cX11_part 93 = .ok (.aload_n 0, 1) := by decide +kernel
theorem dX11_part_94 : decode cX11_part 94 = .ok (.aload_n 0, 1) := by decide +kernel
theorem dX11_part_95 : decode cX11_part 95 = .ok (.getfield 84, 3) := by decide +kernel
theorem dX11_part_98 : decode cX11_part 98 = .ok (.aload_n 0, 1) := by decide +kernel
theorem dX11_part_99 : decode cX11_part 99 = .ok (.getfield 84, 3) := by decide +kernel
theorem dX11_part_102 : decode cX11_part 102 = .ok (.invokevirtual 116, 3) := by decide +kernel
theorem dX11_part_105 : decode cX11_part 105 = .ok (.aload_n 0, 1) := by decide +kernel
theorem dX11_part_106 : decode cX11_part 106 = .ok (.getfield 148, 3) := by decide +kernel
theorem dX11_part_109 : decode cX11_part 109 = .ok (.iload_n 1, 1) := by decide +kernel
theorem dX11_part_110 : decode cX11_part 110 = .ok (.aaload, 1) := by decide +kernel
theorem dX11_part_111 : decode cX11_part 111 = .ok (.invokestatic 197, 3) := by decide +kernel
theorem dX11_part_114 : decode cX11_part 114 = .ok (.istore 5, 2) := by decide +kernel
theorem dX11_part_116 : decode cX11_part 116 = .ok (.aload 4, 2) := by decide +kernel
theorem dX11_part_118 : decode cX11_part 118 = .ok (.iconst 0, 1) := by decide +kernel
theorem dX11_part_119 : decode cX11_part 119 = .ok (.invokevirtual 70, 3) := by decide +kernel
theorem dX11_part_122 : decode cX11_part 122 = .ok (.istore 6, 2) := by decide +kernel
theorem dX11_part_124 : decode cX11_part 124 = .ok (.aload_n 0, 1) := by decide +kernel
theorem dX11_part_125 : decode cX11_part 125 = .ok (.iload_n 3, 1) := by decide +kernel
theorem dX11_part_126 : decode cX11_part 126 = .ok (.iload 5, 2) := by decide +kernel
theorem dX11_part_128 : decode cX11_part 128 = .ok (.ifCond .gt 13, 3) := by decide +kernel
theorem dX11_part_131 : decode cX11_part 131 = .ok (.iload 5, 2) := by decide +kernel
theorem dX11_part_133 : decode cX11_part 133 = .ok (.ifCond .ne 21, 3) := by decide +kernel
theorem dX11_part_136 : decode cX11_part 136 = .ok (.iload 6, 2) := by decide +kernel
theorem dX11_part_138 : decode cX11_part 138 = .ok (.ifCond .eq 16, 3) := by decide +kernel
theorem dX11_part_141 : decode cX11_part 141 = .ok (.aload_n 0, 1) := by decide +kernel
theorem dX11_part_142 : decode cX11_part 142 = .ok (.aload 4, 2) := by decide +kernel
theorem dX11_part_144 : decode cX11_part 144 = .ok (.aload_n 0, 1) := by decide +kernel
theorem dX11_part_145 : decode cX11_part 145 = .ok (.getfield 113, 3) := by decide +kernel
theorem dX11_part_148 : decode cX11_part 148 = .ok (.invokevirtual 116, 3) := by decide +kernel
theorem dX11_part_151 : decode cX11_part 151 = .ok (.goto 5, 3) := by decide +kernel
theorem dX11_part_154 : decode cX11_part 154 = .ok (.aload 4, 2) := by decide +kernel
theorem dX11_part_156 : decode cX11_part 156 = .ok (.invokevirtual 180, 3) := by decide +kernel
theorem dX11_part_159 : decode cX11_part 159 = .ok (.ireturn, 1) := by decide +kernel
def zj_X11_part_156 (g32 : AH) (t0_156 : Nat) (t1_156 : Int32) (t2_156 : Nat) : Option (Int32 × AH) :=
  (chk g32 t2_156 11).bind fun _ => (zs_X11_keep g32 t2_156 t1_156 t0_156).bind fun x34 => some (x34.1, x34.2)
def zj_X11_part_141 (g28 : AH) (y0_141 : Nat) (y4_141 : Nat) (t0_141 : Int32) (t1_141 : Nat) : Option (Int32 × AH) :=
  (gR g28 y0_141 11 4).bind fun x29 => (chk g28 y0_141 11).bind fun _ => (zs_X11_sum_ g28 y0_141 y4_141 x29).bind fun x31 => zj_X11_part_156 x31.2 x31.1 t0_141 t1_141
def zj_X11_part_53 (g42 : AH) (t0_53 : Nat) (t1_53 : Int32) (t2_53 : Nat) : Option (Int32 × AH) :=
  (chk g42 t2_53 11).bind fun _ => (zs_X11_keep g42 t2_53 t1_53 t0_53).bind fun x44 => some (x44.1, x44.2)
def zs_X11_part (h : AH) (u0 : Nat) (u1 : Int32) (u2 : Int32) (u3 : Int32) : Option (Int32 × AH) :=
  (chk h u0 11).bind fun _ => (zs_X11_isRatio h u0 u1).bind fun x2 => (if x2.1 = 0 then some ((-1 : Int32), x2.2) else (chk x2.2 u0 11).bind fun _ => (zs_X11_isSlot x2.2 u0 u3).bind fun x5 => (if x5.1 = 0 then some ((-1 : Int32), x5.2) else (if u2 < 0 then some ((-1 : Int32), x5.2) else (if u2 ≤ (3 : Int32) then (if (2 : Int32) ≤ u2 then (gR x5.2 u0 11 10).bind fun x10 => (aR x5.2 x10 5 u1).bind fun x11 => (gR x5.2 u0 11 11).bind fun x12 => (aR x5.2 x12 5 u1).bind fun x13 => (chk x5.2 u0 11).bind fun _ => (zs_X11_over x5.2 u0 ((1 : Int32)) x11 x13).bind fun g15 => (gR g15 u0 11 5).bind fun x16 => (if u2 = (2 : Int32) then (chk g15 u0 11).bind fun _ => (zs_X11_keep g15 u0 u3 x16).bind fun x38 => some (x38.1, x38.2) else (gR g15 u0 11 6).bind fun x18 => (gR g15 u0 11 6).bind fun x19 => (chk g15 u0 11).bind fun _ => (zs_X11_sum_ g15 u0 x18 x19).bind fun x21 => (gR x21.2 u0 11 11).bind fun x22 => (aR x21.2 x22 5 u1).bind fun x23 => (zs_X11_compare x21.2 x21.1 x23).bind fun x24 => (chk x21.2 x16 10).bind fun _ => (zs_X10_bit x21.2 x16 ((0 : Int32))).bind fun x26 => (if 0 < x24 then zj_X11_part_141 x21.2 u0 x16 u3 u0 else (if x24 = 0 then (if x26 = 0 then zj_X11_part_156 x21.2 x16 u3 u0 else zj_X11_part_141 x21.2 u0 x16 u3 u0) else zj_X11_part_156 x21.2 x16 u3 u0))) else (if u2 = 0 then (gR x5.2 u0 11 10).bind fun x45 => (aR x5.2 x45 5 u1).bind fun x46 => zj_X11_part_53 x5.2 x46 u3 u0 else (gR x5.2 u0 11 11).bind fun x40 => (aR x5.2 x40 5 u1).bind fun x41 => zj_X11_part_53 x5.2 x41 u3 u0)) else some ((-1 : Int32), x5.2)))))
set_option maxRecDepth 100000 in
set_option maxHeartbeats 4000000 in
theorem zm_X11_part (l : Launch) (D : hG) (z : Nat) {h : AH} {u0 : Nat} {u1 : Int32} {u2 : Int32} {u3 : Int32} {r : Int32} {h' : AH} (hs : zs_X11_part h u0 u1 u2 u3 = some (r, h')) : hC l D z yX11_part cX11_part 7 (Option.some Jvm.ClassFile.FieldType.int) 6 166 0 0 [.ref u0, .int u1, .int u2, .int u3] h h' (some (.int r)) := by
  refine hC_of (by decide) (Nat.le_of_ble_eq_true rfl) ?_
  intro p e s m below meth c hx hb hml hrt hlk hown hnm hts hk hr hz ls hl
  replace hown : s.vm.findClass RX11 = some m.cls := hown
  replace hl : lv_has ls 7 [(0, .ref u0), (1, .int u1), (2, .int u2), (3, .int u3)] := hl
  have hS : va_S (hA z) s.heap s.heap [] := va_S.rf
  suffices hgo : ∀ (H : Heap) (locs : List Loc), hR D z h H → va_S (hA z) s.heap H locs → W p l e ({ frames := 6, cells := 0, slots := 0, locals := 166 } : Room) s m ([.ref u0, .int u1, .int u2, .int u3] : List Value).toArray below meth c H locs 0 0 (MQ below (hQ D z h' (some (.int r))) ([.ref u0, .int u1, .int u2, .int u3] : List Value).toArray s 0 0 (hA z)) (F0 m 0 ls []) from hgo _ _ hr hS
  clear hr hS
  intro H locs hr hS
  have hJ156 : ∀ (g32 : AH) (t0_156 : Nat) (t1_156 : Int32) (t2_156 : Nat) (H : Heap) (locs : List Loc) (ls : Array Slot), zj_X11_part_156 g32 t0_156 t1_156 t2_156 = some (r, h') → hR D z g32 H → va_S (hA z) s.heap H locs → lv_has ls 7 [] → W p l e ({ frames := 6, cells := 0, slots := 0, locals := 166 } : Room) s m ([.ref u0, .int u1, .int u2, .int u3] : List Value).toArray below meth c H locs 0 0 (MQ below (hQ D z h' (some (.int r))) ([.ref u0, .int u1, .int u2, .int u3] : List Value).toArray s 0 0 (hA z)) (F0 m 156 ls [.ref t0_156, .int t1_156, .ref t2_156]) := by
    intro g32 t0_156 t1_156 t2_156 H locs ls hs hr hS hl
    unfold zj_X11_part_156 at hs
    obtain ⟨_, ex33, hs⟩ := bi_inv hs
    obtain ⟨x34, ex34, hs⟩ := bi_inv hs
    refine hv_V1 (n := 2) [.int t1_156, .ref t0_156] [] hx hb hml hown hts hk hr hz hS (zm_X11_keep l D z ex34) ex33 rfl tw_973 tw_975 ts_24 tw_11 tw_976 (by decide +kernel) (by decide) ⟨(Nat.zero_le _), (Nat.zero_le _)⟩ rfl hl.1 (Nat.le_of_ble_eq_true rfl) dX11_part_156 rfl (fun H locs hr hS => ?_)
    obtain ⟨rfl, rfl⟩ := Prod.mk.inj (Option.some.inj hs)
    exact hv_iret hx hb hrt hlk hr hS dX11_part_159
  have hJ141 : ∀ (g28 : AH) (y0_141 : Nat) (y4_141 : Nat) (t0_141 : Int32) (t1_141 : Nat) (H : Heap) (locs : List Loc) (ls : Array Slot), zj_X11_part_141 g28 y0_141 y4_141 t0_141 t1_141 = some (r, h') → hR D z g28 H → va_S (hA z) s.heap H locs → lv_has ls 7 [(0, .ref y0_141), (4, .ref y4_141)] → W p l e ({ frames := 6, cells := 0, slots := 0, locals := 166 } : Room) s m ([.ref u0, .int u1, .int u2, .int u3] : List Value).toArray below meth c H locs 0 0 (MQ below (hQ D z h' (some (.int r))) ([.ref u0, .int u1, .int u2, .int u3] : List Value).toArray s 0 0 (hA z)) (F0 m 141 ls [.int t0_141, .ref t1_141]) := by
    intro g28 y0_141 y4_141 t0_141 t1_141 H locs ls hs hr hS hl
    unfold zj_X11_part_141 at hs
    refine lv_aload_n hx hb dX11_part_141 rfl (lv_at hl 0 rfl) ?_
    refine lv_aload hx hb dX11_part_142 (lv_at hl 1 rfl) ?_
    refine lv_aload_n hx hb dX11_part_144 rfl (lv_at hl 0 rfl) ?_
    obtain ⟨x29, ex29, hs⟩ := bi_inv hs
    refine hv_gR (C := RX11) (T := TX11) (N := 23) (ci := 11) hx hb hts inX11 hown hk hr rfl 4 (by decide) (hts _ tw_886) ex29 dX11_part_145 ?_
    obtain ⟨_, ex30, hs⟩ := bi_inv hs
    obtain ⟨x31, ex31, hs⟩ := bi_inv hs
    refine hv_V1 (n := 2) [.ref y4_141, .ref x29] [.int t0_141, .ref t1_141] hx hb hml hown hts hk hr hz hS (zm_X11_sum_ l D z ex31) ex30 rfl tw_1007 tw_1009 ts_27 tw_11 tw_1010 (by decide +kernel) (by decide) ⟨(Nat.zero_le _), (Nat.zero_le _)⟩ rfl hl.1 (Nat.le_of_ble_eq_true rfl) dX11_part_148 rfl (fun H locs hr hS => ?_)
    refine lv_goto (tgt := 156) hx hb dX11_part_151 (by decide) ?_
    exact hJ156 x31.2 x31.1 t0_141 t1_141 H locs ls hs hr hS (lv_sub hl [] rfl)
  have hJ53 : ∀ (g42 : AH) (t0_53 : Nat) (t1_53 : Int32) (t2_53 : Nat) (H : Heap) (locs : List Loc) (ls : Array Slot), zj_X11_part_53 g42 t0_53 t1_53 t2_53 = some (r, h') → hR D z g42 H → va_S (hA z) s.heap H locs → lv_has ls 7 [] → W p l e ({ frames := 6, cells := 0, slots := 0, locals := 166 } : Room) s m ([.ref u0, .int u1, .int u2, .int u3] : List Value).toArray below meth c H locs 0 0 (MQ below (hQ D z h' (some (.int r))) ([.ref u0, .int u1, .int u2, .int u3] : List Value).toArray s 0 0 (hA z)) (F0 m 53 ls [.ref t0_53, .int t1_53, .ref t2_53]) := by
    intro g42 t0_53 t1_53 t2_53 H locs ls hs hr hS hl
    unfold zj_X11_part_53 at hs
    obtain ⟨_, ex43, hs⟩ := bi_inv hs
    obtain ⟨x44, ex44, hs⟩ := bi_inv hs
    refine hv_V1 (n := 2) [.int t1_53, .ref t0_53] [] hx hb hml hown hts hk hr hz hS (zm_X11_keep l D z ex44) ex43 rfl tw_973 tw_975 ts_24 tw_11 tw_976 (by decide +kernel) (by decide) ⟨(Nat.zero_le _), (Nat.zero_le _)⟩ rfl hl.1 (Nat.le_of_ble_eq_true rfl) dX11_part_53 rfl (fun H locs hr hS => ?_)
    obtain ⟨rfl, rfl⟩ := Prod.mk.inj (Option.some.inj hs)
    exact hv_iret hx hb hrt hlk hr hS dX11_part_56
  unfold zs_X11_part at hs
  refine lv_aload_n hx hb dX11_part_0 rfl (lv_at hl 0 rfl) ?_
  refine lv_iload_n hx hb dX11_part_1 rfl (lv_at hl 1 rfl) ?_
  obtain ⟨_, ex1, hs⟩ := bi_inv hs
  obtain ⟨x2, ex2, hs⟩ := bi_inv hs
  refine hv_V1 (n := 1) [.int u1] [] hx hb hml hown hts hk hr hz hS (zm_X11_isRatio l D z ex2) ex1 rfl tw_1184 tw_1186 ts_44 tw_11 tw_1187 (by decide +kernel) (by decide) ⟨(Nat.zero_le _), (Nat.zero_le _)⟩ rfl hl.1 (Nat.le_of_ble_eq_true rfl) dX11_part_2 rfl (fun H locs hr hS => ?_)
  refine lv_if_eq (tgt := 25) hx hb dX11_part_5 (by decide) (fun c3 => ?_) (fun c3 => ?_)
  · rw [if_pos c3] at hs
    refine lv_iconst (v := (-1)) hx hb dX11_part_25 (by decide) ?_
    obtain ⟨rfl, rfl⟩ := Prod.mk.inj (Option.some.inj hs)
    exact hv_iret hx hb hrt hlk hr hS dX11_part_26
  · rw [if_neg c3] at hs
    refine lv_aload_n hx hb dX11_part_8 rfl (lv_at hl 0 rfl) ?_
    refine lv_iload_n hx hb dX11_part_9 rfl (lv_at hl 3 rfl) ?_
    obtain ⟨_, ex4, hs⟩ := bi_inv hs
    obtain ⟨x5, ex5, hs⟩ := bi_inv hs
    refine hv_V1 (n := 1) [.int u3] [] hx hb hml hown hts hk hr hz hS (zm_X11_isSlot l D z ex5) ex4 rfl tw_956 tw_958 ts_21 tw_11 tw_959 (by decide +kernel) (by decide) ⟨(Nat.zero_le _), (Nat.zero_le _)⟩ rfl hl.1 (Nat.le_of_ble_eq_true rfl) dX11_part_10 rfl (fun H locs hr hS => ?_)
    refine lv_if_eq (tgt := 25) hx hb dX11_part_13 (by decide) (fun c6 => ?_) (fun c6 => ?_)
    · rw [if_pos c6] at hs
      refine lv_iconst (v := (-1)) hx hb dX11_part_25 (by decide) ?_
      obtain ⟨rfl, rfl⟩ := Prod.mk.inj (Option.some.inj hs)
      exact hv_iret hx hb hrt hlk hr hS dX11_part_26
    · rw [if_neg c6] at hs
      refine lv_iload_n hx hb dX11_part_16 rfl (lv_at hl 2 rfl) ?_
      refine lv_if_lt (tgt := 25) hx hb dX11_part_17 (by decide) (fun c7 => ?_) (fun c7 => ?_)
      · rw [if_pos c7] at hs
        refine lv_iconst (v := (-1)) hx hb dX11_part_25 (by decide) ?_
        obtain ⟨rfl, rfl⟩ := Prod.mk.inj (Option.some.inj hs)
        exact hv_iret hx hb hrt hlk hr hS dX11_part_26
      · rw [if_neg c7] at hs
        refine lv_iload_n hx hb dX11_part_20 rfl (lv_at hl 2 rfl) ?_
        refine lv_iconst (v := 3) hx hb dX11_part_21 (by decide) ?_
        refine lv_icmp_le (tgt := 27) hx hb dX11_part_22 (by decide) (fun c8 => ?_) (fun c8 => ?_)
        · rw [if_pos c8] at hs
          refine lv_iload_n hx hb dX11_part_27 rfl (lv_at hl 2 rfl) ?_
          refine lv_iconst (v := 2) hx hb dX11_part_28 (by decide) ?_
          refine lv_icmp_ge (tgt := 57) hx hb dX11_part_29 (by decide) (fun c9 => ?_) (fun c9 => ?_)
          · rw [if_pos c9] at hs
            refine lv_aload_n hx hb dX11_part_57 rfl (lv_at hl 0 rfl) ?_
            refine lv_iconst (v := 1) hx hb dX11_part_58 (by decide) ?_
            refine lv_aload_n hx hb dX11_part_59 rfl (lv_at hl 0 rfl) ?_
            obtain ⟨x10, ex10, hs⟩ := bi_inv hs
            refine hv_gR (C := RX11) (T := TX11) (N := 23) (ci := 11) hx hb hts inX11 hown hk hr rfl 10 (by decide) (hts _ tw_892) ex10 dX11_part_60 ?_
            refine lv_iload_n hx hb dX11_part_63 rfl (lv_at hl 1 rfl) ?_
            obtain ⟨x11, ex11, hs⟩ := bi_inv hs
            refine hv_aR (kd := 5) hx hb hk hr rfl ex11 dX11_part_64 ?_
            refine lv_aload_n hx hb dX11_part_65 rfl (lv_at hl 0 rfl) ?_
            obtain ⟨x12, ex12, hs⟩ := bi_inv hs
            refine hv_gR (C := RX11) (T := TX11) (N := 23) (ci := 11) hx hb hts inX11 hown hk hr rfl 11 (by decide) (hts _ tw_893) ex12 dX11_part_66 ?_
            refine lv_iload_n hx hb dX11_part_69 rfl (lv_at hl 1 rfl) ?_
            obtain ⟨x13, ex13, hs⟩ := bi_inv hs
            refine hv_aR (kd := 5) hx hb hk hr rfl ex13 dX11_part_70 ?_
            obtain ⟨_, ex14, hs⟩ := bi_inv hs
            obtain ⟨g15, eg15, hs⟩ := bi_inv hs
            refine hv_V0 (n := 3) [.int ((1 : Int32)), .ref x11, .ref x13] [] hx hb hml hown hts hk hr hz hS (zm_X11_over l D z eg15) ex14 rfl tw_1107 tw_1109 ts_38 tw_11 tw_1110 (by decide +kernel) (by decide) ⟨(Nat.zero_le _), (Nat.zero_le _)⟩ rfl hl.1 (Nat.le_of_ble_eq_true rfl) dX11_part_71 rfl (fun H locs hr hS => ?_)
            refine lv_aload_n hx hb dX11_part_74 rfl (lv_at hl 0 rfl) ?_
            obtain ⟨x16, ex16, hs⟩ := bi_inv hs
            refine hv_gR (C := RX11) (T := TX11) (N := 23) (ci := 11) hx hb hts inX11 hown hk hr rfl 5 (by decide) (hts _ tw_887) ex16 dX11_part_75 ?_
            refine lv_astore (lv' := [(4, .ref x16), (0, .ref u0), (1, .int u1), (2, .int u2), (3, .int u3)]) hx hb dX11_part_78 hl (by decide) rfl (fun ls hl => ?_)
            refine lv_iload_n hx hb dX11_part_80 rfl (lv_at hl 3 rfl) ?_
            refine lv_iconst (v := 2) hx hb dX11_part_81 (by decide) ?_
            refine lv_icmp_ne (tgt := 93) hx hb dX11_part_82 (by decide) (fun c17 => ?_) (fun c17 => ?_)
            · rw [if_neg c17] at hs
              refine lv_aload_n hx hb dX11_part_93 rfl (lv_at hl 1 rfl) ?_
              refine lv_aload_n hx hb dX11_part_94 rfl (lv_at hl 1 rfl) ?_
              obtain ⟨x18, ex18, hs⟩ := bi_inv hs
              refine hv_gR (C := RX11) (T := TX11) (N := 23) (ci := 11) hx hb hts inX11 hown hk hr rfl 6 (by decide) (hts _ tw_888) ex18 dX11_part_95 ?_
              refine lv_aload_n hx hb dX11_part_98 rfl (lv_at hl 1 rfl) ?_
              obtain ⟨x19, ex19, hs⟩ := bi_inv hs
              refine hv_gR (C := RX11) (T := TX11) (N := 23) (ci := 11) hx hb hts inX11 hown hk hr rfl 6 (by decide) (hts _ tw_888) ex19 dX11_part_99 ?_
              obtain ⟨_, ex20, hs⟩ := bi_inv hs
              obtain ⟨x21, ex21, hs⟩ := bi_inv hs
              refine hv_V1 (n := 2) [.ref x18, .ref x19] [] hx hb hml hown hts hk hr hz hS (zm_X11_sum_ l D z ex21) ex20 rfl tw_1007 tw_1009 ts_27 tw_11 tw_1010 (by decide +kernel) (by decide) ⟨(Nat.zero_le _), (Nat.zero_le _)⟩ rfl hl.1 (Nat.le_of_ble_eq_true rfl) dX11_part_102 rfl (fun H locs hr hS => ?_)
              refine lv_aload_n hx hb dX11_part_105 rfl (lv_at hl 1 rfl) ?_
              obtain ⟨x22, ex22, hs⟩ := bi_inv hs
              refine hv_gR (C := RX11) (T := TX11) (N := 23) (ci := 11) hx hb hts inX11 hown hk hr rfl 11 (by decide) (hts _ tw_893) ex22 dX11_part_106 ?_
              refine lv_iload_n hx hb dX11_part_109 rfl (lv_at hl 2 rfl) ?_
              obtain ⟨x23, ex23, hs⟩ := bi_inv hs
              refine hv_aR (kd := 5) hx hb hk hr rfl ex23 dX11_part_110 ?_
              obtain ⟨x24, ex24, hs⟩ := bi_inv hs
              refine hv_S1 (n := 2) [.ref x21.1, .ref x23] [] hx hb hml hown hts hk hr hz hS (zm_X11_compare l D z ex24) tw_1080 tw_1081 tw_11 tw_1082 (by decide +kernel) (by decide) ⟨(Nat.zero_le _), (Nat.zero_le _)⟩ rfl hl.1 (Nat.le_of_ble_eq_true rfl) dX11_part_111 rfl (fun H locs hr hS => ?_)
              refine lv_istore (lv' := [(5, .int x24), (4, .ref x16), (0, .ref u0), (1, .int u1), (2, .int u2), (3, .int u3)]) hx hb dX11_part_114 hl (by decide) rfl (fun ls hl => ?_)
              refine lv_aload hx hb dX11_part_116 (lv_at hl 1 rfl) ?_
              refine lv_iconst (v := 0) hx hb dX11_part_118 (by decide) ?_
              obtain ⟨_, ex25, hs⟩ := bi_inv hs
              obtain ⟨x26, ex26, hs⟩ := bi_inv hs
              refine hv_V1 (n := 1) [.int ((0 : Int32))] [] hx hb hml hown hts hk hr hz hS (zm_X10_bit l D z ex26) ex25 rfl tw_1053 tw_1054 tw_1055 tw_12 tw_1056 (by decide +kernel) (by decide) ⟨(Nat.zero_le _), (Nat.zero_le _)⟩ rfl hl.1 (Nat.le_of_ble_eq_true rfl) dX11_part_119 rfl (fun H locs hr hS => ?_)
              refine lv_istore (lv' := [(6, .int x26), (5, .int x24), (4, .ref x16), (0, .ref u0), (1, .int u1), (2, .int u2), (3, .int u3)]) hx hb dX11_part_122 hl (by decide) rfl (fun ls hl => ?_)
              refine lv_aload_n hx hb dX11_part_124 rfl (lv_at hl 3 rfl) ?_
              refine lv_iload_n hx hb dX11_part_125 rfl (lv_at hl 6 rfl) ?_
              refine lv_iload hx hb dX11_part_126 (lv_at hl 1 rfl) ?_
              refine lv_if_gt (tgt := 141) hx hb dX11_part_128 (by decide) (fun c27 => ?_) (fun c27 => ?_)
              · rw [if_pos c27] at hs
                exact hJ141 x21.2 u0 x16 u3 u0 H locs ls hs hr hS (lv_sub hl [3, 2] rfl)
              · rw [if_neg c27] at hs
                refine lv_iload hx hb dX11_part_131 (lv_at hl 1 rfl) ?_
                refine lv_if_ne (tgt := 154) hx hb dX11_part_133 (by decide) (fun c35 => ?_) (fun c35 => ?_)
                · rw [if_neg c35] at hs
                  refine lv_aload hx hb dX11_part_154 (lv_at hl 2 rfl) ?_
                  exact hJ156 x21.2 x16 u3 u0 H locs ls hs hr hS (lv_sub hl [] rfl)
                · rw [if_pos c35] at hs
                  refine lv_iload hx hb dX11_part_136 (lv_at hl 0 rfl) ?_
                  refine lv_if_eq (tgt := 154) hx hb dX11_part_138 (by decide) (fun c36 => ?_) (fun c36 => ?_)
                  · rw [if_pos c36] at hs
                    refine lv_aload hx hb dX11_part_154 (lv_at hl 2 rfl) ?_
                    exact hJ156 x21.2 x16 u3 u0 H locs ls hs hr hS (lv_sub hl [] rfl)
                  · rw [if_neg c36] at hs
                    exact hJ141 x21.2 u0 x16 u3 u0 H locs ls hs hr hS (lv_sub hl [3, 2] rfl)
            · rw [if_pos c17] at hs
              refine lv_aload_n hx hb dX11_part_85 rfl (lv_at hl 1 rfl) ?_
              refine lv_iload_n hx hb dX11_part_86 rfl (lv_at hl 4 rfl) ?_
              refine lv_aload hx hb dX11_part_87 (lv_at hl 0 rfl) ?_
              obtain ⟨_, ex37, hs⟩ := bi_inv hs
              obtain ⟨x38, ex38, hs⟩ := bi_inv hs
              refine hv_V1 (n := 2) [.int u3, .ref x16] [] hx hb hml hown hts hk hr hz hS (zm_X11_keep l D z ex38) ex37 rfl tw_973 tw_975 ts_24 tw_11 tw_976 (by decide +kernel) (by decide) ⟨(Nat.zero_le _), (Nat.zero_le _)⟩ rfl hl.1 (Nat.le_of_ble_eq_true rfl) dX11_part_89 rfl (fun H locs hr hS => ?_)
              obtain ⟨rfl, rfl⟩ := Prod.mk.inj (Option.some.inj hs)
              exact hv_iret hx hb hrt hlk hr hS dX11_part_92
          · rw [if_neg c9] at hs
            refine lv_aload_n hx hb dX11_part_32 rfl (lv_at hl 0 rfl) ?_
            refine lv_iload_n hx hb dX11_part_33 rfl (lv_at hl 3 rfl) ?_
            refine lv_iload_n hx hb dX11_part_34 rfl (lv_at hl 2 rfl) ?_
            refine lv_if_ne (tgt := 47) hx hb dX11_part_35 (by decide) (fun c39 => ?_) (fun c39 => ?_)
            · rw [if_neg c39] at hs
              refine lv_aload_n hx hb dX11_part_47 rfl (lv_at hl 0 rfl) ?_
              obtain ⟨x40, ex40, hs⟩ := bi_inv hs
              refine hv_gR (C := RX11) (T := TX11) (N := 23) (ci := 11) hx hb hts inX11 hown hk hr rfl 11 (by decide) (hts _ tw_893) ex40 dX11_part_48 ?_
              refine lv_iload_n hx hb dX11_part_51 rfl (lv_at hl 1 rfl) ?_
              obtain ⟨x41, ex41, hs⟩ := bi_inv hs
              refine hv_aR (kd := 5) hx hb hk hr rfl ex41 dX11_part_52 ?_
              exact hJ53 x5.2 x41 u3 u0 H locs ls hs hr hS (lv_sub hl [] rfl)
            · rw [if_pos c39] at hs
              refine lv_aload_n hx hb dX11_part_38 rfl (lv_at hl 0 rfl) ?_
              obtain ⟨x45, ex45, hs⟩ := bi_inv hs
              refine hv_gR (C := RX11) (T := TX11) (N := 23) (ci := 11) hx hb hts inX11 hown hk hr rfl 10 (by decide) (hts _ tw_892) ex45 dX11_part_39 ?_
              refine lv_iload_n hx hb dX11_part_42 rfl (lv_at hl 1 rfl) ?_
              obtain ⟨x46, ex46, hs⟩ := bi_inv hs
              refine hv_aR (kd := 5) hx hb hk hr rfl ex46 dX11_part_43 ?_
              refine lv_goto (tgt := 53) hx hb dX11_part_44 (by decide) ?_
              exact hJ53 x5.2 x46 u3 u0 H locs ls hs hr hS (lv_sub hl [] rfl)
        · rw [if_neg c8] at hs
          refine lv_iconst (v := (-1)) hx hb dX11_part_25 (by decide) ?_
          obtain ⟨rfl, rfl⟩ := Prod.mk.inj (Option.some.inj hs)
          exact hv_iret hx hb hrt hlk hr hS dX11_part_26
theorem dX11_power_0 : decode cX11_power 0 = .ok (.aload_n 0, 1) := by decide +kernel
theorem dX11_power_1 : decode cX11_power 1 = .ok (.iload_n 1, 1) := by decide +kernel
theorem dX11_power_2 : decode cX11_power 2 = .ok (.invokevirtual 177, 3) := by decide +kernel
theorem dX11_power_5 : decode cX11_power 5 = .ok (.ifCond .eq 22, 3) := by decide +kernel
theorem dX11_power_8 : decode cX11_power 8 = .ok (.aload_n 0, 1) := by decide +kernel
theorem dX11_power_9 : decode cX11_power 9 = .ok (.iload_n 3, 1) := by decide +kernel
theorem dX11_power_10 : decode cX11_power 10 = .ok (.invokevirtual 177, 3) := by decide +kernel
theorem dX11_power_13 : decode cX11_power 13 = .ok (.ifCond .eq 14, 3) := by decide +kernel
theorem dX11_power_16 : decode cX11_power 16 = .ok (.iload_n 2, 1) := by decide +kernel
theorem dX11_power_17 : decode cX11_power 17 = .ok (.ifCond .lt 10, 3) := by decide +kernel
theorem dX11_power_20 : decode cX11_power 20 = .ok (.iload_n 2, 1) := by decide +kernel
theorem dX11_power_21 : decode cX11_power 21 = .ok (.sipush 2000, 3) := by decide +kernel
theorem dX11_power_24 : decode cX11_power 24 = .ok (.if_icmp .le 5, 3) := by decide +kernel
theorem dX11_power_27 : decode cX11_power 27 = .ok (.iconst (-1), 1) := by decide +kernel
theorem dX11_power_28 : decode cX11_power 28 = .ok (.ireturn, 1) := by decide +kernel
theorem dX11_power_29 : decode cX11_power 29 = .ok (.aload_n 0, 1) := by decide +kernel
theorem dX11_power_30 : decode cX11_power 30 = .ok (.getfield 142, 3) := by decide +kernel
theorem dX11_power_33 : decode cX11_power 33 = .ok (.iload_n 1, 1) := by decide +kernel
theorem dX11_power_34 : decode cX11_power 34 = .ok (.aaload, 1) := by decide +kernel
theorem dX11_power_35 : decode cX11_power 35 = .ok (.astore 4, 2) := by decide +kernel
theorem dX11_power_37 : decode cX11_power 37 = .ok (.aload 4, 2) := by decide +kernel
theorem dX11_power_39 : decode cX11_power 39 = .ok (.invokevirtual 131, 3) := by decide +kernel
theorem dX11_power_42 : decode cX11_power 42 = .ok (.iconst 1, 1) := by decide +kernel
theorem dX11_power_43 : decode cX11_power 43 = .ok (.if_icmp .gt 43, 3) := by decide +kernel
theorem dX11_power_46 : decode cX11_power 46 = .ok (.aload_n 0, 1) := by decide +kernel
theorem dX11_power_47 : decode cX11_power 47 = .ok (.iload_n 3, 1) := by decide +kernel
theorem dX11_power_48 : decode cX11_power 48 = .ok (.iload_n 2, 1) := by decide +kernel
theorem dX11_power_49 : decode cX11_power 49 = .ok (.ifCond .ne 10, 3) := by decide +kernel
theorem dX11_power_52 : decode cX11_power 52 = .ok (.aload_n 0, 1) := by decide +kernel
theorem dX11_power_53 : decode cX11_power 53 = .ok (.getfield 113, 3) := by decide +kernel
theorem dX11_power_56 : decode cX11_power 56 = .ok (.goto 26, 3) := by decide +kernel
theorem dX11_power_59 : decode cX11_power 59 = .ok (.iload_n 2, 1) := by decide +kernel
theorem dX11_power_60 : decode cX11_power 60 = .ok (.iconst 2, 1) := by decide +kernel
theorem dX11_power_61 : decode cX11_power 61 = .ok (.irem, 1) := by decide +kernel
theorem dX11_power_62 : decode cX11_power 62 = .ok (.ifCond .ne 14, 3) := by decide +kernel
theorem dX11_power_65 : decode cX11_power 65 = .ok (.aload_n 0, 1) := by decide +kernel
theorem dX11_power_66 : decode cX11_power 66 = .ok (.aload 4, 2) := by decide +kernel
theorem dX11_power_68 : decode cX11_power 68 = .ok (.aload 4, 2) := by decide +kernel
theorem dX11_power_70 : decode cX11_power 70 = .ok (.invokevirtual 122, 3) := by decide +kernel
theorem dX11_power_73 : decode cX11_power 73 = .ok (.goto 9, 3) := by decide +kernel
theorem dX11_power_76 : decode cX11_power 76 = .ok (.aload_n 0, 1) := by decide +kernel
theorem dX11_power_77 : decode cX11_power 77 = .ok (.aload 4, 2) := by decide +kernel
theorem dX11_power_79 : decode cX11_power 79 = .ok (.invokevirtual 34, 3) := by decide +kernel
theorem dX11_power_82 : decode cX11_power 82 = .ok (.invokevirtual 180, 3) := by decide +kernel
theorem dX11_power_85 : decode cX11_power 85 = .ok (.ireturn, 1) := by decide +kernel
theorem dX11_power_86 : decode cX11_power 86 = .ok (.aload_n 0, 1) := by decide +kernel
theorem dX11_power_87 : decode cX11_power 87 = .ok (.aload_n 0, 1) := by decide +kernel
theorem dX11_power_88 : decode cX11_power 88 = .ok (.getfield 113, 3) := by decide +kernel
theorem dX11_power_91 : decode cX11_power 91 = .ok (.invokevirtual 34, 3) := by decide +kernel
theorem dX11_power_94 : decode cX11_power 94 = .ok (.astore 5, 2) := by decide +kernel
theorem dX11_power_96 : decode cX11_power 96 = .ok (.aload_n 0, 1) := by decide +kernel
theorem dX11_power_97 : decode cX11_power 97 = .ok (.getfield 7, 3) := by decide +kernel
theorem dX11_power_100 : decode cX11_power 100 = .ok (.istore 6, 2) := by decide +kernel
theorem dX11_power_102 : decode cX11_power 102 = .ok (.iconst 0, 1) := by decide +kernel
theorem dX11_power_103 : decode cX11_power 103 = .ok (.istore 7, 2) := by decide +kernel
theorem dX11_power_105 : decode cX11_power 105 = .ok (.iload 7, 2) := by decide +kernel
theorem dX11_power_107 : decode cX11_power 107 = .ok (.iload_n 2, 1) := by decide +kernel
theorem dX11_power_108 : decode cX11_power 108 = .ok (.if_icmp .ge 39, 3) := by decide +kernel
theorem dX11_power_111 : decode cX11_power 111 = .ok (.aload 5, 2) := by decide +kernel
theorem dX11_power_113 : decode cX11_power 113 = .ok (.aload_n 0, 1) := by decide +kernel
theorem dX11_power_114 : decode cX11_power 114 = .ok (.aload 5, 2) := by decide +kernel
theorem dX11_power_116 : decode cX11_power 116 = .ok (.aload 4, 2) := by decide +kernel
theorem dX11_power_118 : decode cX11_power 118 = .ok (.invokevirtual 122, 3) := by decide +kernel
theorem dX11_power_121 : decode cX11_power 121 = .ok (.invokevirtual 30, 3) := by decide +kernel
theorem dX11_power_124 : decode cX11_power 124 = .ok (.aload_n 0, 1) := by decide +kernel
theorem dX11_power_125 : decode cX11_power 125 = .ok (.iload 6, 2) := by decide +kernel
theorem dX11_power_127 : decode cX11_power 127 = .ok (.putfield 7, 3) := by decide +kernel
theorem dX11_power_130 : decode cX11_power 130 = .ok (.aload 5, 2) := by decide +kernel
theorem dX11_power_132 : decode cX11_power 132 = .ok (.invokestatic 173, 3) := by decide +kernel
theorem dX11_power_135 : decode cX11_power 135 = .ok (.ifCond .ne 6, 3) := by decide +kernel
theorem dX11_power_138 : decode cX11_power 138 = .ok (.bipush (-5), 2) := by decide +kernel
theorem dX11_power_140 : decode cX11_power 140 = .ok (.ireturn, 1) := by decide +kernel
theorem dX11_power_141 : decode cX11_power 141 = .ok (.iinc 7 1, 3) := by decide +kernel
theorem dX11_power_144 : decode cX11_power 144 = .ok (.goto (-39), 3) := by decide +kernel
theorem dX11_power_147 : decode cX11_power 147 = .ok (.aload_n 0, 1) := by decide +kernel
theorem dX11_power_148 : decode cX11_power 148 = .ok (.iload_n 3, 1) := by decide +kernel
theorem dX11_power_149 : decode cX11_power 149 = .ok (.aload 5, 2) := by decide +kernel
theorem dX11_power_151 : decode cX11_power 151 = .ok (.invokevirtual 180, 3) := by decide +kernel
theorem dX11_power_154 : decode cX11_power 154 = .ok (.ireturn, 1) := by decide +kernel
def zb_X11_power_105 (w0 : Nat) (w2 : Int32) (w3 : Int32) (w4 : Nat) (w5 : Nat) (w6 : Int32) (g18 : AH) (w7 : Int32) : Option ((AH × Int32) ⊕ (AH ⊕ AH)) :=
  (if w2 ≤ w7 then some (Sum.inr ((Sum.inr (g18)))) else (chk g18 w0 11).bind fun _ => (zs_X11_times g18 w0 w5 w4).bind fun x21 => (chk x21.2 w5 10).bind fun _ => (zs_X10_become x21.2 w5 x21.1).bind fun g23 => (pV g23 w0 11 2 (.int w6)).bind fun g24 => (zs_X11_fits g24 w5).bind fun x25 => (if x25 = 0 then some (Sum.inr ((Sum.inl g24))) else some (Sum.inl ((g24, w7 + (1 : Int32))))))
def zj_X11_power_82 (g36 : AH) (t0_82 : Nat) (t1_82 : Int32) (t2_82 : Nat) : Option (Int32 × AH) :=
  (chk g36 t2_82 11).bind fun _ => (zs_X11_keep g36 t2_82 t1_82 t0_82).bind fun x38 => some (x38.1, x38.2)
def zs_X11_power (h : AH) (u0 : Nat) (u1 : Int32) (u2 : Int32) (u3 : Int32) : Option (Int32 × AH) :=
  (chk h u0 11).bind fun _ => (zs_X11_isSlot h u0 u1).bind fun x2 => (if x2.1 = 0 then some ((-1 : Int32), x2.2) else (chk x2.2 u0 11).bind fun _ => (zs_X11_isSlot x2.2 u0 u3).bind fun x5 => (if x5.1 = 0 then some ((-1 : Int32), x5.2) else (if u2 < 0 then some ((-1 : Int32), x5.2) else (if u2 ≤ (2000 : Int32) then (gR x5.2 u0 11 9).bind fun x9 => (aR x5.2 x9 5 u1).bind fun x10 => (chk x5.2 x10 10).bind fun _ => (zs_X10_bits x5.2 x10).bind fun x12 => (if (1 : Int32) < x12 then (gR x5.2 u0 11 4).bind fun x14 => (chk x5.2 u0 11).bind fun _ => (zs_X11_copy x5.2 u0 x14).bind fun x16 => (gI x16.2 u0 11 2).bind fun x17 => (iter (fun q : AH × Int32 => zb_X11_power_105 u0 u2 u3 x10 x16.1 x17 q.1 q.2) FU ((x16.2, (0 : Int32)))).bind fun r27 => (match r27 with | .inl r28 => some ((-5 : Int32), r28) | .inr r29 => (chk r29 u0 11).bind fun _ => (zs_X11_keep r29 u0 u3 x16.1).bind fun x31 => some (x31.1, x31.2)) else (if u2 = 0 then (gR x5.2 u0 11 4).bind fun x41 => zj_X11_power_82 x5.2 x41 u3 u0 else (if u2 - u2 / ((2 : Int32)) * ((2 : Int32)) = 0 then (chk x5.2 u0 11).bind fun _ => (zs_X11_times x5.2 u0 x10 x10).bind fun x40 => zj_X11_power_82 x40.2 x40.1 u3 u0 else (chk x5.2 u0 11).bind fun _ => (zs_X11_copy x5.2 u0 x10).bind fun x35 => zj_X11_power_82 x35.2 x35.1 u3 u0))) else some ((-1 : Int32), x5.2)))))
set_option maxRecDepth 100000 in
set_option maxHeartbeats 4000000 in
theorem zm_X11_power (l : Launch) (D : hG) (z : Nat) {h : AH} {u0 : Nat} {u1 : Int32} {u2 : Int32} {u3 : Int32} {r : Int32} {h' : AH} (hs : zs_X11_power h u0 u1 u2 u3 = some (r, h')) : hC l D z yX11_power cX11_power 8 (Option.some Jvm.ClassFile.FieldType.int) 4 91 0 0 [.ref u0, .int u1, .int u2, .int u3] h h' (some (.int r)) := by
  refine hC_of (by decide) (Nat.le_of_ble_eq_true rfl) ?_
  intro p e s m below meth c hx hb hml hrt hlk hown hnm hts hk hr hz ls hl
  replace hown : s.vm.findClass RX11 = some m.cls := hown
  replace hl : lv_has ls 8 [(0, .ref u0), (1, .int u1), (2, .int u2), (3, .int u3)] := hl
  have hS : va_S (hA z) s.heap s.heap [] := va_S.rf
  suffices hgo : ∀ (H : Heap) (locs : List Loc), hR D z h H → va_S (hA z) s.heap H locs → W p l e ({ frames := 4, cells := 0, slots := 0, locals := 91 } : Room) s m ([.ref u0, .int u1, .int u2, .int u3] : List Value).toArray below meth c H locs 0 0 (MQ below (hQ D z h' (some (.int r))) ([.ref u0, .int u1, .int u2, .int u3] : List Value).toArray s 0 0 (hA z)) (F0 m 0 ls []) from hgo _ _ hr hS
  clear hr hS
  intro H locs hr hS
  have hJ82 : ∀ (g36 : AH) (t0_82 : Nat) (t1_82 : Int32) (t2_82 : Nat) (H : Heap) (locs : List Loc) (ls : Array Slot), zj_X11_power_82 g36 t0_82 t1_82 t2_82 = some (r, h') → hR D z g36 H → va_S (hA z) s.heap H locs → lv_has ls 8 [] → W p l e ({ frames := 4, cells := 0, slots := 0, locals := 91 } : Room) s m ([.ref u0, .int u1, .int u2, .int u3] : List Value).toArray below meth c H locs 0 0 (MQ below (hQ D z h' (some (.int r))) ([.ref u0, .int u1, .int u2, .int u3] : List Value).toArray s 0 0 (hA z)) (F0 m 82 ls [.ref t0_82, .int t1_82, .ref t2_82]) := by
    intro g36 t0_82 t1_82 t2_82 H locs ls hs hr hS hl
    unfold zj_X11_power_82 at hs
    obtain ⟨_, ex37, hs⟩ := bi_inv hs
    obtain ⟨x38, ex38, hs⟩ := bi_inv hs
    refine hv_V1 (n := 2) [.int t1_82, .ref t0_82] [] hx hb hml hown hts hk hr hz hS (zm_X11_keep l D z ex38) ex37 rfl tw_973 tw_975 ts_24 tw_11 tw_976 (by decide +kernel) (by decide) ⟨(Nat.zero_le _), (Nat.zero_le _)⟩ rfl hl.1 (Nat.le_of_ble_eq_true rfl) dX11_power_82 rfl (fun H locs hr hS => ?_)
    obtain ⟨rfl, rfl⟩ := Prod.mk.inj (Option.some.inj hs)
    exact hv_iret hx hb hrt hlk hr hS dX11_power_85
  unfold zs_X11_power at hs
  refine lv_aload_n hx hb dX11_power_0 rfl (lv_at hl 0 rfl) ?_
  refine lv_iload_n hx hb dX11_power_1 rfl (lv_at hl 1 rfl) ?_
  obtain ⟨_, ex1, hs⟩ := bi_inv hs
  obtain ⟨x2, ex2, hs⟩ := bi_inv hs
  refine hv_V1 (n := 1) [.int u1] [] hx hb hml hown hts hk hr hz hS (zm_X11_isSlot l D z ex2) ex1 rfl tw_956 tw_958 ts_21 tw_11 tw_959 (by decide +kernel) (by decide) ⟨(Nat.zero_le _), (Nat.zero_le _)⟩ rfl hl.1 (Nat.le_of_ble_eq_true rfl) dX11_power_2 rfl (fun H locs hr hS => ?_)
  refine lv_if_eq (tgt := 27) hx hb dX11_power_5 (by decide) (fun c3 => ?_) (fun c3 => ?_)
  · rw [if_pos c3] at hs
    refine lv_iconst (v := (-1)) hx hb dX11_power_27 (by decide) ?_
    obtain ⟨rfl, rfl⟩ := Prod.mk.inj (Option.some.inj hs)
    exact hv_iret hx hb hrt hlk hr hS dX11_power_28
  · rw [if_neg c3] at hs
    refine lv_aload_n hx hb dX11_power_8 rfl (lv_at hl 0 rfl) ?_
    refine lv_iload_n hx hb dX11_power_9 rfl (lv_at hl 3 rfl) ?_
    obtain ⟨_, ex4, hs⟩ := bi_inv hs
    obtain ⟨x5, ex5, hs⟩ := bi_inv hs
    refine hv_V1 (n := 1) [.int u3] [] hx hb hml hown hts hk hr hz hS (zm_X11_isSlot l D z ex5) ex4 rfl tw_956 tw_958 ts_21 tw_11 tw_959 (by decide +kernel) (by decide) ⟨(Nat.zero_le _), (Nat.zero_le _)⟩ rfl hl.1 (Nat.le_of_ble_eq_true rfl) dX11_power_10 rfl (fun H locs hr hS => ?_)
    refine lv_if_eq (tgt := 27) hx hb dX11_power_13 (by decide) (fun c6 => ?_) (fun c6 => ?_)
    · rw [if_pos c6] at hs
      refine lv_iconst (v := (-1)) hx hb dX11_power_27 (by decide) ?_
      obtain ⟨rfl, rfl⟩ := Prod.mk.inj (Option.some.inj hs)
      exact hv_iret hx hb hrt hlk hr hS dX11_power_28
    · rw [if_neg c6] at hs
      refine lv_iload_n hx hb dX11_power_16 rfl (lv_at hl 2 rfl) ?_
      refine lv_if_lt (tgt := 27) hx hb dX11_power_17 (by decide) (fun c7 => ?_) (fun c7 => ?_)
      · rw [if_pos c7] at hs
        refine lv_iconst (v := (-1)) hx hb dX11_power_27 (by decide) ?_
        obtain ⟨rfl, rfl⟩ := Prod.mk.inj (Option.some.inj hs)
        exact hv_iret hx hb hrt hlk hr hS dX11_power_28
      · rw [if_neg c7] at hs
        refine lv_iload_n hx hb dX11_power_20 rfl (lv_at hl 2 rfl) ?_
        refine lv_sipush (v := 2000) hx hb dX11_power_21 (by decide) ?_
        refine lv_icmp_le (tgt := 29) hx hb dX11_power_24 (by decide) (fun c8 => ?_) (fun c8 => ?_)
        · rw [if_pos c8] at hs
          refine lv_aload_n hx hb dX11_power_29 rfl (lv_at hl 0 rfl) ?_
          obtain ⟨x9, ex9, hs⟩ := bi_inv hs
          refine hv_gR (C := RX11) (T := TX11) (N := 23) (ci := 11) hx hb hts inX11 hown hk hr rfl 9 (by decide) (hts _ tw_891) ex9 dX11_power_30 ?_
          refine lv_iload_n hx hb dX11_power_33 rfl (lv_at hl 1 rfl) ?_
          obtain ⟨x10, ex10, hs⟩ := bi_inv hs
          refine hv_aR (kd := 5) hx hb hk hr rfl ex10 dX11_power_34 ?_
          refine lv_astore (lv' := [(4, .ref x10), (0, .ref u0), (1, .int u1), (2, .int u2), (3, .int u3)]) hx hb dX11_power_35 hl (by decide) rfl (fun ls hl => ?_)
          refine lv_aload hx hb dX11_power_37 (lv_at hl 0 rfl) ?_
          obtain ⟨_, ex11, hs⟩ := bi_inv hs
          obtain ⟨x12, ex12, hs⟩ := bi_inv hs
          refine hv_V1 (n := 0) [] [] hx hb hml hown hts hk hr hz hS (zm_X10_bits l D z ex12) ex11 rfl tw_980 tw_981 tw_982 tw_12 tw_983 (by decide +kernel) (by decide) ⟨(Nat.zero_le _), (Nat.zero_le _)⟩ rfl hl.1 (Nat.le_of_ble_eq_true rfl) dX11_power_39 rfl (fun H locs hr hS => ?_)
          refine lv_iconst (v := 1) hx hb dX11_power_42 (by decide) ?_
          refine lv_icmp_gt (tgt := 86) hx hb dX11_power_43 (by decide) (fun c13 => ?_) (fun c13 => ?_)
          · rw [if_pos c13] at hs
            refine lv_aload_n hx hb dX11_power_86 rfl (lv_at hl 1 rfl) ?_
            refine lv_aload_n hx hb dX11_power_87 rfl (lv_at hl 1 rfl) ?_
            obtain ⟨x14, ex14, hs⟩ := bi_inv hs
            refine hv_gR (C := RX11) (T := TX11) (N := 23) (ci := 11) hx hb hts inX11 hown hk hr rfl 4 (by decide) (hts _ tw_886) ex14 dX11_power_88 ?_
            obtain ⟨_, ex15, hs⟩ := bi_inv hs
            obtain ⟨x16, ex16, hs⟩ := bi_inv hs
            refine hv_V1 (n := 1) [.ref x14] [] hx hb hml hown hts hk hr hz hS (zm_X11_copy l D z ex16) ex15 rfl tw_996 tw_998 ts_25 tw_11 tw_999 (by decide +kernel) (by decide) ⟨(Nat.zero_le _), (Nat.zero_le _)⟩ rfl hl.1 (Nat.le_of_ble_eq_true rfl) dX11_power_91 rfl (fun H locs hr hS => ?_)
            refine lv_astore (lv' := [(5, .ref x16.1), (4, .ref x10), (0, .ref u0), (1, .int u1), (2, .int u2), (3, .int u3)]) hx hb dX11_power_94 hl (by decide) rfl (fun ls hl => ?_)
            refine lv_aload_n hx hb dX11_power_96 rfl (lv_at hl 2 rfl) ?_
            obtain ⟨x17, ex17, hs⟩ := bi_inv hs
            refine hv_gI (C := RX11) (T := TX11) (N := 23) (ci := 11) hx hb hts inX11 hown hk hr rfl 2 (by decide) (hts _ tw_884) ex17 dX11_power_97 ?_
            refine lv_istore (lv' := [(6, .int x17), (5, .ref x16.1), (4, .ref x10), (0, .ref u0), (1, .int u1), (2, .int u2), (3, .int u3)]) hx hb dX11_power_100 hl (by decide) rfl (fun ls hl => ?_)
            refine lv_iconst (v := 0) hx hb dX11_power_102 (by decide) ?_
            refine lv_istore (lv' := [(7, .int ((0 : Int32))), (6, .int x17), (5, .ref x16.1), (4, .ref x10), (0, .ref u0), (1, .int u1), (2, .int u2), (3, .int u3)]) hx hb dX11_power_103 hl (by decide) rfl (fun ls hl => ?_)
            obtain ⟨r27, er27, hs⟩ := bi_inv hs
            refine iter_W (fun (q : AH × Int32) => ∀ (H : Heap) (locs : List Loc) (ls : Array Slot), hR D z q.1 H → va_S (hA z) s.heap H locs → lv_has ls 8 [(0, .ref u0), (2, .int u2), (3, .int u3), (4, .ref x10), (5, .ref x16.1), (6, .int x17), (7, .int q.2)] → W p l e ({ frames := 4, cells := 0, slots := 0, locals := 91 } : Room) s m ([.ref u0, .int u1, .int u2, .int u3] : List Value).toArray below meth c H locs 0 0 (MQ below (hQ D z h' (some (.int r))) ([.ref u0, .int u1, .int u2, .int u3] : List Value).toArray s 0 0 (hA z)) (F0 m 105 ls [])) (fun (x : AH ⊕ AH) => (Sum.elim (fun x => ∀ (H : Heap) (locs : List Loc) (ls : Array Slot), hR D z x H → va_S (hA z) s.heap H locs → lv_has ls 8 [] → W p l e ({ frames := 4, cells := 0, slots := 0, locals := 91 } : Room) s m ([.ref u0, .int u1, .int u2, .int u3] : List Value).toArray below meth c H locs 0 0 (MQ below (hQ D z h' (some (.int r))) ([.ref u0, .int u1, .int u2, .int u3] : List Value).toArray s 0 0 (hA z)) (F0 m 138 ls [])) (fun x => ∀ (H : Heap) (locs : List Loc) (ls : Array Slot), hR D z x H → va_S (hA z) s.heap H locs → lv_has ls 8 [(0, .ref u0), (3, .int u3), (5, .ref x16.1)] → W p l e ({ frames := 4, cells := 0, slots := 0, locals := 91 } : Room) s m ([.ref u0, .int u1, .int u2, .int u3] : List Value).toArray below meth c H locs 0 0 (MQ below (hQ D z h' (some (.int r))) ([.ref u0, .int u1, .int u2, .int u3] : List Value).toArray s 0 0 (hA z)) (F0 m 147 ls []))) x) ?_ FU _ r27 er27 ?_ H locs ls hr hS (lv_sub hl [4, 6, 7, 3, 2, 1, 0] rfl)
            · intro q o hs hcont hexit
              obtain ⟨g18, w7⟩ := q
              replace hs : zb_X11_power_105 u0 u2 u3 x10 x16.1 x17 g18 w7 = some o := hs
              intro H locs ls hr hS hl
              unfold zb_X11_power_105 at hs
              refine lv_iload hx hb dX11_power_105 (lv_at hl 6 rfl) ?_
              refine lv_iload_n hx hb dX11_power_107 rfl (lv_at hl 1 rfl) ?_
              refine lv_icmp_ge (tgt := 147) hx hb dX11_power_108 (by decide) (fun c19 => ?_) (fun c19 => ?_)
              · rw [if_pos c19] at hs
                obtain rfl := Option.some.inj hs
                exact hexit _ rfl H locs ls hr hS (lv_sub hl [0, 2, 4] rfl)
              · rw [if_neg c19] at hs
                refine lv_aload hx hb dX11_power_111 (lv_at hl 4 rfl) ?_
                refine lv_aload_n hx hb dX11_power_113 rfl (lv_at hl 0 rfl) ?_
                refine lv_aload hx hb dX11_power_114 (lv_at hl 4 rfl) ?_
                refine lv_aload hx hb dX11_power_116 (lv_at hl 3 rfl) ?_
                obtain ⟨_, ex20, hs⟩ := bi_inv hs
                obtain ⟨x21, ex21, hs⟩ := bi_inv hs
                refine hv_V1 (n := 2) [.ref x16.1, .ref x10] [.ref x16.1] hx hb hml hown hts hk hr hz hS (zm_X11_times l D z ex21) ex20 rfl tw_1003 tw_1005 ts_26 tw_11 tw_1006 (by decide +kernel) (by decide) ⟨(Nat.zero_le _), (Nat.zero_le _)⟩ rfl hl.1 (Nat.le_of_ble_eq_true rfl) dX11_power_118 rfl (fun H locs hr hS => ?_)
                obtain ⟨_, ex22, hs⟩ := bi_inv hs
                obtain ⟨g23, eg23, hs⟩ := bi_inv hs
                refine hv_V0 (n := 1) [.ref x21.1] [] hx hb hml hown hts hk hr hz hS (zm_X10_become l D z eg23) ex22 rfl tw_875 tw_876 tw_877 tw_12 tw_878 (by decide +kernel) (by decide) ⟨(Nat.zero_le _), (Nat.zero_le _)⟩ rfl hl.1 (Nat.le_of_ble_eq_true rfl) dX11_power_121 rfl (fun H locs hr hS => ?_)
                refine lv_aload_n hx hb dX11_power_124 rfl (lv_at hl 0 rfl) ?_
                refine lv_iload hx hb dX11_power_125 (lv_at hl 5 rfl) ?_
                obtain ⟨g24, eg24, hs⟩ := bi_inv hs
                refine hv_pV (C := RX11) (T := TX11) (N := 23) (ci := 11) hx hb hts inX11 tyX11 tyX11_ok nmX11 hown hk hr hS rfl 2 (by decide) (hts _ tw_884) rfl rfl rfl eg24 dX11_power_127 (fun H locs hr hS => ?_)
                refine lv_aload hx hb dX11_power_130 (lv_at hl 4 rfl) ?_
                obtain ⟨x25, ex25, hs⟩ := bi_inv hs
                refine hv_S1 (n := 1) [.ref x16.1] [] hx hb hml hown hts hk hr hz hS (zm_X11_fits l D z ex25) tw_977 tw_978 tw_11 tw_979 (by decide +kernel) (by decide) ⟨(Nat.zero_le _), (Nat.zero_le _)⟩ rfl hl.1 (Nat.le_of_ble_eq_true rfl) dX11_power_132 rfl (fun H locs hr hS => ?_)
                refine lv_if_ne (tgt := 141) hx hb dX11_power_135 (by decide) (fun c26 => ?_) (fun c26 => ?_)
                · rw [if_neg c26] at hs
                  refine lv_iinc (v := w7 + (1 : Int32)) (lv' := [(7, .int (w7 + (1 : Int32))), (0, .ref u0), (2, .int u2), (3, .int u3), (4, .ref x10), (5, .ref x16.1), (6, .int x17)]) hx hb dX11_power_141 hl (k := 6) rfl (ii_v _ (by decide)) (by decide) rfl (fun ls hl => ?_)
                  refine lv_goto (tgt := 105) hx hb dX11_power_144 (by decide) ?_
                  obtain rfl := Option.some.inj hs
                  exact hcont _ rfl H locs ls hr hS (lv_sub hl [1, 2, 3, 4, 5, 6, 0] rfl)
                · rw [if_pos c26] at hs
                  obtain rfl := Option.some.inj hs
                  exact hexit _ rfl H locs ls hr hS (lv_sub hl [] rfl)
            · cases r27 with
              | inl r28 =>
                intro H locs ls hr hS hl
                replace hs := hs
                dsimp only at hs
                refine lv_bipush (v := (-5)) hx hb dX11_power_138 (by decide) ?_
                obtain ⟨rfl, rfl⟩ := Prod.mk.inj (Option.some.inj hs)
                exact hv_iret hx hb hrt hlk hr hS dX11_power_140
              | inr r29 =>
                dsimp only at hs
                intro H locs ls hr hS hl
                refine lv_aload_n hx hb dX11_power_147 rfl (lv_at hl 0 rfl) ?_
                refine lv_iload_n hx hb dX11_power_148 rfl (lv_at hl 1 rfl) ?_
                refine lv_aload hx hb dX11_power_149 (lv_at hl 2 rfl) ?_
                obtain ⟨_, ex30, hs⟩ := bi_inv hs
                obtain ⟨x31, ex31, hs⟩ := bi_inv hs
                refine hv_V1 (n := 2) [.int u3, .ref x16.1] [] hx hb hml hown hts hk hr hz hS (zm_X11_keep l D z ex31) ex30 rfl tw_973 tw_975 ts_24 tw_11 tw_976 (by decide +kernel) (by decide) ⟨(Nat.zero_le _), (Nat.zero_le _)⟩ rfl hl.1 (Nat.le_of_ble_eq_true rfl) dX11_power_151 rfl (fun H locs hr hS => ?_)
                obtain ⟨rfl, rfl⟩ := Prod.mk.inj (Option.some.inj hs)
                exact hv_iret hx hb hrt hlk hr hS dX11_power_154
          · rw [if_neg c13] at hs
            refine lv_aload_n hx hb dX11_power_46 rfl (lv_at hl 1 rfl) ?_
            refine lv_iload_n hx hb dX11_power_47 rfl (lv_at hl 4 rfl) ?_
            refine lv_iload_n hx hb dX11_power_48 rfl (lv_at hl 3 rfl) ?_
            refine lv_if_ne (tgt := 59) hx hb dX11_power_49 (by decide) (fun c32 => ?_) (fun c32 => ?_)
            · rw [if_neg c32] at hs
              refine lv_iload_n hx hb dX11_power_59 rfl (lv_at hl 3 rfl) ?_
              refine lv_iconst (v := 2) hx hb dX11_power_60 (by decide) ?_
              refine lv_irem hx hb dX11_power_61 (by decide) ?_
              refine lv_if_ne (tgt := 76) hx hb dX11_power_62 (by decide) (fun c33 => ?_) (fun c33 => ?_)
              · rw [if_neg c33] at hs
                refine lv_aload_n hx hb dX11_power_76 rfl (lv_at hl 1 rfl) ?_
                refine lv_aload hx hb dX11_power_77 (lv_at hl 0 rfl) ?_
                obtain ⟨_, ex34, hs⟩ := bi_inv hs
                obtain ⟨x35, ex35, hs⟩ := bi_inv hs
                refine hv_V1 (n := 1) [.ref x10] [.int u3, .ref u0] hx hb hml hown hts hk hr hz hS (zm_X11_copy l D z ex35) ex34 rfl tw_996 tw_998 ts_25 tw_11 tw_999 (by decide +kernel) (by decide) ⟨(Nat.zero_le _), (Nat.zero_le _)⟩ rfl hl.1 (Nat.le_of_ble_eq_true rfl) dX11_power_79 rfl (fun H locs hr hS => ?_)
                exact hJ82 x35.2 x35.1 u3 u0 H locs ls hs hr hS (lv_sub hl [] rfl)
              · rw [if_pos c33] at hs
                refine lv_aload_n hx hb dX11_power_65 rfl (lv_at hl 1 rfl) ?_
                refine lv_aload hx hb dX11_power_66 (lv_at hl 0 rfl) ?_
                refine lv_aload hx hb dX11_power_68 (lv_at hl 0 rfl) ?_
                obtain ⟨_, ex39, hs⟩ := bi_inv hs
                obtain ⟨x40, ex40, hs⟩ := bi_inv hs
                refine hv_V1 (n := 2) [.ref x10, .ref x10] [.int u3, .ref u0] hx hb hml hown hts hk hr hz hS (zm_X11_times l D z ex40) ex39 rfl tw_1003 tw_1005 ts_26 tw_11 tw_1006 (by decide +kernel) (by decide) ⟨(Nat.zero_le _), (Nat.zero_le _)⟩ rfl hl.1 (Nat.le_of_ble_eq_true rfl) dX11_power_70 rfl (fun H locs hr hS => ?_)
                refine lv_goto (tgt := 82) hx hb dX11_power_73 (by decide) ?_
                exact hJ82 x40.2 x40.1 u3 u0 H locs ls hs hr hS (lv_sub hl [] rfl)
            · rw [if_pos c32] at hs
              refine lv_aload_n hx hb dX11_power_52 rfl (lv_at hl 1 rfl) ?_
              obtain ⟨x41, ex41, hs⟩ := bi_inv hs
              refine hv_gR (C := RX11) (T := TX11) (N := 23) (ci := 11) hx hb hts inX11 hown hk hr rfl 4 (by decide) (hts _ tw_886) ex41 dX11_power_53 ?_
              refine lv_goto (tgt := 82) hx hb dX11_power_56 (by decide) ?_
              exact hJ82 x5.2 x41 u3 u0 H locs ls hs hr hS (lv_sub hl [] rfl)
        · rw [if_neg c8] at hs
          refine lv_iconst (v := (-1)) hx hb dX11_power_27 (by decide) ?_
          obtain ⟨rfl, rfl⟩ := Prod.mk.inj (Option.some.inj hs)
          exact hv_iret hx hb hrt hlk hr hS dX11_power_28
theorem dX11_powered_0 : decode cX11_powered 0 = .ok (.aload_n 0, 1) := by decide +kernel
theorem dX11_powered_1 : decode cX11_powered 1 = .ok (.aload_n 0, 1) := by decide +kernel
theorem dX11_powered_2 : decode cX11_powered 2 = .ok (.getfield 113, 3) := by decide +kernel
theorem dX11_powered_5 : decode cX11_powered 5 = .ok (.invokevirtual 34, 3) := by decide +kernel
theorem dX11_powered_8 : decode cX11_powered 8 = .ok (.astore_n 3, 1) := by decide +kernel
theorem dX11_powered_9 : decode cX11_powered 9 = .ok (.aload_n 0, 1) := by decide +kernel
theorem dX11_powered_10 : decode cX11_powered 10 = .ok (.getfield 7, 3) := by decide +kernel
theorem dX11_powered_13 : decode cX11_powered 13 = .ok (.istore 4, 2) := by decide +kernel
theorem dX11_powered_15 : decode cX11_powered 15 = .ok (.iconst 0, 1) := by decide +kernel
theorem dX11_powered_16 : decode cX11_powered 16 = .ok (.istore 5, 2) := by decide +kernel
theorem dX11_powered_18 : decode cX11_powered 18 = .ok (.iload 5, 2) := by decide +kernel
theorem dX11_powered_20 : decode cX11_powered 20 = .ok (.iload_n 2, 1) := by decide +kernel
theorem dX11_powered_21 : decode cX11_powered 21 = .ok (.if_icmp .ge 25, 3) := by decide +kernel
theorem dX11_powered_24 : decode cX11_powered 24 = .ok (.aload_n 3, 1) := by decide +kernel
theorem dX11_powered_25 : decode cX11_powered 25 = .ok (.aload_n 0, 1) := by decide +kernel
theorem dX11_powered_26 : decode cX11_powered 26 = .ok (.aload_n 3, 1) := by decide +kernel
theorem dX11_powered_27 : decode cX11_powered 27 = .ok (.aload_n 1, 1) := by decide +kernel
theorem dX11_powered_28 : decode cX11_powered 28 = .ok (.invokevirtual 122, 3) := by decide +kernel
theorem dX11_powered_31 : decode cX11_powered 31 = .ok (.invokevirtual 30, 3) := by decide +kernel
theorem dX11_powered_34 : decode cX11_powered 34 = .ok (.aload_n 0, 1) := by decide +kernel
theorem dX11_powered_35 : decode cX11_powered 35 = .ok (.iload 4, 2) := by decide +kernel
theorem dX11_powered_37 : decode cX11_powered 37 = .ok (.putfield 7, 3) := by decide +kernel
theorem dX11_powered_40 : decode cX11_powered 40 = .ok (.iinc 5 1, 3) := by decide +kernel
theorem dX11_powered_43 : decode cX11_powered 43 = .ok (.goto (-25), 3) := by decide +kernel
theorem dX11_powered_46 : decode cX11_powered 46 = .ok (.aload_n 3, 1) := by decide +kernel
theorem dX11_powered_47 : decode cX11_powered 47 = .ok (.areturn, 1) := by decide +kernel
def zb_X11_powered_18 (w0 : Nat) (w1 : Nat) (w2 : Int32) (w3 : Nat) (w4 : Int32) (g5 : AH) (w5 : Int32) : Option ((AH × Int32) ⊕ (AH)) :=
  (if w2 ≤ w5 then some (Sum.inr g5) else (chk g5 w0 11).bind fun _ => (zs_X11_times g5 w0 w3 w1).bind fun x8 => (chk x8.2 w3 10).bind fun _ => (zs_X10_become x8.2 w3 x8.1).bind fun g10 => (pV g10 w0 11 2 (.int w4)).bind fun g11 => some (Sum.inl ((g11, w5 + (1 : Int32)))))
def zs_X11_powered (h : AH) (u0 : Nat) (u1 : Nat) (u2 : Int32) : Option (Nat × AH) :=
  (gR h u0 11 4).bind fun x1 => (chk h u0 11).bind fun _ => (zs_X11_copy h u0 x1).bind fun x3 => (gI x3.2 u0 11 2).bind fun x4 => (iter (fun q : AH × Int32 => zb_X11_powered_18 u0 u1 u2 x3.1 x4 q.1 q.2) FU ((x3.2, (0 : Int32)))).bind fun r12 => some (x3.1, r12)
set_option maxRecDepth 100000 in
set_option maxHeartbeats 4000000 in
theorem zm_X11_powered (l : Launch) (D : hG) (z : Nat) {h : AH} {u0 : Nat} {u1 : Nat} {u2 : Int32} {r : Nat} {h' : AH} (hs : zs_X11_powered h u0 u1 u2 = some (r, h')) : hC l D z yX11_powered cX11_powered 6 (Option.some (Jvm.ClassFile.FieldType.object "WideWholesModel$Whole")) 3 91 0 0 [.ref u0, .ref u1, .int u2] h h' (some (.ref r)) := by
  refine hC_of (by decide) (Nat.le_of_ble_eq_true rfl) ?_
  intro p e s m below meth c hx hb hml hrt hlk hown hnm hts hk hr hz ls hl
  replace hown : s.vm.findClass RX11 = some m.cls := hown
  replace hl : lv_has ls 6 [(0, .ref u0), (1, .ref u1), (2, .int u2)] := hl
  have hS : va_S (hA z) s.heap s.heap [] := va_S.rf
  suffices hgo : ∀ (H : Heap) (locs : List Loc), hR D z h H → va_S (hA z) s.heap H locs → W p l e ({ frames := 3, cells := 0, slots := 0, locals := 91 } : Room) s m ([.ref u0, .ref u1, .int u2] : List Value).toArray below meth c H locs 0 0 (MQ below (hQ D z h' (some (.ref r))) ([.ref u0, .ref u1, .int u2] : List Value).toArray s 0 0 (hA z)) (F0 m 0 ls []) from hgo _ _ hr hS
  clear hr hS
  intro H locs hr hS
  unfold zs_X11_powered at hs
  refine lv_aload_n hx hb dX11_powered_0 rfl (lv_at hl 0 rfl) ?_
  refine lv_aload_n hx hb dX11_powered_1 rfl (lv_at hl 0 rfl) ?_
  obtain ⟨x1, ex1, hs⟩ := bi_inv hs
  refine hv_gR (C := RX11) (T := TX11) (N := 23) (ci := 11) hx hb hts inX11 hown hk hr rfl 4 (by decide) (hts _ tw_886) ex1 dX11_powered_2 ?_
  obtain ⟨_, ex2, hs⟩ := bi_inv hs
  obtain ⟨x3, ex3, hs⟩ := bi_inv hs
  refine hv_V1 (n := 1) [.ref x1] [] hx hb hml hown hts hk hr hz hS (zm_X11_copy l D z ex3) ex2 rfl tw_996 tw_998 ts_25 tw_11 tw_999 (by decide +kernel) (by decide) ⟨(Nat.zero_le _), (Nat.zero_le _)⟩ rfl hl.1 (Nat.le_of_ble_eq_true rfl) dX11_powered_5 rfl (fun H locs hr hS => ?_)
  refine lv_astore_n (lv' := [(3, .ref x3.1), (0, .ref u0), (1, .ref u1), (2, .int u2)]) hx hb dX11_powered_8 rfl hl (by decide) rfl (fun ls hl => ?_)
  refine lv_aload_n hx hb dX11_powered_9 rfl (lv_at hl 1 rfl) ?_
  obtain ⟨x4, ex4, hs⟩ := bi_inv hs
  refine hv_gI (C := RX11) (T := TX11) (N := 23) (ci := 11) hx hb hts inX11 hown hk hr rfl 2 (by decide) (hts _ tw_884) ex4 dX11_powered_10 ?_
  refine lv_istore (lv' := [(4, .int x4), (3, .ref x3.1), (0, .ref u0), (1, .ref u1), (2, .int u2)]) hx hb dX11_powered_13 hl (by decide) rfl (fun ls hl => ?_)
  refine lv_iconst (v := 0) hx hb dX11_powered_15 (by decide) ?_
  refine lv_istore (lv' := [(5, .int ((0 : Int32))), (4, .int x4), (3, .ref x3.1), (0, .ref u0), (1, .ref u1), (2, .int u2)]) hx hb dX11_powered_16 hl (by decide) rfl (fun ls hl => ?_)
  obtain ⟨r12, er12, hs⟩ := bi_inv hs
  refine iter_W (fun (q : AH × Int32) => ∀ (H : Heap) (locs : List Loc) (ls : Array Slot), hR D z q.1 H → va_S (hA z) s.heap H locs → lv_has ls 6 [(0, .ref u0), (1, .ref u1), (2, .int u2), (3, .ref x3.1), (4, .int x4), (5, .int q.2)] → W p l e ({ frames := 3, cells := 0, slots := 0, locals := 91 } : Room) s m ([.ref u0, .ref u1, .int u2] : List Value).toArray below meth c H locs 0 0 (MQ below (hQ D z h' (some (.ref r))) ([.ref u0, .ref u1, .int u2] : List Value).toArray s 0 0 (hA z)) (F0 m 18 ls [])) (fun (x : AH) => ∀ (H : Heap) (locs : List Loc) (ls : Array Slot), hR D z x H → va_S (hA z) s.heap H locs → lv_has ls 6 [(3, .ref x3.1)] → W p l e ({ frames := 3, cells := 0, slots := 0, locals := 91 } : Room) s m ([.ref u0, .ref u1, .int u2] : List Value).toArray below meth c H locs 0 0 (MQ below (hQ D z h' (some (.ref r))) ([.ref u0, .ref u1, .int u2] : List Value).toArray s 0 0 (hA z)) (F0 m 46 ls [])) ?_ FU _ r12 er12 ?_ H locs ls hr hS (lv_sub hl [3, 4, 5, 2, 1, 0] rfl)
  · intro q o hs hcont hexit
    obtain ⟨g5, w5⟩ := q
    replace hs : zb_X11_powered_18 u0 u1 u2 x3.1 x4 g5 w5 = some o := hs
    intro H locs ls hr hS hl
    unfold zb_X11_powered_18 at hs
    refine lv_iload hx hb dX11_powered_18 (lv_at hl 5 rfl) ?_
    refine lv_iload_n hx hb dX11_powered_20 rfl (lv_at hl 2 rfl) ?_
    refine lv_icmp_ge (tgt := 46) hx hb dX11_powered_21 (by decide) (fun c6 => ?_) (fun c6 => ?_)
    · rw [if_pos c6] at hs
      obtain rfl := Option.some.inj hs
      exact hexit _ rfl H locs ls hr hS (lv_sub hl [3] rfl)
    · rw [if_neg c6] at hs
      refine lv_aload_n hx hb dX11_powered_24 rfl (lv_at hl 3 rfl) ?_
      refine lv_aload_n hx hb dX11_powered_25 rfl (lv_at hl 0 rfl) ?_
      refine lv_aload_n hx hb dX11_powered_26 rfl (lv_at hl 3 rfl) ?_
      refine lv_aload_n hx hb dX11_powered_27 rfl (lv_at hl 1 rfl) ?_
      obtain ⟨_, ex7, hs⟩ := bi_inv hs
      obtain ⟨x8, ex8, hs⟩ := bi_inv hs
      refine hv_V1 (n := 2) [.ref x3.1, .ref u1] [.ref x3.1] hx hb hml hown hts hk hr hz hS (zm_X11_times l D z ex8) ex7 rfl tw_1003 tw_1005 ts_26 tw_11 tw_1006 (by decide +kernel) (by decide) ⟨(Nat.zero_le _), (Nat.zero_le _)⟩ rfl hl.1 (Nat.le_of_ble_eq_true rfl) dX11_powered_28 rfl (fun H locs hr hS => ?_)
      obtain ⟨_, ex9, hs⟩ := bi_inv hs
      obtain ⟨g10, eg10, hs⟩ := bi_inv hs
      refine hv_V0 (n := 1) [.ref x8.1] [] hx hb hml hown hts hk hr hz hS (zm_X10_become l D z eg10) ex9 rfl tw_875 tw_876 tw_877 tw_12 tw_878 (by decide +kernel) (by decide) ⟨(Nat.zero_le _), (Nat.zero_le _)⟩ rfl hl.1 (Nat.le_of_ble_eq_true rfl) dX11_powered_31 rfl (fun H locs hr hS => ?_)
      refine lv_aload_n hx hb dX11_powered_34 rfl (lv_at hl 0 rfl) ?_
      refine lv_iload hx hb dX11_powered_35 (lv_at hl 4 rfl) ?_
      obtain ⟨g11, eg11, hs⟩ := bi_inv hs
      refine hv_pV (C := RX11) (T := TX11) (N := 23) (ci := 11) hx hb hts inX11 tyX11 tyX11_ok nmX11 hown hk hr hS rfl 2 (by decide) (hts _ tw_884) rfl rfl rfl eg11 dX11_powered_37 (fun H locs hr hS => ?_)
      refine lv_iinc (v := w5 + (1 : Int32)) (lv' := [(5, .int (w5 + (1 : Int32))), (0, .ref u0), (1, .ref u1), (2, .int u2), (3, .ref x3.1), (4, .int x4)]) hx hb dX11_powered_40 hl (k := 5) rfl (ii_v _ (by decide)) (by decide) rfl (fun ls hl => ?_)
      refine lv_goto (tgt := 18) hx hb dX11_powered_43 (by decide) ?_
      obtain rfl := Option.some.inj hs
      exact hcont _ rfl H locs ls hr hS (lv_sub hl [1, 2, 3, 4, 5, 0] rfl)
  · intro H locs ls hr hS hl
    refine lv_aload_n hx hb dX11_powered_46 rfl (lv_at hl 0 rfl) ?_
    obtain ⟨rfl, rfl⟩ := Prod.mk.inj (Option.some.inj hs)
    exact hv_aret hx hb hrt (by first | exact Or.inl ⟨_, rfl⟩ | exact Or.inr ⟨_, rfl⟩) hlk hr hS dX11_powered_47
theorem dX11_ratio_0 : decode cX11_ratio 0 = .ok (.aload_n 0, 1) := by decide +kernel
theorem dX11_ratio_1 : decode cX11_ratio 1 = .ok (.iload_n 1, 1) := by decide +kernel
theorem dX11_ratio_2 : decode cX11_ratio 2 = .ok (.invokevirtual 177, 3) := by decide +kernel
theorem dX11_ratio_5 : decode cX11_ratio 5 = .ok (.ifCond .eq 19, 3) := by decide +kernel
theorem dX11_ratio_8 : decode cX11_ratio 8 = .ok (.aload_n 0, 1) := by decide +kernel
theorem dX11_ratio_9 : decode cX11_ratio 9 = .ok (.iload_n 2, 1) := by decide +kernel
theorem dX11_ratio_10 : decode cX11_ratio 10 = .ok (.invokevirtual 177, 3) := by decide +kernel
theorem dX11_ratio_13 : decode cX11_ratio 13 = .ok (.ifCond .eq 11, 3) := by decide +kernel
theorem dX11_ratio_16 : decode cX11_ratio 16 = .ok (.aload_n 0, 1) := by decide +kernel
theorem dX11_ratio_17 : decode cX11_ratio 17 = .ok (.iload_n 3, 1) := by decide +kernel
theorem dX11_ratio_18 : decode cX11_ratio 18 = .ok (.invokevirtual 236, 3) := by decide +kernel
theorem dX11_ratio_21 : decode cX11_ratio 21 = .ok (.ifCond .ne 5, 3) := by decide +kernel
theorem dX11_ratio_24 : decode cX11_ratio 24 = .ok (.iconst (-1), 1) := by decide +kernel
theorem dX11_ratio_25 : decode cX11_ratio 25 = .ok (.ireturn, 1) := by decide +kernel
theorem dX11_ratio_26 : decode cX11_ratio 26 = .ok (.aload_n 0, 1) := by decide +kernel
theorem dX11_ratio_27 : decode cX11_ratio 27 = .ok (.getfield 142, 3) := by decide +kernel
theorem dX11_ratio_30 : decode cX11_ratio 30 = .ok (.iload_n 2, 1) := by decide +kernel
theorem dX11_ratio_31 : decode cX11_ratio 31 = .ok (.aaload, 1) := by decide +kernel
theorem dX11_ratio_32 : decode cX11_ratio 32 = .ok (.invokevirtual 60, 3) := by decide +kernel
theorem dX11_ratio_35 : decode cX11_ratio 35 = .ok (.ifCond .eq 8, 3) := by decide +kernel
theorem dX11_ratio_38 : decode cX11_ratio 38 = .ok (.bipush (-2), 2) := by decide +kernel
theorem dX11_ratio_40 : decode cX11_ratio 40 = .ok (.goto 20, 3) := by decide +kernel
theorem dX11_ratio_43 : decode cX11_ratio 43 = .ok (.aload_n 0, 1) := by decide +kernel
theorem dX11_ratio_44 : decode cX11_ratio 44 = .ok (.iload_n 3, 1) := by decide +kernel
theorem dX11_ratio_45 : decode cX11_ratio 45 = .ok (.aload_n 0, 1) := by decide +kernel
theorem dX11_ratio_46 : decode cX11_ratio 46 = .ok (.getfield 142, 3) := by decide +kernel
theorem dX11_ratio_49 : decode cX11_ratio 49 = .ok (.iload_n 1, 1) := by decide +kernel
theorem dX11_ratio_50 : decode cX11_ratio 50 = .ok (.aaload, 1) := by decide +kernel
theorem dX11_ratio_51 : decode cX11_ratio 51 = .ok (.aload_n 0, 1) := by decide +kernel
theorem dX11_ratio_52 : decode cX11_ratio 52 = .ok (.getfield 142, 3) := by decide +kernel
theorem dX11_ratio_55 : decode cX11_ratio 55 = .ok (.iload_n 2, 1) := by decide +kernel
theorem dX11_ratio_56 : decode cX11_ratio 56 = .ok (.aaload, 1) := by decide +kernel
theorem dX11_ratio_57 : decode cX11_ratio 57 = .ok (.invokevirtual 239, 3) := by decide +kernel
theorem dX11_ratio_60 : decode cX11_ratio 60 = .ok (.ireturn, 1) := by decide +kernel
def zs_X11_ratio (h : AH) (u0 : Nat) (u1 : Int32) (u2 : Int32) (u3 : Int32) : Option (Int32 × AH) :=
  (chk h u0 11).bind fun _ => (zs_X11_isSlot h u0 u1).bind fun x2 => (if x2.1 = 0 then some ((-1 : Int32), x2.2) else (chk x2.2 u0 11).bind fun _ => (zs_X11_isSlot x2.2 u0 u2).bind fun x5 => (if x5.1 = 0 then some ((-1 : Int32), x5.2) else (chk x5.2 u0 11).bind fun _ => (zs_X11_isRatio x5.2 u0 u3).bind fun x8 => (if x8.1 = 0 then some ((-1 : Int32), x8.2) else (gR x8.2 u0 11 9).bind fun x10 => (aR x8.2 x10 5 u2).bind fun x11 => (chk x8.2 x11 10).bind fun _ => (zs_X10_isZero x8.2 x11).bind fun x13 => (if x13 = 0 then (gR x8.2 u0 11 9).bind fun x15 => (aR x8.2 x15 5 u1).bind fun x16 => (gR x8.2 u0 11 9).bind fun x17 => (aR x8.2 x17 5 u2).bind fun x18 => (chk x8.2 u0 11).bind fun _ => (zs_X11_keepRatio x8.2 u0 u3 x16 x18).bind fun x20 => some (x20.1, x20.2) else some ((-2 : Int32), x8.2)))))
set_option maxRecDepth 100000 in
set_option maxHeartbeats 4000000 in
theorem zm_X11_ratio (l : Launch) (D : hG) (z : Nat) {h : AH} {u0 : Nat} {u1 : Int32} {u2 : Int32} {u3 : Int32} {r : Int32} {h' : AH} (hs : zs_X11_ratio h u0 u1 u2 u3 = some (r, h')) : hC l D z yX11_ratio cX11_ratio 4 (Option.some Jvm.ClassFile.FieldType.int) 7 192 0 0 [.ref u0, .int u1, .int u2, .int u3] h h' (some (.int r)) := by
  refine hC_of (by decide) (Nat.le_of_ble_eq_true rfl) ?_
  intro p e s m below meth c hx hb hml hrt hlk hown hnm hts hk hr hz ls hl
  replace hown : s.vm.findClass RX11 = some m.cls := hown
  replace hl : lv_has ls 4 [(0, .ref u0), (1, .int u1), (2, .int u2), (3, .int u3)] := hl
  have hS : va_S (hA z) s.heap s.heap [] := va_S.rf
  suffices hgo : ∀ (H : Heap) (locs : List Loc), hR D z h H → va_S (hA z) s.heap H locs → W p l e ({ frames := 7, cells := 0, slots := 0, locals := 192 } : Room) s m ([.ref u0, .int u1, .int u2, .int u3] : List Value).toArray below meth c H locs 0 0 (MQ below (hQ D z h' (some (.int r))) ([.ref u0, .int u1, .int u2, .int u3] : List Value).toArray s 0 0 (hA z)) (F0 m 0 ls []) from hgo _ _ hr hS
  clear hr hS
  intro H locs hr hS
  unfold zs_X11_ratio at hs
  refine lv_aload_n hx hb dX11_ratio_0 rfl (lv_at hl 0 rfl) ?_
  refine lv_iload_n hx hb dX11_ratio_1 rfl (lv_at hl 1 rfl) ?_
  obtain ⟨_, ex1, hs⟩ := bi_inv hs
  obtain ⟨x2, ex2, hs⟩ := bi_inv hs
  refine hv_V1 (n := 1) [.int u1] [] hx hb hml hown hts hk hr hz hS (zm_X11_isSlot l D z ex2) ex1 rfl tw_956 tw_958 ts_21 tw_11 tw_959 (by decide +kernel) (by decide) ⟨(Nat.zero_le _), (Nat.zero_le _)⟩ rfl hl.1 (Nat.le_of_ble_eq_true rfl) dX11_ratio_2 rfl (fun H locs hr hS => ?_)
  refine lv_if_eq (tgt := 24) hx hb dX11_ratio_5 (by decide) (fun c3 => ?_) (fun c3 => ?_)
  · rw [if_pos c3] at hs
    refine lv_iconst (v := (-1)) hx hb dX11_ratio_24 (by decide) ?_
    obtain ⟨rfl, rfl⟩ := Prod.mk.inj (Option.some.inj hs)
    exact hv_iret hx hb hrt hlk hr hS dX11_ratio_25
  · rw [if_neg c3] at hs
    refine lv_aload_n hx hb dX11_ratio_8 rfl (lv_at hl 0 rfl) ?_
    refine lv_iload_n hx hb dX11_ratio_9 rfl (lv_at hl 2 rfl) ?_
    obtain ⟨_, ex4, hs⟩ := bi_inv hs
    obtain ⟨x5, ex5, hs⟩ := bi_inv hs
    refine hv_V1 (n := 1) [.int u2] [] hx hb hml hown hts hk hr hz hS (zm_X11_isSlot l D z ex5) ex4 rfl tw_956 tw_958 ts_21 tw_11 tw_959 (by decide +kernel) (by decide) ⟨(Nat.zero_le _), (Nat.zero_le _)⟩ rfl hl.1 (Nat.le_of_ble_eq_true rfl) dX11_ratio_10 rfl (fun H locs hr hS => ?_)
    refine lv_if_eq (tgt := 24) hx hb dX11_ratio_13 (by decide) (fun c6 => ?_) (fun c6 => ?_)
    · rw [if_pos c6] at hs
      refine lv_iconst (v := (-1)) hx hb dX11_ratio_24 (by decide) ?_
      obtain ⟨rfl, rfl⟩ := Prod.mk.inj (Option.some.inj hs)
      exact hv_iret hx hb hrt hlk hr hS dX11_ratio_25
    · rw [if_neg c6] at hs
      refine lv_aload_n hx hb dX11_ratio_16 rfl (lv_at hl 0 rfl) ?_
      refine lv_iload_n hx hb dX11_ratio_17 rfl (lv_at hl 3 rfl) ?_
      obtain ⟨_, ex7, hs⟩ := bi_inv hs
      obtain ⟨x8, ex8, hs⟩ := bi_inv hs
      refine hv_V1 (n := 1) [.int u3] [] hx hb hml hown hts hk hr hz hS (zm_X11_isRatio l D z ex8) ex7 rfl tw_1184 tw_1186 ts_44 tw_11 tw_1187 (by decide +kernel) (by decide) ⟨(Nat.zero_le _), (Nat.zero_le _)⟩ rfl hl.1 (Nat.le_of_ble_eq_true rfl) dX11_ratio_18 rfl (fun H locs hr hS => ?_)
      refine lv_if_ne (tgt := 26) hx hb dX11_ratio_21 (by decide) (fun c9 => ?_) (fun c9 => ?_)
      · rw [if_neg c9] at hs
        refine lv_aload_n hx hb dX11_ratio_26 rfl (lv_at hl 0 rfl) ?_
        obtain ⟨x10, ex10, hs⟩ := bi_inv hs
        refine hv_gR (C := RX11) (T := TX11) (N := 23) (ci := 11) hx hb hts inX11 hown hk hr rfl 9 (by decide) (hts _ tw_891) ex10 dX11_ratio_27 ?_
        refine lv_iload_n hx hb dX11_ratio_30 rfl (lv_at hl 2 rfl) ?_
        obtain ⟨x11, ex11, hs⟩ := bi_inv hs
        refine hv_aR (kd := 5) hx hb hk hr rfl ex11 dX11_ratio_31 ?_
        obtain ⟨_, ex12, hs⟩ := bi_inv hs
        obtain ⟨x13, ex13, hs⟩ := bi_inv hs
        refine hv_V1 (n := 0) [] [] hx hb hml hown hts hk hr hz hS (zm_X10_isZero l D z ex13) ex12 rfl tw_1011 tw_1012 tw_1013 tw_12 tw_1014 (by decide +kernel) (by decide) ⟨(Nat.zero_le _), (Nat.zero_le _)⟩ rfl hl.1 (Nat.le_of_ble_eq_true rfl) dX11_ratio_32 rfl (fun H locs hr hS => ?_)
        refine lv_if_eq (tgt := 43) hx hb dX11_ratio_35 (by decide) (fun c14 => ?_) (fun c14 => ?_)
        · rw [if_pos c14] at hs
          refine lv_aload_n hx hb dX11_ratio_43 rfl (lv_at hl 0 rfl) ?_
          refine lv_iload_n hx hb dX11_ratio_44 rfl (lv_at hl 3 rfl) ?_
          refine lv_aload_n hx hb dX11_ratio_45 rfl (lv_at hl 0 rfl) ?_
          obtain ⟨x15, ex15, hs⟩ := bi_inv hs
          refine hv_gR (C := RX11) (T := TX11) (N := 23) (ci := 11) hx hb hts inX11 hown hk hr rfl 9 (by decide) (hts _ tw_891) ex15 dX11_ratio_46 ?_
          refine lv_iload_n hx hb dX11_ratio_49 rfl (lv_at hl 1 rfl) ?_
          obtain ⟨x16, ex16, hs⟩ := bi_inv hs
          refine hv_aR (kd := 5) hx hb hk hr rfl ex16 dX11_ratio_50 ?_
          refine lv_aload_n hx hb dX11_ratio_51 rfl (lv_at hl 0 rfl) ?_
          obtain ⟨x17, ex17, hs⟩ := bi_inv hs
          refine hv_gR (C := RX11) (T := TX11) (N := 23) (ci := 11) hx hb hts inX11 hown hk hr rfl 9 (by decide) (hts _ tw_891) ex17 dX11_ratio_52 ?_
          refine lv_iload_n hx hb dX11_ratio_55 rfl (lv_at hl 2 rfl) ?_
          obtain ⟨x18, ex18, hs⟩ := bi_inv hs
          refine hv_aR (kd := 5) hx hb hk hr rfl ex18 dX11_ratio_56 ?_
          obtain ⟨_, ex19, hs⟩ := bi_inv hs
          obtain ⟨x20, ex20, hs⟩ := bi_inv hs
          refine hv_V1 (n := 3) [.int u3, .ref x16, .ref x18] [] hx hb hml hown hts hk hr hz hS (zm_X11_keepRatio l D z ex20) ex19 rfl tw_1188 tw_1190 ts_45 tw_11 tw_1191 (by decide +kernel) (by decide) ⟨(Nat.zero_le _), (Nat.zero_le _)⟩ rfl hl.1 (Nat.le_of_ble_eq_true rfl) dX11_ratio_57 rfl (fun H locs hr hS => ?_)
          obtain ⟨rfl, rfl⟩ := Prod.mk.inj (Option.some.inj hs)
          exact hv_iret hx hb hrt hlk hr hS dX11_ratio_60
        · rw [if_neg c14] at hs
          refine lv_bipush (v := (-2)) hx hb dX11_ratio_38 (by decide) ?_
          refine lv_goto (tgt := 60) hx hb dX11_ratio_40 (by decide) ?_
          obtain ⟨rfl, rfl⟩ := Prod.mk.inj (Option.some.inj hs)
          exact hv_iret hx hb hrt hlk hr hS dX11_ratio_60
      · rw [if_pos c9] at hs
        refine lv_iconst (v := (-1)) hx hb dX11_ratio_24 (by decide) ?_
        obtain ⟨rfl, rfl⟩ := Prod.mk.inj (Option.some.inj hs)
        exact hv_iret hx hb hrt hlk hr hS dX11_ratio_25
theorem dX11_read_0 : decode cX11_read 0 = .ok (.aload_n 0, 1) := by decide +kernel
theorem dX11_read_1 : decode cX11_read 1 = .ok (.iload_n 1, 1) := by decide +kernel
theorem dX11_read_2 : decode cX11_read 2 = .ok (.invokevirtual 177, 3) := by decide +kernel
theorem dX11_read_5 : decode cX11_read 5 = .ok (.ifCond .eq 14, 3) := by decide +kernel
theorem dX11_read_8 : decode cX11_read 8 = .ok (.iload_n 2, 1) := by decide +kernel
theorem dX11_read_9 : decode cX11_read 9 = .ok (.iconst 2, 1) := by decide +kernel
theorem dX11_read_10 : decode cX11_read 10 = .ok (.if_icmp .lt 9, 3) := by decide +kernel
theorem dX11_read_13 : decode cX11_read 13 = .ok (.iload_n 2, 1) := by decide +kernel
theorem dX11_read_14 : decode cX11_read 14 = .ok (.bipush 36, 2) := by decide +kernel
theorem dX11_read_16 : decode cX11_read 16 = .ok (.if_icmp .le 5, 3) := by decide +kernel
theorem dX11_read_19 : decode cX11_read 19 = .ok (.iconst (-1), 1) := by decide +kernel
theorem dX11_read_20 : decode cX11_read 20 = .ok (.ireturn, 1) := by decide +kernel
theorem dX11_read_21 : decode cX11_read 21 = .ok (.aload_n 0, 1) := by decide +kernel
theorem dX11_read_22 : decode cX11_read 22 = .ok (.getfield 184, 3) := by decide +kernel
theorem dX11_read_25 : decode cX11_read 25 = .ok (.istore_n 3, 1) := by decide +kernel
theorem dX11_read_26 : decode cX11_read 26 = .ok (.aload_n 0, 1) := by decide +kernel
theorem dX11_read_27 : decode cX11_read 27 = .ok (.iconst 0, 1) := by decide +kernel
theorem dX11_read_28 : decode cX11_read 28 = .ok (.putfield 184, 3) := by decide +kernel
theorem dX11_read_31 : decode cX11_read 31 = .ok (.iload_n 3, 1) := by decide +kernel
theorem dX11_read_32 : decode cX11_read 32 = .ok (.ifCond .le 18, 3) := by decide +kernel
theorem dX11_read_35 : decode cX11_read 35 = .ok (.aload_n 0, 1) := by decide +kernel
theorem dX11_read_36 : decode cX11_read 36 = .ok (.getfield 151, 3) := by decide +kernel
theorem dX11_read_39 : decode cX11_read 39 = .ok (.iconst 0, 1) := by decide +kernel
theorem dX11_read_40 : decode cX11_read 40 = .ok (.baload, 1) := by decide +kernel
theorem dX11_read_41 : decode cX11_read 41 = .ok (.bipush 45, 2) := by decide +kernel
theorem dX11_read_43 : decode cX11_read 43 = .ok (.if_icmp .ne 7, 3) := by decide +kernel
theorem dX11_read_46 : decode cX11_read 46 = .ok (.iconst 1, 1) := by decide +kernel
theorem dX11_read_47 : decode cX11_read 47 = .ok (.goto 4, 3) := by decide +kernel
theorem dX11_read_50 : decode cX11_read 50 = .ok (.iconst 0, 1) := by decide +kernel
theorem dX11_read_51 : decode cX11_read 51 = .ok (.istore 4, 2) := by decide +kernel
theorem dX11_read_53 : decode cX11_read 53 = .ok (.iload 4, 2) := by decide +kernel
theorem dX11_read_55 : decode cX11_read 55 = .ok (.ifCond .eq 7, 3) := by decide +kernel
theorem dX11_read_58 : decode cX11_read 58 = .ok (.iconst 1, 1) := by decide +kernel
theorem dX11_read_59 : decode cX11_read 59 = .ok (.goto 4, 3) := by decide +kernel
theorem dX11_read_62 : decode cX11_read 62 = .ok (.iconst 0, 1) := by decide +kernel
theorem dX11_read_63 : decode cX11_read 63 = .ok (.istore 5, 2) := by decide +kernel
theorem dX11_read_65 : decode cX11_read 65 = .ok (.aload_n 0, 1) := by decide +kernel
theorem dX11_read_66 : decode cX11_read 66 = .ok (.aload_n 0, 1) := by decide +kernel
theorem dX11_read_67 : decode cX11_read 67 = .ok (.getfield 74, 3) := by decide +kernel
theorem dX11_read_70 : decode cX11_read 70 = .ok (.invokevirtual 34, 3) := by decide +kernel
theorem dX11_read_73 : decode cX11_read 73 = .ok (.astore 6, 2) := by decide +kernel
theorem dX11_read_75 : decode cX11_read 75 = .ok (.aload_n 0, 1) := by decide +kernel
theorem dX11_read_76 : decode cX11_read 76 = .ok (.iload_n 2, 1) := by decide +kernel
theorem dX11_read_77 : decode cX11_read 77 = .ok (.i2l, 1) := by decide +kernel
theorem dX11_read_78 : decode cX11_read 78 = .ok (.invokevirtual 87, 3) := by decide +kernel
theorem dX11_read_81 : decode cX11_read 81 = .ok (.astore 7, 2) := by decide +kernel
theorem dX11_read_83 : decode cX11_read 83 = .ok (.iload 5, 2) := by decide +kernel
theorem dX11_read_85 : decode cX11_read 85 = .ok (.iload_n 3, 1) := by decide +kernel
theorem dX11_read_86 : decode cX11_read 86 = .ok (.if_icmp .ne 8, 3) := by decide +kernel
theorem dX11_read_89 : decode cX11_read 89 = .ok (.bipush (-10), 2) := by decide +kernel
theorem dX11_read_91 : decode cX11_read 91 = .ok (.iload_n 3, 1) := by decide +kernel
theorem dX11_read_92 : decode cX11_read 92 = .ok (.isub, 1) := by decide +kernel
theorem dX11_read_93 : decode cX11_read 93 = .ok (.ireturn, 1) := by decide +kernel
theorem dX11_read_94 : decode cX11_read 94 = .ok (.aload_n 0, 1) := by decide +kernel
theorem dX11_read_95 : decode cX11_read 95 = .ok (.getfield 7, 3) := by decide +kernel
theorem dX11_read_98 : decode cX11_read 98 = .ok (.istore 8, 2) := by decide +kernel
theorem dX11_read_100 : decode cX11_read 100 = .ok (.iload 5, 2) := by decide +kernel
theorem dX11_read_102 : decode cX11_read 102 = .ok (.iload_n 3, 1) := by decide +kernel
theorem dX11_read_103 : decode cX11_read 103 = .ok (.if_icmp .ge 63, 3) := by decide +kernel
theorem dX11_read_106 : decode cX11_read 106 = .ok (.aload_n 0, 1) := by decide +kernel
theorem dX11_read_107 : decode cX11_read 107 = .ok (.getfield 151, 3) := by decide +kernel
theorem dX11_read_110 : decode cX11_read 110 = .ok (.iload 5, 2) := by decide +kernel
theorem dX11_read_112 : decode cX11_read 112 = .ok (.baload, 1) := by decide +kernel
theorem dX11_read_113 : decode cX11_read 113 = .ok (.invokestatic 187, 3) := by decide +kernel
theorem dX11_read_116 : decode cX11_read 116 = .ok (.istore 9, 2) := by decide +kernel
theorem dX11_read_118 : decode cX11_read 118 = .ok (.iload 9, 2) := by decide +kernel
theorem dX11_read_120 : decode cX11_read 120 = .ok (.iload_n 2, 1) := by decide +kernel
theorem dX11_read_121 : decode cX11_read 121 = .ok (.if_icmp .lt 9, 3) := by decide +kernel
theorem dX11_read_124 : decode cX11_read 124 = .ok (.bipush (-10), 2) := by decide +kernel
theorem dX11_read_126 : decode cX11_read 126 = .ok (.iload 5, 2) := by decide +kernel
theorem dX11_read_128 : decode cX11_read 128 = .ok (.isub, 1) := by decide +kernel
theorem dX11_read_129 : decode cX11_read 129 = .ok (.ireturn, 1) := by decide +kernel
theorem dX11_read_130 : decode cX11_read 130 = .ok (.aload 6, 2) := by decide +kernel
theorem dX11_read_132 : decode cX11_read 132 = .ok (.aload_n 0, 1) := by decide +kernel
theorem dX11_read_133 : decode cX11_read 133 = .ok (.aload_n 0, 1) := by decide +kernel
theorem dX11_read_134 : decode cX11_read 134 = .ok (.aload 6, 2) := by decide +kernel
theorem dX11_read_136 : decode cX11_read 136 = .ok (.aload 7, 2) := by decide +kernel
theorem dX11_read_138 : decode cX11_read 138 = .ok (.invokevirtual 122, 3) := by decide +kernel
theorem dX11_read_141 : decode cX11_read 141 = .ok (.aload_n 0, 1) := by decide +kernel
theorem dX11_read_142 : decode cX11_read 142 = .ok (.iload 9, 2) := by decide +kernel
theorem dX11_read_144 : decode cX11_read 144 = .ok (.i2l, 1) := by decide +kernel
theorem dX11_read_145 : decode cX11_read 145 = .ok (.invokevirtual 87, 3) := by decide +kernel
theorem dX11_read_148 : decode cX11_read 148 = .ok (.invokevirtual 116, 3) := by decide +kernel
theorem dX11_read_151 : decode cX11_read 151 = .ok (.invokevirtual 30, 3) := by decide +kernel
theorem dX11_read_154 : decode cX11_read 154 = .ok (.aload_n 0, 1) := by decide +kernel
theorem dX11_read_155 : decode cX11_read 155 = .ok (.iload 8, 2) := by decide +kernel
theorem dX11_read_157 : decode cX11_read 157 = .ok (.putfield 7, 3) := by decide +kernel
theorem dX11_read_160 : decode cX11_read 160 = .ok (.iinc 5 1, 3) := by decide +kernel
theorem dX11_read_163 : decode cX11_read 163 = .ok (.goto (-63), 3) := by decide +kernel
theorem dX11_read_166 : decode cX11_read 166 = .ok (.aload_n 0, 1) := by decide +kernel
theorem dX11_read_167 : decode cX11_read 167 = .ok (.iload_n 1, 1) := by decide +kernel
theorem dX11_read_168 : decode cX11_read 168 = .ok (.iload 4, 2) := by decide +kernel
theorem dX11_read_170 : decode cX11_read 170 = .ok (.ifCond .eq 12, 3) := by decide +kernel
theorem dX11_read_173 : decode cX11_read 173 = .ok (.aload_n 0, 1) := by decide +kernel
theorem dX11_read_174 : decode cX11_read 174 = .ok (.aload 6, 2) := by decide +kernel
theorem dX11_read_176 : decode cX11_read 176 = .ok (.invokevirtual 67, 3) := by decide +kernel
theorem dX11_read_179 : decode cX11_read 179 = .ok (.goto 5, 3) := by decide +kernel
theorem dX11_read_182 : decode cX11_read 182 = .ok (.aload 6, 2) := by decide +kernel
theorem dX11_read_184 : decode cX11_read 184 = .ok (.invokevirtual 180, 3) := by decide +kernel
theorem dX11_read_187 : decode cX11_read 187 = .ok (.ireturn, 1) := by decide +kernel
def zb_X11_read_100 (w0 : Nat) (w1 : Int32) (w2 : Int32) (w3 : Int32) (w4 : Int32) (w6 : Nat) (w7 : Nat) (w8 : Int32) (g19 : AH) (w5 : Int32) : Option ((AH × Int32) ⊕ ((AH × Int32) ⊕ AH)) :=
  (if w3 ≤ w5 then some (Sum.inr ((Sum.inr (g19)))) else (gR g19 w0 11 12).bind fun x21 => (aI g19 x21 2 w5).bind fun x22 => (zs_X11_digitOf g19 x22).bind fun x23 => (if x23 < w2 then (chk g19 w0 11).bind fun _ => (zs_X11_times g19 w0 w6 w7).bind fun x26 => (chk x26.2 w0 11).bind fun _ => (zs_X11_of x26.2 w0 x23.toInt64).bind fun x28 => (chk x28.2 w0 11).bind fun _ => (zs_X11_sum_ x28.2 w0 x26.1 x28.1).bind fun x30 => (chk x30.2 w6 10).bind fun _ => (zs_X10_become x30.2 w6 x30.1).bind fun g32 => (pV g32 w0 11 2 (.int w8)).bind fun g33 => some (Sum.inl ((g33, w5 + (1 : Int32)))) else some (Sum.inr ((Sum.inl ((g19, w5)))))))
def zj_X11_read_184 (g38 : AH) (t0_184 : Nat) (t1_184 : Int32) (t2_184 : Nat) : Option (Int32 × AH) :=
  (chk g38 t2_184 11).bind fun _ => (zs_X11_keep g38 t2_184 t1_184 t0_184).bind fun x40 => some (x40.1, x40.2)
def zj_X11_read_63 (g11 : AH) (y0_63 : Nat) (y1_63 : Int32) (y2_63 : Int32) (y3_63 : Int32) (y4_63 : Int32) (t0_63 : Int32) : Option (Int32 × AH) :=
  (gR g11 y0_63 11 3).bind fun x12 => (chk g11 y0_63 11).bind fun _ => (zs_X11_copy g11 y0_63 x12).bind fun x14 => (chk x14.2 y0_63 11).bind fun _ => (zs_X11_of x14.2 y0_63 y2_63.toInt64).bind fun x16 => (if t0_63 = y3_63 then some (((-10 : Int32)) - y3_63, x16.2) else (gI x16.2 y0_63 11 2).bind fun x18 => (iter (fun q : AH × Int32 => zb_X11_read_100 y0_63 y1_63 y2_63 y3_63 y4_63 x14.1 x16.1 x18 q.1 q.2) FU ((x16.2, t0_63))).bind fun r34 => (match r34 with | .inl r35 => some (((-10 : Int32)) - r35.2, r35.1) | .inr r36 => (if y4_63 = 0 then zj_X11_read_184 r36 x14.1 y1_63 y0_63 else (chk r36 y0_63 11).bind fun _ => (zs_X11_negative r36 y0_63 x14.1).bind fun x42 => zj_X11_read_184 x42.2 x42.1 y1_63 y0_63)))
def zj_X11_read_51 (g9 : AH) (y0_51 : Nat) (y1_51 : Int32) (y2_51 : Int32) (y3_51 : Int32) (t0_51 : Int32) : Option (Int32 × AH) :=
  (if t0_51 = 0 then zj_X11_read_63 g9 y0_51 y1_51 y2_51 y3_51 t0_51 ((0 : Int32)) else zj_X11_read_63 g9 y0_51 y1_51 y2_51 y3_51 t0_51 ((1 : Int32)))
def zs_X11_read (h : AH) (u0 : Nat) (u1 : Int32) (u2 : Int32) : Option (Int32 × AH) :=
  (chk h u0 11).bind fun _ => (zs_X11_isSlot h u0 u1).bind fun x2 => (if x2.1 = 0 then some ((-1 : Int32), x2.2) else (if u2 < (2 : Int32) then some ((-1 : Int32), x2.2) else (if u2 ≤ (36 : Int32) then (gI x2.2 u0 11 13).bind fun x6 => (pV x2.2 u0 11 13 (.int ((0 : Int32)))).bind fun g7 => (if x6 ≤ 0 then zj_X11_read_51 g7 u0 u1 u2 x6 ((0 : Int32)) else (gR g7 u0 11 12).bind fun x43 => (aI g7 x43 2 ((0 : Int32))).bind fun x44 => (if x44 = (45 : Int32) then zj_X11_read_51 g7 u0 u1 u2 x6 ((1 : Int32)) else zj_X11_read_51 g7 u0 u1 u2 x6 ((0 : Int32)))) else some ((-1 : Int32), x2.2))))
set_option maxRecDepth 100000 in
set_option maxHeartbeats 4000000 in
theorem zm_X11_read (l : Launch) (D : hG) (z : Nat) {h : AH} {u0 : Nat} {u1 : Int32} {u2 : Int32} {r : Int32} {h' : AH} (hs : zs_X11_read h u0 u1 u2 = some (r, h')) : hC l D z yX11_read cX11_read 10 (Option.some Jvm.ClassFile.FieldType.int) 4 113 0 0 [.ref u0, .int u1, .int u2] h h' (some (.int r)) := by
  refine hC_of (by decide) (Nat.le_of_ble_eq_true rfl) ?_
  intro p e s m below meth c hx hb hml hrt hlk hown hnm hts hk hr hz ls hl
  replace hown : s.vm.findClass RX11 = some m.cls := hown
  replace hl : lv_has ls 10 [(0, .ref u0), (1, .int u1), (2, .int u2)] := hl
  have hS : va_S (hA z) s.heap s.heap [] := va_S.rf
  suffices hgo : ∀ (H : Heap) (locs : List Loc), hR D z h H → va_S (hA z) s.heap H locs → W p l e ({ frames := 4, cells := 0, slots := 0, locals := 113 } : Room) s m ([.ref u0, .int u1, .int u2] : List Value).toArray below meth c H locs 0 0 (MQ below (hQ D z h' (some (.int r))) ([.ref u0, .int u1, .int u2] : List Value).toArray s 0 0 (hA z)) (F0 m 0 ls []) from hgo _ _ hr hS
  clear hr hS
  intro H locs hr hS
  have hJ184 : ∀ (g38 : AH) (t0_184 : Nat) (t1_184 : Int32) (t2_184 : Nat) (H : Heap) (locs : List Loc) (ls : Array Slot), zj_X11_read_184 g38 t0_184 t1_184 t2_184 = some (r, h') → hR D z g38 H → va_S (hA z) s.heap H locs → lv_has ls 10 [] → W p l e ({ frames := 4, cells := 0, slots := 0, locals := 113 } : Room) s m ([.ref u0, .int u1, .int u2] : List Value).toArray below meth c H locs 0 0 (MQ below (hQ D z h' (some (.int r))) ([.ref u0, .int u1, .int u2] : List Value).toArray s 0 0 (hA z)) (F0 m 184 ls [.ref t0_184, .int t1_184, .ref t2_184]) := by
    intro g38 t0_184 t1_184 t2_184 H locs ls hs hr hS hl
    unfold zj_X11_read_184 at hs
    obtain ⟨_, ex39, hs⟩ := bi_inv hs
    obtain ⟨x40, ex40, hs⟩ := bi_inv hs
    refine hv_V1 (n := 2) [.int t1_184, .ref t0_184] [] hx hb hml hown hts hk hr hz hS (zm_X11_keep l D z ex40) ex39 rfl tw_973 tw_975 ts_24 tw_11 tw_976 (by decide +kernel) (by decide) ⟨(Nat.zero_le _), (Nat.zero_le _)⟩ rfl hl.1 (Nat.le_of_ble_eq_true rfl) dX11_read_184 rfl (fun H locs hr hS => ?_)
    obtain ⟨rfl, rfl⟩ := Prod.mk.inj (Option.some.inj hs)
    exact hv_iret hx hb hrt hlk hr hS dX11_read_187
  have hJ63 : ∀ (g11 : AH) (y0_63 : Nat) (y1_63 : Int32) (y2_63 : Int32) (y3_63 : Int32) (y4_63 : Int32) (t0_63 : Int32) (H : Heap) (locs : List Loc) (ls : Array Slot), zj_X11_read_63 g11 y0_63 y1_63 y2_63 y3_63 y4_63 t0_63 = some (r, h') → hR D z g11 H → va_S (hA z) s.heap H locs → lv_has ls 10 [(0, .ref y0_63), (1, .int y1_63), (2, .int y2_63), (3, .int y3_63), (4, .int y4_63)] → W p l e ({ frames := 4, cells := 0, slots := 0, locals := 113 } : Room) s m ([.ref u0, .int u1, .int u2] : List Value).toArray below meth c H locs 0 0 (MQ below (hQ D z h' (some (.int r))) ([.ref u0, .int u1, .int u2] : List Value).toArray s 0 0 (hA z)) (F0 m 63 ls [.int t0_63]) := by
    intro g11 y0_63 y1_63 y2_63 y3_63 y4_63 t0_63 H locs ls hs hr hS hl
    unfold zj_X11_read_63 at hs
    refine lv_istore (lv' := [(5, .int t0_63), (0, .ref y0_63), (1, .int y1_63), (2, .int y2_63), (3, .int y3_63), (4, .int y4_63)]) hx hb dX11_read_63 hl (by decide) rfl (fun ls hl => ?_)
    refine lv_aload_n hx hb dX11_read_65 rfl (lv_at hl 1 rfl) ?_
    refine lv_aload_n hx hb dX11_read_66 rfl (lv_at hl 1 rfl) ?_
    obtain ⟨x12, ex12, hs⟩ := bi_inv hs
    refine hv_gR (C := RX11) (T := TX11) (N := 23) (ci := 11) hx hb hts inX11 hown hk hr rfl 3 (by decide) (hts _ tw_885) ex12 dX11_read_67 ?_
    obtain ⟨_, ex13, hs⟩ := bi_inv hs
    obtain ⟨x14, ex14, hs⟩ := bi_inv hs
    refine hv_V1 (n := 1) [.ref x12] [] hx hb hml hown hts hk hr hz hS (zm_X11_copy l D z ex14) ex13 rfl tw_996 tw_998 ts_25 tw_11 tw_999 (by decide +kernel) (by decide) ⟨(Nat.zero_le _), (Nat.zero_le _)⟩ rfl hl.1 (Nat.le_of_ble_eq_true rfl) dX11_read_70 rfl (fun H locs hr hS => ?_)
    refine lv_astore (lv' := [(6, .ref x14.1), (5, .int t0_63), (0, .ref y0_63), (1, .int y1_63), (2, .int y2_63), (3, .int y3_63), (4, .int y4_63)]) hx hb dX11_read_73 hl (by decide) rfl (fun ls hl => ?_)
    refine lv_aload_n hx hb dX11_read_75 rfl (lv_at hl 2 rfl) ?_
    refine lv_iload_n hx hb dX11_read_76 rfl (lv_at hl 4 rfl) ?_
    refine lv_i2l hx hb dX11_read_77 rfl ?_
    obtain ⟨_, ex15, hs⟩ := bi_inv hs
    obtain ⟨x16, ex16, hs⟩ := bi_inv hs
    refine hv_V1 (n := 1) [.long y2_63.toInt64] [] hx hb hml hown hts hk hr hz hS (zm_X11_of l D z ex16) ex15 rfl tw_960 tw_962 ts_22 tw_11 tw_963 (by decide +kernel) (by decide) ⟨(Nat.zero_le _), (Nat.zero_le _)⟩ rfl hl.1 (Nat.le_of_ble_eq_true rfl) dX11_read_78 rfl (fun H locs hr hS => ?_)
    refine lv_astore (lv' := [(7, .ref x16.1), (6, .ref x14.1), (5, .int t0_63), (0, .ref y0_63), (1, .int y1_63), (2, .int y2_63), (3, .int y3_63), (4, .int y4_63)]) hx hb dX11_read_81 hl (by decide) rfl (fun ls hl => ?_)
    refine lv_iload hx hb dX11_read_83 (lv_at hl 2 rfl) ?_
    refine lv_iload_n hx hb dX11_read_85 rfl (lv_at hl 6 rfl) ?_
    refine lv_icmp_ne (tgt := 94) hx hb dX11_read_86 (by decide) (fun c17 => ?_) (fun c17 => ?_)
    · rw [if_neg c17] at hs
      refine lv_aload_n hx hb dX11_read_94 rfl (lv_at hl 3 rfl) ?_
      obtain ⟨x18, ex18, hs⟩ := bi_inv hs
      refine hv_gI (C := RX11) (T := TX11) (N := 23) (ci := 11) hx hb hts inX11 hown hk hr rfl 2 (by decide) (hts _ tw_884) ex18 dX11_read_95 ?_
      refine lv_istore (lv' := [(8, .int x18), (7, .ref x16.1), (6, .ref x14.1), (5, .int t0_63), (0, .ref y0_63), (1, .int y1_63), (2, .int y2_63), (3, .int y3_63), (4, .int y4_63)]) hx hb dX11_read_98 hl (by decide) rfl (fun ls hl => ?_)
      obtain ⟨r34, er34, hs⟩ := bi_inv hs
      refine iter_W (fun (q : AH × Int32) => ∀ (H : Heap) (locs : List Loc) (ls : Array Slot), hR D z q.1 H → va_S (hA z) s.heap H locs → lv_has ls 10 [(0, .ref y0_63), (1, .int y1_63), (2, .int y2_63), (3, .int y3_63), (4, .int y4_63), (6, .ref x14.1), (7, .ref x16.1), (8, .int x18), (5, .int q.2)] → W p l e ({ frames := 4, cells := 0, slots := 0, locals := 113 } : Room) s m ([.ref u0, .int u1, .int u2] : List Value).toArray below meth c H locs 0 0 (MQ below (hQ D z h' (some (.int r))) ([.ref u0, .int u1, .int u2] : List Value).toArray s 0 0 (hA z)) (F0 m 100 ls [])) (fun (x : (AH × Int32) ⊕ AH) => (Sum.elim (fun x => ∀ (H : Heap) (locs : List Loc) (ls : Array Slot), hR D z x.1 H → va_S (hA z) s.heap H locs → lv_has ls 10 [(5, .int x.2)] → W p l e ({ frames := 4, cells := 0, slots := 0, locals := 113 } : Room) s m ([.ref u0, .int u1, .int u2] : List Value).toArray below meth c H locs 0 0 (MQ below (hQ D z h' (some (.int r))) ([.ref u0, .int u1, .int u2] : List Value).toArray s 0 0 (hA z)) (F0 m 124 ls [])) (fun x => ∀ (H : Heap) (locs : List Loc) (ls : Array Slot), hR D z x H → va_S (hA z) s.heap H locs → lv_has ls 10 [(0, .ref y0_63), (1, .int y1_63), (4, .int y4_63), (6, .ref x14.1)] → W p l e ({ frames := 4, cells := 0, slots := 0, locals := 113 } : Room) s m ([.ref u0, .int u1, .int u2] : List Value).toArray below meth c H locs 0 0 (MQ below (hQ D z h' (some (.int r))) ([.ref u0, .int u1, .int u2] : List Value).toArray s 0 0 (hA z)) (F0 m 166 ls []))) x) ?_ FU _ r34 er34 ?_ H locs ls hr hS (lv_sub hl [4, 5, 6, 7, 8, 2, 1, 0, 3] rfl)
      · intro q o hs hcont hexit
        obtain ⟨g19, w5⟩ := q
        replace hs : zb_X11_read_100 y0_63 y1_63 y2_63 y3_63 y4_63 x14.1 x16.1 x18 g19 w5 = some o := hs
        intro H locs ls hr hS hl
        unfold zb_X11_read_100 at hs
        refine lv_iload hx hb dX11_read_100 (lv_at hl 8 rfl) ?_
        refine lv_iload_n hx hb dX11_read_102 rfl (lv_at hl 3 rfl) ?_
        refine lv_icmp_ge (tgt := 166) hx hb dX11_read_103 (by decide) (fun c20 => ?_) (fun c20 => ?_)
        · rw [if_pos c20] at hs
          obtain rfl := Option.some.inj hs
          exact hexit _ rfl H locs ls hr hS (lv_sub hl [0, 1, 4, 5] rfl)
        · rw [if_neg c20] at hs
          refine lv_aload_n hx hb dX11_read_106 rfl (lv_at hl 0 rfl) ?_
          obtain ⟨x21, ex21, hs⟩ := bi_inv hs
          refine hv_gR (C := RX11) (T := TX11) (N := 23) (ci := 11) hx hb hts inX11 hown hk hr rfl 12 (by decide) (hts _ tw_894) ex21 dX11_read_107 ?_
          refine lv_iload hx hb dX11_read_110 (lv_at hl 8 rfl) ?_
          obtain ⟨x22, ex22, hs⟩ := bi_inv hs
          refine hv_aB hx hb hk hr ex22 dX11_read_112 ?_
          obtain ⟨x23, ex23, hs⟩ := bi_inv hs
          refine hv_S1 (n := 1) [.int x22] [] hx hb hml hown hts hk hr hz hS (zm_X11_digitOf l D z ex23) tw_1000 tw_1001 tw_11 tw_1002 (by decide +kernel) (by decide) ⟨(Nat.zero_le _), (Nat.zero_le _)⟩ rfl hl.1 (Nat.le_of_ble_eq_true rfl) dX11_read_113 rfl (fun H locs hr hS => ?_)
          refine lv_istore (lv' := [(9, .int x23), (0, .ref y0_63), (1, .int y1_63), (2, .int y2_63), (3, .int y3_63), (4, .int y4_63), (6, .ref x14.1), (7, .ref x16.1), (8, .int x18), (5, .int w5)]) hx hb dX11_read_116 hl (by decide) rfl (fun ls hl => ?_)
          refine lv_iload hx hb dX11_read_118 (lv_at hl 0 rfl) ?_
          refine lv_iload_n hx hb dX11_read_120 rfl (lv_at hl 3 rfl) ?_
          refine lv_icmp_lt (tgt := 130) hx hb dX11_read_121 (by decide) (fun c24 => ?_) (fun c24 => ?_)
          · rw [if_pos c24] at hs
            refine lv_aload hx hb dX11_read_130 (lv_at hl 6 rfl) ?_
            refine lv_aload_n hx hb dX11_read_132 rfl (lv_at hl 1 rfl) ?_
            refine lv_aload_n hx hb dX11_read_133 rfl (lv_at hl 1 rfl) ?_
            refine lv_aload hx hb dX11_read_134 (lv_at hl 6 rfl) ?_
            refine lv_aload hx hb dX11_read_136 (lv_at hl 7 rfl) ?_
            obtain ⟨_, ex25, hs⟩ := bi_inv hs
            obtain ⟨x26, ex26, hs⟩ := bi_inv hs
            refine hv_V1 (n := 2) [.ref x14.1, .ref x16.1] [.ref y0_63, .ref x14.1] hx hb hml hown hts hk hr hz hS (zm_X11_times l D z ex26) ex25 rfl tw_1003 tw_1005 ts_26 tw_11 tw_1006 (by decide +kernel) (by decide) ⟨(Nat.zero_le _), (Nat.zero_le _)⟩ rfl hl.1 (Nat.le_of_ble_eq_true rfl) dX11_read_138 rfl (fun H locs hr hS => ?_)
            refine lv_aload_n hx hb dX11_read_141 rfl (lv_at hl 1 rfl) ?_
            refine lv_iload hx hb dX11_read_142 (lv_at hl 0 rfl) ?_
            refine lv_i2l hx hb dX11_read_144 rfl ?_
            obtain ⟨_, ex27, hs⟩ := bi_inv hs
            obtain ⟨x28, ex28, hs⟩ := bi_inv hs
            refine hv_V1 (n := 1) [.long x23.toInt64] [.ref x26.1, .ref y0_63, .ref x14.1] hx hb hml hown hts hk hr hz hS (zm_X11_of l D z ex28) ex27 rfl tw_960 tw_962 ts_22 tw_11 tw_963 (by decide +kernel) (by decide) ⟨(Nat.zero_le _), (Nat.zero_le _)⟩ rfl hl.1 (Nat.le_of_ble_eq_true rfl) dX11_read_145 rfl (fun H locs hr hS => ?_)
            obtain ⟨_, ex29, hs⟩ := bi_inv hs
            obtain ⟨x30, ex30, hs⟩ := bi_inv hs
            refine hv_V1 (n := 2) [.ref x26.1, .ref x28.1] [.ref x14.1] hx hb hml hown hts hk hr hz hS (zm_X11_sum_ l D z ex30) ex29 rfl tw_1007 tw_1009 ts_27 tw_11 tw_1010 (by decide +kernel) (by decide) ⟨(Nat.zero_le _), (Nat.zero_le _)⟩ rfl hl.1 (Nat.le_of_ble_eq_true rfl) dX11_read_148 rfl (fun H locs hr hS => ?_)
            obtain ⟨_, ex31, hs⟩ := bi_inv hs
            obtain ⟨g32, eg32, hs⟩ := bi_inv hs
            refine hv_V0 (n := 1) [.ref x30.1] [] hx hb hml hown hts hk hr hz hS (zm_X10_become l D z eg32) ex31 rfl tw_875 tw_876 tw_877 tw_12 tw_878 (by decide +kernel) (by decide) ⟨(Nat.zero_le _), (Nat.zero_le _)⟩ rfl hl.1 (Nat.le_of_ble_eq_true rfl) dX11_read_151 rfl (fun H locs hr hS => ?_)
            refine lv_aload_n hx hb dX11_read_154 rfl (lv_at hl 1 rfl) ?_
            refine lv_iload hx hb dX11_read_155 (lv_at hl 8 rfl) ?_
            obtain ⟨g33, eg33, hs⟩ := bi_inv hs
            refine hv_pV (C := RX11) (T := TX11) (N := 23) (ci := 11) hx hb hts inX11 tyX11 tyX11_ok nmX11 hown hk hr hS rfl 2 (by decide) (hts _ tw_884) rfl rfl rfl eg33 dX11_read_157 (fun H locs hr hS => ?_)
            refine lv_iinc (v := w5 + (1 : Int32)) (lv' := [(5, .int (w5 + (1 : Int32))), (9, .int x23), (0, .ref y0_63), (1, .int y1_63), (2, .int y2_63), (3, .int y3_63), (4, .int y4_63), (6, .ref x14.1), (7, .ref x16.1), (8, .int x18)]) hx hb dX11_read_160 hl (k := 9) rfl (ii_v _ (by decide)) (by decide) rfl (fun ls hl => ?_)
            refine lv_goto (tgt := 100) hx hb dX11_read_163 (by decide) ?_
            obtain rfl := Option.some.inj hs
            exact hcont _ rfl H locs ls hr hS (lv_sub hl [2, 3, 4, 5, 6, 7, 8, 9, 0] rfl)
          · rw [if_neg c24] at hs
            obtain rfl := Option.some.inj hs
            exact hexit _ rfl H locs ls hr hS (lv_sub hl [9] rfl)
      · cases r34 with
        | inl r35 =>
          intro H locs ls hr hS hl
          replace hs := hs
          dsimp only at hs
          refine lv_bipush (v := (-10)) hx hb dX11_read_124 (by decide) ?_
          refine lv_iload hx hb dX11_read_126 (lv_at hl 0 rfl) ?_
          refine lv_isub hx hb dX11_read_128 ?_
          obtain ⟨rfl, rfl⟩ := Prod.mk.inj (Option.some.inj hs)
          exact hv_iret hx hb hrt hlk hr hS dX11_read_129
        | inr r36 =>
          dsimp only at hs
          intro H locs ls hr hS hl
          refine lv_aload_n hx hb dX11_read_166 rfl (lv_at hl 0 rfl) ?_
          refine lv_iload_n hx hb dX11_read_167 rfl (lv_at hl 1 rfl) ?_
          refine lv_iload hx hb dX11_read_168 (lv_at hl 2 rfl) ?_
          refine lv_if_eq (tgt := 182) hx hb dX11_read_170 (by decide) (fun c37 => ?_) (fun c37 => ?_)
          · rw [if_pos c37] at hs
            refine lv_aload hx hb dX11_read_182 (lv_at hl 3 rfl) ?_
            exact hJ184 r36 x14.1 y1_63 y0_63 H locs ls hs hr hS (lv_sub hl [] rfl)
          · rw [if_neg c37] at hs
            refine lv_aload_n hx hb dX11_read_173 rfl (lv_at hl 0 rfl) ?_
            refine lv_aload hx hb dX11_read_174 (lv_at hl 3 rfl) ?_
            obtain ⟨_, ex41, hs⟩ := bi_inv hs
            obtain ⟨x42, ex42, hs⟩ := bi_inv hs
            refine hv_V1 (n := 1) [.ref x14.1] [.int y1_63, .ref y0_63] hx hb hml hown hts hk hr hz hS (zm_X11_negative l D z ex42) ex41 rfl tw_1028 tw_1030 ts_30 tw_11 tw_1031 (by decide +kernel) (by decide) ⟨(Nat.zero_le _), (Nat.zero_le _)⟩ rfl hl.1 (Nat.le_of_ble_eq_true rfl) dX11_read_176 rfl (fun H locs hr hS => ?_)
            refine lv_goto (tgt := 184) hx hb dX11_read_179 (by decide) ?_
            exact hJ184 x42.2 x42.1 y1_63 y0_63 H locs ls hs hr hS (lv_sub hl [] rfl)
    · rw [if_pos c17] at hs
      refine lv_bipush (v := (-10)) hx hb dX11_read_89 (by decide) ?_
      refine lv_iload_n hx hb dX11_read_91 rfl (lv_at hl 6 rfl) ?_
      refine lv_isub hx hb dX11_read_92 ?_
      obtain ⟨rfl, rfl⟩ := Prod.mk.inj (Option.some.inj hs)
      exact hv_iret hx hb hrt hlk hr hS dX11_read_93
  have hJ51 : ∀ (g9 : AH) (y0_51 : Nat) (y1_51 : Int32) (y2_51 : Int32) (y3_51 : Int32) (t0_51 : Int32) (H : Heap) (locs : List Loc) (ls : Array Slot), zj_X11_read_51 g9 y0_51 y1_51 y2_51 y3_51 t0_51 = some (r, h') → hR D z g9 H → va_S (hA z) s.heap H locs → lv_has ls 10 [(0, .ref y0_51), (1, .int y1_51), (2, .int y2_51), (3, .int y3_51)] → W p l e ({ frames := 4, cells := 0, slots := 0, locals := 113 } : Room) s m ([.ref u0, .int u1, .int u2] : List Value).toArray below meth c H locs 0 0 (MQ below (hQ D z h' (some (.int r))) ([.ref u0, .int u1, .int u2] : List Value).toArray s 0 0 (hA z)) (F0 m 51 ls [.int t0_51]) := by
    intro g9 y0_51 y1_51 y2_51 y3_51 t0_51 H locs ls hs hr hS hl
    unfold zj_X11_read_51 at hs
    refine lv_istore (lv' := [(4, .int t0_51), (0, .ref y0_51), (1, .int y1_51), (2, .int y2_51), (3, .int y3_51)]) hx hb dX11_read_51 hl (by decide) rfl (fun ls hl => ?_)
    refine lv_iload hx hb dX11_read_53 (lv_at hl 0 rfl) ?_
    refine lv_if_eq (tgt := 62) hx hb dX11_read_55 (by decide) (fun c10 => ?_) (fun c10 => ?_)
    · rw [if_pos c10] at hs
      refine lv_iconst (v := 0) hx hb dX11_read_62 (by decide) ?_
      exact hJ63 g9 y0_51 y1_51 y2_51 y3_51 t0_51 ((0 : Int32)) H locs ls hs hr hS (lv_sub hl [1, 2, 3, 4, 0] rfl)
    · rw [if_neg c10] at hs
      refine lv_iconst (v := 1) hx hb dX11_read_58 (by decide) ?_
      refine lv_goto (tgt := 63) hx hb dX11_read_59 (by decide) ?_
      exact hJ63 g9 y0_51 y1_51 y2_51 y3_51 t0_51 ((1 : Int32)) H locs ls hs hr hS (lv_sub hl [1, 2, 3, 4, 0] rfl)
  unfold zs_X11_read at hs
  refine lv_aload_n hx hb dX11_read_0 rfl (lv_at hl 0 rfl) ?_
  refine lv_iload_n hx hb dX11_read_1 rfl (lv_at hl 1 rfl) ?_
  obtain ⟨_, ex1, hs⟩ := bi_inv hs
  obtain ⟨x2, ex2, hs⟩ := bi_inv hs
  refine hv_V1 (n := 1) [.int u1] [] hx hb hml hown hts hk hr hz hS (zm_X11_isSlot l D z ex2) ex1 rfl tw_956 tw_958 ts_21 tw_11 tw_959 (by decide +kernel) (by decide) ⟨(Nat.zero_le _), (Nat.zero_le _)⟩ rfl hl.1 (Nat.le_of_ble_eq_true rfl) dX11_read_2 rfl (fun H locs hr hS => ?_)
  refine lv_if_eq (tgt := 19) hx hb dX11_read_5 (by decide) (fun c3 => ?_) (fun c3 => ?_)
  · rw [if_pos c3] at hs
    refine lv_iconst (v := (-1)) hx hb dX11_read_19 (by decide) ?_
    obtain ⟨rfl, rfl⟩ := Prod.mk.inj (Option.some.inj hs)
    exact hv_iret hx hb hrt hlk hr hS dX11_read_20
  · rw [if_neg c3] at hs
    refine lv_iload_n hx hb dX11_read_8 rfl (lv_at hl 2 rfl) ?_
    refine lv_iconst (v := 2) hx hb dX11_read_9 (by decide) ?_
    refine lv_icmp_lt (tgt := 19) hx hb dX11_read_10 (by decide) (fun c4 => ?_) (fun c4 => ?_)
    · rw [if_pos c4] at hs
      refine lv_iconst (v := (-1)) hx hb dX11_read_19 (by decide) ?_
      obtain ⟨rfl, rfl⟩ := Prod.mk.inj (Option.some.inj hs)
      exact hv_iret hx hb hrt hlk hr hS dX11_read_20
    · rw [if_neg c4] at hs
      refine lv_iload_n hx hb dX11_read_13 rfl (lv_at hl 2 rfl) ?_
      refine lv_bipush (v := 36) hx hb dX11_read_14 (by decide) ?_
      refine lv_icmp_le (tgt := 21) hx hb dX11_read_16 (by decide) (fun c5 => ?_) (fun c5 => ?_)
      · rw [if_pos c5] at hs
        refine lv_aload_n hx hb dX11_read_21 rfl (lv_at hl 0 rfl) ?_
        obtain ⟨x6, ex6, hs⟩ := bi_inv hs
        refine hv_gI (C := RX11) (T := TX11) (N := 23) (ci := 11) hx hb hts inX11 hown hk hr rfl 13 (by decide) (hts _ tw_895) ex6 dX11_read_22 ?_
        refine lv_istore_n (lv' := [(3, .int x6), (0, .ref u0), (1, .int u1), (2, .int u2)]) hx hb dX11_read_25 rfl hl (by decide) rfl (fun ls hl => ?_)
        refine lv_aload_n hx hb dX11_read_26 rfl (lv_at hl 1 rfl) ?_
        refine lv_iconst (v := 0) hx hb dX11_read_27 (by decide) ?_
        obtain ⟨g7, eg7, hs⟩ := bi_inv hs
        refine hv_pV (C := RX11) (T := TX11) (N := 23) (ci := 11) hx hb hts inX11 tyX11 tyX11_ok nmX11 hown hk hr hS rfl 13 (by decide) (hts _ tw_895) rfl rfl rfl eg7 dX11_read_28 (fun H locs hr hS => ?_)
        refine lv_iload_n hx hb dX11_read_31 rfl (lv_at hl 0 rfl) ?_
        refine lv_if_le (tgt := 50) hx hb dX11_read_32 (by decide) (fun c8 => ?_) (fun c8 => ?_)
        · rw [if_pos c8] at hs
          refine lv_iconst (v := 0) hx hb dX11_read_50 (by decide) ?_
          exact hJ51 g7 u0 u1 u2 x6 ((0 : Int32)) H locs ls hs hr hS (lv_sub hl [1, 2, 3, 0] rfl)
        · rw [if_neg c8] at hs
          refine lv_aload_n hx hb dX11_read_35 rfl (lv_at hl 1 rfl) ?_
          obtain ⟨x43, ex43, hs⟩ := bi_inv hs
          refine hv_gR (C := RX11) (T := TX11) (N := 23) (ci := 11) hx hb hts inX11 hown hk hr rfl 12 (by decide) (hts _ tw_894) ex43 dX11_read_36 ?_
          refine lv_iconst (v := 0) hx hb dX11_read_39 (by decide) ?_
          obtain ⟨x44, ex44, hs⟩ := bi_inv hs
          refine hv_aB hx hb hk hr ex44 dX11_read_40 ?_
          refine lv_bipush (v := 45) hx hb dX11_read_41 (by decide) ?_
          refine lv_icmp_ne (tgt := 50) hx hb dX11_read_43 (by decide) (fun c45 => ?_) (fun c45 => ?_)
          · rw [if_neg c45] at hs
            refine lv_iconst (v := 0) hx hb dX11_read_50 (by decide) ?_
            exact hJ51 g7 u0 u1 u2 x6 ((0 : Int32)) H locs ls hs hr hS (lv_sub hl [1, 2, 3, 0] rfl)
          · rw [if_pos c45] at hs
            refine lv_iconst (v := 1) hx hb dX11_read_46 (by decide) ?_
            refine lv_goto (tgt := 51) hx hb dX11_read_47 (by decide) ?_
            exact hJ51 g7 u0 u1 u2 x6 ((1 : Int32)) H locs ls hs hr hS (lv_sub hl [1, 2, 3, 0] rfl)
      · rw [if_neg c5] at hs
        refine lv_iconst (v := (-1)) hx hb dX11_read_19 (by decide) ?_
        obtain ⟨rfl, rfl⟩ := Prod.mk.inj (Option.some.inj hs)
        exact hv_iret hx hb hrt hlk hr hS dX11_read_20
theorem dX11_rest_0 : decode cX11_rest 0 = .ok (.aload_n 0, 1) := by decide +kernel
theorem dX11_rest_1 : decode cX11_rest 1 = .ok (.iload_n 1, 1) := by decide +kernel
theorem dX11_rest_2 : decode cX11_rest 2 = .ok (.invokevirtual 177, 3) := by decide +kernel
theorem dX11_rest_5 : decode cX11_rest 5 = .ok (.ifCond .eq 30, 3) := by decide +kernel
theorem dX11_rest_8 : decode cX11_rest 8 = .ok (.aload_n 0, 1) := by decide +kernel
theorem dX11_rest_9 : decode cX11_rest 9 = .ok (.iload_n 3, 1) := by decide +kernel
theorem dX11_rest_10 : decode cX11_rest 10 = .ok (.invokevirtual 177, 3) := by decide +kernel
theorem dX11_rest_13 : decode cX11_rest 13 = .ok (.ifCond .eq 22, 3) := by decide +kernel
theorem dX11_rest_16 : decode cX11_rest 16 = .ok (.aload_n 0, 1) := by decide +kernel
theorem dX11_rest_17 : decode cX11_rest 17 = .ok (.iload 4, 2) := by decide +kernel
theorem dX11_rest_19 : decode cX11_rest 19 = .ok (.invokevirtual 177, 3) := by decide +kernel
theorem dX11_rest_22 : decode cX11_rest 22 = .ok (.ifCond .eq 13, 3) := by decide +kernel
theorem dX11_rest_25 : decode cX11_rest 25 = .ok (.iload_n 2, 1) := by decide +kernel
theorem dX11_rest_26 : decode cX11_rest 26 = .ok (.ifCond .lt 9, 3) := by decide +kernel
theorem dX11_rest_29 : decode cX11_rest 29 = .ok (.iload_n 2, 1) := by decide +kernel
theorem dX11_rest_30 : decode cX11_rest 30 = .ok (.ldc 217, 2) := by decide +kernel
theorem dX11_rest_32 : decode cX11_rest 32 = .ok (.if_icmp .le 5, 3) := by decide +kernel
theorem dX11_rest_35 : decode cX11_rest 35 = .ok (.iconst (-1), 1) := by decide +kernel
theorem dX11_rest_36 : decode cX11_rest 36 = .ok (.ireturn, 1) := by decide +kernel
theorem dX11_rest_37 : decode cX11_rest 37 = .ok (.aload_n 0, 1) := by decide +kernel
theorem dX11_rest_38 : decode cX11_rest 38 = .ok (.getfield 142, 3) := by decide +kernel
theorem dX11_rest_41 : decode cX11_rest 41 = .ok (.iload_n 3, 1) := by decide +kernel
theorem dX11_rest_42 : decode cX11_rest 42 = .ok (.aaload, 1) := by decide +kernel
theorem dX11_rest_43 : decode cX11_rest 43 = .ok (.astore 5, 2) := by decide +kernel
theorem dX11_rest_45 : decode cX11_rest 45 = .ok (.aload_n 0, 1) := by decide +kernel
theorem dX11_rest_46 : decode cX11_rest 46 = .ok (.aload 5, 2) := by decide +kernel
theorem dX11_rest_48 : decode cX11_rest 48 = .ok (.invokevirtual 218, 3) := by decide +kernel
theorem dX11_rest_51 : decode cX11_rest 51 = .ok (.istore 6, 2) := by decide +kernel
theorem dX11_rest_53 : decode cX11_rest 53 = .ok (.iload 6, 2) := by decide +kernel
theorem dX11_rest_55 : decode cX11_rest 55 = .ok (.ifCond .ge 6, 3) := by decide +kernel
theorem dX11_rest_58 : decode cX11_rest 58 = .ok (.iload 6, 2) := by decide +kernel
theorem dX11_rest_60 : decode cX11_rest 60 = .ok (.ireturn, 1) := by decide +kernel
theorem dX11_rest_61 : decode cX11_rest 61 = .ok (.aload_n 0, 1) := by decide +kernel
theorem dX11_rest_62 : decode cX11_rest 62 = .ok (.iconst 2, 1) := by decide +kernel
theorem dX11_rest_63 : decode cX11_rest 63 = .ok (.aload_n 0, 1) := by decide +kernel
theorem dX11_rest_64 : decode cX11_rest 64 = .ok (.getfield 142, 3) := by decide +kernel
theorem dX11_rest_67 : decode cX11_rest 67 = .ok (.iload_n 1, 1) := by decide +kernel
theorem dX11_rest_68 : decode cX11_rest 68 = .ok (.aaload, 1) := by decide +kernel
theorem dX11_rest_69 : decode cX11_rest 69 = .ok (.aload 5, 2) := by decide +kernel
theorem dX11_rest_71 : decode cX11_rest 71 = .ok (.invokevirtual 207, 3) := by decide +kernel
theorem dX11_rest_74 : decode cX11_rest 74 = .ok (.aload_n 0, 1) := by decide +kernel
theorem dX11_rest_75 : decode cX11_rest 75 = .ok (.aload_n 0, 1) := by decide +kernel
theorem dX11_rest_76 : decode cX11_rest 76 = .ok (.getfield 84, 3) := by decide +kernel
theorem dX11_rest_79 : decode cX11_rest 79 = .ok (.invokevirtual 34, 3) := by decide +kernel
theorem dX11_rest_82 : decode cX11_rest 82 = .ok (.astore 7, 2) := by decide +kernel
theorem dX11_rest_84 : decode cX11_rest 84 = .ok (.aload_n 0, 1) := by decide +kernel
theorem dX11_rest_85 : decode cX11_rest 85 = .ok (.iconst 2, 1) := by decide +kernel
theorem dX11_rest_86 : decode cX11_rest 86 = .ok (.aload_n 0, 1) := by decide +kernel
theorem dX11_rest_87 : decode cX11_rest 87 = .ok (.getfield 113, 3) := by decide +kernel
theorem dX11_rest_90 : decode cX11_rest 90 = .ok (.aload 5, 2) := by decide +kernel
theorem dX11_rest_92 : decode cX11_rest 92 = .ok (.invokevirtual 207, 3) := by decide +kernel
theorem dX11_rest_95 : decode cX11_rest 95 = .ok (.aload_n 0, 1) := by decide +kernel
theorem dX11_rest_96 : decode cX11_rest 96 = .ok (.aload_n 0, 1) := by decide +kernel
theorem dX11_rest_97 : decode cX11_rest 97 = .ok (.getfield 84, 3) := by decide +kernel
theorem dX11_rest_100 : decode cX11_rest 100 = .ok (.invokevirtual 34, 3) := by decide +kernel
theorem dX11_rest_103 : decode cX11_rest 103 = .ok (.astore 8, 2) := by decide +kernel
theorem dX11_rest_105 : decode cX11_rest 105 = .ok (.aload_n 0, 1) := by decide +kernel
theorem dX11_rest_106 : decode cX11_rest 106 = .ok (.getfield 7, 3) := by decide +kernel
theorem dX11_rest_109 : decode cX11_rest 109 = .ok (.istore 9, 2) := by decide +kernel
theorem dX11_rest_111 : decode cX11_rest 111 = .ok (.bipush 30, 2) := by decide +kernel
theorem dX11_rest_113 : decode cX11_rest 113 = .ok (.istore 10, 2) := by decide +kernel
theorem dX11_rest_115 : decode cX11_rest 115 = .ok (.iload 10, 2) := by decide +kernel
theorem dX11_rest_117 : decode cX11_rest 117 = .ok (.ifCond .lt 73, 3) := by decide +kernel
theorem dX11_rest_120 : decode cX11_rest 120 = .ok (.aload_n 0, 1) := by decide +kernel
theorem dX11_rest_121 : decode cX11_rest 121 = .ok (.iconst 2, 1) := by decide +kernel
theorem dX11_rest_122 : decode cX11_rest 122 = .ok (.aload_n 0, 1) := by decide +kernel
theorem dX11_rest_123 : decode cX11_rest 123 = .ok (.aload 8, 2) := by decide +kernel
theorem dX11_rest_125 : decode cX11_rest 125 = .ok (.aload 8, 2) := by decide +kernel
theorem dX11_rest_127 : decode cX11_rest 127 = .ok (.invokevirtual 122, 3) := by decide +kernel
theorem dX11_rest_130 : decode cX11_rest 130 = .ok (.aload 5, 2) := by decide +kernel
theorem dX11_rest_132 : decode cX11_rest 132 = .ok (.invokevirtual 207, 3) := by decide +kernel
theorem dX11_rest_135 : decode cX11_rest 135 = .ok (.aload 8, 2) := by decide +kernel
theorem dX11_rest_137 : decode cX11_rest 137 = .ok (.aload_n 0, 1) := by decide +kernel
theorem dX11_rest_138 : decode cX11_rest 138 = .ok (.getfield 84, 3) := by decide +kernel
theorem dX11_rest_141 : decode cX11_rest 141 = .ok (.invokevirtual 30, 3) := by decide +kernel
theorem dX11_rest_144 : decode cX11_rest 144 = .ok (.iload_n 2, 1) := by decide +kernel
theorem dX11_rest_145 : decode cX11_rest 145 = .ok (.iload 10, 2) := by decide +kernel
theorem dX11_rest_147 : decode cX11_rest 147 = .ok (.ishr, 1) := by decide +kernel
theorem dX11_rest_148 : decode cX11_rest 148 = .ok (.iconst 1, 1) := by decide +kernel
theorem dX11_rest_149 : decode cX11_rest 149 = .ok (.iand, 1) := by decide +kernel
theorem dX11_rest_150 : decode cX11_rest 150 = .ok (.iconst 1, 1) := by decide +kernel
theorem dX11_rest_151 : decode cX11_rest 151 = .ok (.if_icmp .ne 27, 3) := by decide +kernel
theorem dX11_rest_154 : decode cX11_rest 154 = .ok (.aload_n 0, 1) := by decide +kernel
theorem dX11_rest_155 : decode cX11_rest 155 = .ok (.iconst 2, 1) := by decide +kernel
theorem dX11_rest_156 : decode cX11_rest 156 = .ok (.aload_n 0, 1) := by decide +kernel
theorem dX11_rest_157 : decode cX11_rest 157 = .ok (.aload 8, 2) := by decide +kernel
theorem dX11_rest_159 : decode cX11_rest 159 = .ok (.aload 7, 2) := by decide +kernel
theorem dX11_rest_161 : decode cX11_rest 161 = .ok (.invokevirtual 122, 3) := by decide +kernel
theorem dX11_rest_164 : decode cX11_rest 164 = .ok (.aload 5, 2) := by decide +kernel
theorem dX11_rest_166 : decode cX11_rest 166 = .ok (.invokevirtual 207, 3) := by decide +kernel
theorem dX11_rest_169 : decode cX11_rest 169 = .ok (.aload 8, 2) := by decide +kernel
theorem dX11_rest_171 : decode cX11_rest 171 = .ok (.aload_n 0, 1) := by decide +kernel
theorem dX11_rest_172 : decode cX11_rest 172 = .ok (.getfield 84, 3) := by decide +kernel
theorem dX11_rest_175 : decode cX11_rest 175 = .ok (.invokevirtual 30, 3) := by decide +kernel
theorem dX11_rest_178 : decode cX11_rest 178 = .ok (.aload_n 0, 1) := by decide +kernel
theorem dX11_rest_179 : decode cX11_rest 179 = .ok (.iload 9, 2) := by decide +kernel
theorem dX11_rest_181 : decode cX11_rest 181 = .ok (.putfield 7, 3) := by decide +kernel
theorem dX11_rest_184 : decode cX11_rest 184 = .ok (.iinc 10 (-1), 3) := by decide +kernel
theorem dX11_rest_187 : decode cX11_rest 187 = .ok (.goto (-72), 3) := by decide +kernel
theorem dX11_rest_190 : decode cX11_rest 190 = .ok (.aload_n 0, 1) := by decide +kernel
theorem dX11_rest_191 : decode cX11_rest 191 = .ok (.getfield 142, 3) := by decide +kernel
theorem dX11_rest_194 : decode cX11_rest 194 = .ok (.iload 4, 2) := by decide +kernel
theorem dX11_rest_196 : decode cX11_rest 196 = .ok (.aaload, 1) := by decide +kernel
theorem dX11_rest_197 : decode cX11_rest 197 = .ok (.aload 8, 2) := by decide +kernel
theorem dX11_rest_199 : decode cX11_rest 199 = .ok (.invokevirtual 30, 3) := by decide +kernel
theorem dX11_rest_202 : decode cX11_rest 202 = .ok (.iconst 1, 1) := by decide +kernel
theorem dX11_rest_203 : decode cX11_rest 203 = .ok (.ireturn, 1) := by decide +kernel
def zj_X11_rest_178 (w0 : Nat) (w2 : Int32) (w4 : Int32) (w5 : Nat) (w7 : Nat) (w8 : Nat) (w9 : Int32) (g41 : AH) (y10_178 : Int32) : Option ((AH × Int32) ⊕ (AH)) :=
  (pV g41 w0 11 2 (.int w9)).bind fun g42 => some (Sum.inl ((g42, y10_178 + (-1 : Int32))))
def zb_X11_rest_115 (w0 : Nat) (w2 : Int32) (w4 : Int32) (w5 : Nat) (w7 : Nat) (w8 : Nat) (w9 : Int32) (g31 : AH) (w10 : Int32) : Option ((AH × Int32) ⊕ (AH)) :=
  (if w10 < 0 then some (Sum.inr g31) else (chk g31 w0 11).bind fun _ => (zs_X11_times g31 w0 w8 w8).bind fun x34 => (chk x34.2 w0 11).bind fun _ => (zs_X11_over x34.2 w0 ((2 : Int32)) x34.1 w5).bind fun g36 => (gR g36 w0 11 6).bind fun x37 => (chk g36 w8 10).bind fun _ => (zs_X10_become g36 w8 x37).bind fun g39 => (if (w2 >>> (w10 &&& 31)) &&& ((1 : Int32)) = (1 : Int32) then (chk g39 w0 11).bind fun _ => (zs_X11_times g39 w0 w8 w7).bind fun x44 => (chk x44.2 w0 11).bind fun _ => (zs_X11_over x44.2 w0 ((2 : Int32)) x44.1 w5).bind fun g46 => (gR g46 w0 11 6).bind fun x47 => (chk g46 w8 10).bind fun _ => (zs_X10_become g46 w8 x47).bind fun g49 => zj_X11_rest_178 w0 w2 w4 w5 w7 w8 w9 g49 w10 else zj_X11_rest_178 w0 w2 w4 w5 w7 w8 w9 g39 w10))
def zs_X11_rest (h : AH) (u0 : Nat) (u1 : Int32) (u2 : Int32) (u3 : Int32) (u4 : Int32) : Option (Int32 × AH) :=
  (chk h u0 11).bind fun _ => (zs_X11_isSlot h u0 u1).bind fun x2 => (if x2.1 = 0 then some ((-1 : Int32), x2.2) else (chk x2.2 u0 11).bind fun _ => (zs_X11_isSlot x2.2 u0 u3).bind fun x5 => (if x5.1 = 0 then some ((-1 : Int32), x5.2) else (chk x5.2 u0 11).bind fun _ => (zs_X11_isSlot x5.2 u0 u4).bind fun x8 => (if x8.1 = 0 then some ((-1 : Int32), x8.2) else (if u2 < 0 then some ((-1 : Int32), x8.2) else (if u2 ≤ (1000000 : Int32) then (gR x8.2 u0 11 9).bind fun x12 => (aR x8.2 x12 5 u3).bind fun x13 => (chk x8.2 u0 11).bind fun _ => (zs_X11_wrongRest x8.2 u0 x13).bind fun x15 => (if 0 ≤ x15 then (gR x8.2 u0 11 9).bind fun x17 => (aR x8.2 x17 5 u1).bind fun x18 => (chk x8.2 u0 11).bind fun _ => (zs_X11_over x8.2 u0 ((2 : Int32)) x18 x13).bind fun g20 => (gR g20 u0 11 6).bind fun x21 => (chk g20 u0 11).bind fun _ => (zs_X11_copy g20 u0 x21).bind fun x23 => (gR x23.2 u0 11 4).bind fun x24 => (chk x23.2 u0 11).bind fun _ => (zs_X11_over x23.2 u0 ((2 : Int32)) x24 x13).bind fun g26 => (gR g26 u0 11 6).bind fun x27 => (chk g26 u0 11).bind fun _ => (zs_X11_copy g26 u0 x27).bind fun x29 => (gI x29.2 u0 11 2).bind fun x30 => (iter (fun q : AH × Int32 => zb_X11_rest_115 u0 u2 u4 x13 x23.1 x29.1 x30 q.1 q.2) FU ((x29.2, (30 : Int32)))).bind fun r50 => (gR r50 u0 11 9).bind fun x51 => (aR r50 x51 5 u4).bind fun x52 => (chk r50 x52 10).bind fun _ => (zs_X10_become r50 x52 x29.1).bind fun g54 => some ((1 : Int32), g54) else some (x15, x8.2)) else some ((-1 : Int32), x8.2))))))
set_option maxRecDepth 100000 in
set_option maxHeartbeats 4000000 in
theorem zm_X11_rest (l : Launch) (D : hG) (z : Nat) {h : AH} {u0 : Nat} {u1 : Int32} {u2 : Int32} {u3 : Int32} {u4 : Int32} {r : Int32} {h' : AH} (hs : zs_X11_rest h u0 u1 u2 u3 u4 = some (r, h')) : hC l D z yX11_rest cX11_rest 11 (Option.some Jvm.ClassFile.FieldType.int) 6 166 0 0 [.ref u0, .int u1, .int u2, .int u3, .int u4] h h' (some (.int r)) := by
  refine hC_of (by decide) (Nat.le_of_ble_eq_true rfl) ?_
  intro p e s m below meth c hx hb hml hrt hlk hown hnm hts hk hr hz ls hl
  replace hown : s.vm.findClass RX11 = some m.cls := hown
  replace hl : lv_has ls 11 [(0, .ref u0), (1, .int u1), (2, .int u2), (3, .int u3), (4, .int u4)] := hl
  have hS : va_S (hA z) s.heap s.heap [] := va_S.rf
  suffices hgo : ∀ (H : Heap) (locs : List Loc), hR D z h H → va_S (hA z) s.heap H locs → W p l e ({ frames := 6, cells := 0, slots := 0, locals := 166 } : Room) s m ([.ref u0, .int u1, .int u2, .int u3, .int u4] : List Value).toArray below meth c H locs 0 0 (MQ below (hQ D z h' (some (.int r))) ([.ref u0, .int u1, .int u2, .int u3, .int u4] : List Value).toArray s 0 0 (hA z)) (F0 m 0 ls []) from hgo _ _ hr hS
  clear hr hS
  intro H locs hr hS
  unfold zs_X11_rest at hs
  refine lv_aload_n hx hb dX11_rest_0 rfl (lv_at hl 0 rfl) ?_
  refine lv_iload_n hx hb dX11_rest_1 rfl (lv_at hl 1 rfl) ?_
  obtain ⟨_, ex1, hs⟩ := bi_inv hs
  obtain ⟨x2, ex2, hs⟩ := bi_inv hs
  refine hv_V1 (n := 1) [.int u1] [] hx hb hml hown hts hk hr hz hS (zm_X11_isSlot l D z ex2) ex1 rfl tw_956 tw_958 ts_21 tw_11 tw_959 (by decide +kernel) (by decide) ⟨(Nat.zero_le _), (Nat.zero_le _)⟩ rfl hl.1 (Nat.le_of_ble_eq_true rfl) dX11_rest_2 rfl (fun H locs hr hS => ?_)
  refine lv_if_eq (tgt := 35) hx hb dX11_rest_5 (by decide) (fun c3 => ?_) (fun c3 => ?_)
  · rw [if_pos c3] at hs
    refine lv_iconst (v := (-1)) hx hb dX11_rest_35 (by decide) ?_
    obtain ⟨rfl, rfl⟩ := Prod.mk.inj (Option.some.inj hs)
    exact hv_iret hx hb hrt hlk hr hS dX11_rest_36
  · rw [if_neg c3] at hs
    refine lv_aload_n hx hb dX11_rest_8 rfl (lv_at hl 0 rfl) ?_
    refine lv_iload_n hx hb dX11_rest_9 rfl (lv_at hl 3 rfl) ?_
    obtain ⟨_, ex4, hs⟩ := bi_inv hs
    obtain ⟨x5, ex5, hs⟩ := bi_inv hs
    refine hv_V1 (n := 1) [.int u3] [] hx hb hml hown hts hk hr hz hS (zm_X11_isSlot l D z ex5) ex4 rfl tw_956 tw_958 ts_21 tw_11 tw_959 (by decide +kernel) (by decide) ⟨(Nat.zero_le _), (Nat.zero_le _)⟩ rfl hl.1 (Nat.le_of_ble_eq_true rfl) dX11_rest_10 rfl (fun H locs hr hS => ?_)
    refine lv_if_eq (tgt := 35) hx hb dX11_rest_13 (by decide) (fun c6 => ?_) (fun c6 => ?_)
    · rw [if_pos c6] at hs
      refine lv_iconst (v := (-1)) hx hb dX11_rest_35 (by decide) ?_
      obtain ⟨rfl, rfl⟩ := Prod.mk.inj (Option.some.inj hs)
      exact hv_iret hx hb hrt hlk hr hS dX11_rest_36
    · rw [if_neg c6] at hs
      refine lv_aload_n hx hb dX11_rest_16 rfl (lv_at hl 0 rfl) ?_
      refine lv_iload hx hb dX11_rest_17 (lv_at hl 4 rfl) ?_
      obtain ⟨_, ex7, hs⟩ := bi_inv hs
      obtain ⟨x8, ex8, hs⟩ := bi_inv hs
      refine hv_V1 (n := 1) [.int u4] [] hx hb hml hown hts hk hr hz hS (zm_X11_isSlot l D z ex8) ex7 rfl tw_956 tw_958 ts_21 tw_11 tw_959 (by decide +kernel) (by decide) ⟨(Nat.zero_le _), (Nat.zero_le _)⟩ rfl hl.1 (Nat.le_of_ble_eq_true rfl) dX11_rest_19 rfl (fun H locs hr hS => ?_)
      refine lv_if_eq (tgt := 35) hx hb dX11_rest_22 (by decide) (fun c9 => ?_) (fun c9 => ?_)
      · rw [if_pos c9] at hs
        refine lv_iconst (v := (-1)) hx hb dX11_rest_35 (by decide) ?_
        obtain ⟨rfl, rfl⟩ := Prod.mk.inj (Option.some.inj hs)
        exact hv_iret hx hb hrt hlk hr hS dX11_rest_36
      · rw [if_neg c9] at hs
        refine lv_iload_n hx hb dX11_rest_25 rfl (lv_at hl 2 rfl) ?_
        refine lv_if_lt (tgt := 35) hx hb dX11_rest_26 (by decide) (fun c10 => ?_) (fun c10 => ?_)
        · rw [if_pos c10] at hs
          refine lv_iconst (v := (-1)) hx hb dX11_rest_35 (by decide) ?_
          obtain ⟨rfl, rfl⟩ := Prod.mk.inj (Option.some.inj hs)
          exact hv_iret hx hb hrt hlk hr hS dX11_rest_36
        · rw [if_neg c10] at hs
          refine lv_iload_n hx hb dX11_rest_29 rfl (lv_at hl 2 rfl) ?_
          refine lv_ldc hx hb hown (hts _ tw_1135) dX11_rest_30 ?_
          refine lv_icmp_le (tgt := 37) hx hb dX11_rest_32 (by decide) (fun c11 => ?_) (fun c11 => ?_)
          · rw [if_pos c11] at hs
            refine lv_aload_n hx hb dX11_rest_37 rfl (lv_at hl 0 rfl) ?_
            obtain ⟨x12, ex12, hs⟩ := bi_inv hs
            refine hv_gR (C := RX11) (T := TX11) (N := 23) (ci := 11) hx hb hts inX11 hown hk hr rfl 9 (by decide) (hts _ tw_891) ex12 dX11_rest_38 ?_
            refine lv_iload_n hx hb dX11_rest_41 rfl (lv_at hl 3 rfl) ?_
            obtain ⟨x13, ex13, hs⟩ := bi_inv hs
            refine hv_aR (kd := 5) hx hb hk hr rfl ex13 dX11_rest_42 ?_
            refine lv_astore (lv' := [(5, .ref x13), (0, .ref u0), (1, .int u1), (2, .int u2), (3, .int u3), (4, .int u4)]) hx hb dX11_rest_43 hl (by decide) rfl (fun ls hl => ?_)
            refine lv_aload_n hx hb dX11_rest_45 rfl (lv_at hl 1 rfl) ?_
            refine lv_aload hx hb dX11_rest_46 (lv_at hl 0 rfl) ?_
            obtain ⟨_, ex14, hs⟩ := bi_inv hs
            obtain ⟨x15, ex15, hs⟩ := bi_inv hs
            refine hv_V1 (n := 1) [.ref x13] [] hx hb hml hown hts hk hr hz hS (zm_X11_wrongRest l D z ex15) ex14 rfl tw_1136 tw_1138 ts_41 tw_11 tw_1139 (by decide +kernel) (by decide) ⟨(Nat.zero_le _), (Nat.zero_le _)⟩ rfl hl.1 (Nat.le_of_ble_eq_true rfl) dX11_rest_48 rfl (fun H locs hr hS => ?_)
            refine lv_istore (lv' := [(6, .int x15), (5, .ref x13), (0, .ref u0), (1, .int u1), (2, .int u2), (3, .int u3), (4, .int u4)]) hx hb dX11_rest_51 hl (by decide) rfl (fun ls hl => ?_)
            refine lv_iload hx hb dX11_rest_53 (lv_at hl 0 rfl) ?_
            refine lv_if_ge (tgt := 61) hx hb dX11_rest_55 (by decide) (fun c16 => ?_) (fun c16 => ?_)
            · rw [if_pos c16] at hs
              refine lv_aload_n hx hb dX11_rest_61 rfl (lv_at hl 2 rfl) ?_
              refine lv_iconst (v := 2) hx hb dX11_rest_62 (by decide) ?_
              refine lv_aload_n hx hb dX11_rest_63 rfl (lv_at hl 2 rfl) ?_
              obtain ⟨x17, ex17, hs⟩ := bi_inv hs
              refine hv_gR (C := RX11) (T := TX11) (N := 23) (ci := 11) hx hb hts inX11 hown hk hr rfl 9 (by decide) (hts _ tw_891) ex17 dX11_rest_64 ?_
              refine lv_iload_n hx hb dX11_rest_67 rfl (lv_at hl 3 rfl) ?_
              obtain ⟨x18, ex18, hs⟩ := bi_inv hs
              refine hv_aR (kd := 5) hx hb hk hr rfl ex18 dX11_rest_68 ?_
              refine lv_aload hx hb dX11_rest_69 (lv_at hl 1 rfl) ?_
              obtain ⟨_, ex19, hs⟩ := bi_inv hs
              obtain ⟨g20, eg20, hs⟩ := bi_inv hs
              refine hv_V0 (n := 3) [.int ((2 : Int32)), .ref x18, .ref x13] [] hx hb hml hown hts hk hr hz hS (zm_X11_over l D z eg20) ex19 rfl tw_1107 tw_1109 ts_38 tw_11 tw_1110 (by decide +kernel) (by decide) ⟨(Nat.zero_le _), (Nat.zero_le _)⟩ rfl hl.1 (Nat.le_of_ble_eq_true rfl) dX11_rest_71 rfl (fun H locs hr hS => ?_)
              refine lv_aload_n hx hb dX11_rest_74 rfl (lv_at hl 2 rfl) ?_
              refine lv_aload_n hx hb dX11_rest_75 rfl (lv_at hl 2 rfl) ?_
              obtain ⟨x21, ex21, hs⟩ := bi_inv hs
              refine hv_gR (C := RX11) (T := TX11) (N := 23) (ci := 11) hx hb hts inX11 hown hk hr rfl 6 (by decide) (hts _ tw_888) ex21 dX11_rest_76 ?_
              obtain ⟨_, ex22, hs⟩ := bi_inv hs
              obtain ⟨x23, ex23, hs⟩ := bi_inv hs
              refine hv_V1 (n := 1) [.ref x21] [] hx hb hml hown hts hk hr hz hS (zm_X11_copy l D z ex23) ex22 rfl tw_996 tw_998 ts_25 tw_11 tw_999 (by decide +kernel) (by decide) ⟨(Nat.zero_le _), (Nat.zero_le _)⟩ rfl hl.1 (Nat.le_of_ble_eq_true rfl) dX11_rest_79 rfl (fun H locs hr hS => ?_)
              refine lv_astore (lv' := [(7, .ref x23.1), (6, .int x15), (5, .ref x13), (0, .ref u0), (1, .int u1), (2, .int u2), (3, .int u3), (4, .int u4)]) hx hb dX11_rest_82 hl (by decide) rfl (fun ls hl => ?_)
              refine lv_aload_n hx hb dX11_rest_84 rfl (lv_at hl 3 rfl) ?_
              refine lv_iconst (v := 2) hx hb dX11_rest_85 (by decide) ?_
              refine lv_aload_n hx hb dX11_rest_86 rfl (lv_at hl 3 rfl) ?_
              obtain ⟨x24, ex24, hs⟩ := bi_inv hs
              refine hv_gR (C := RX11) (T := TX11) (N := 23) (ci := 11) hx hb hts inX11 hown hk hr rfl 4 (by decide) (hts _ tw_886) ex24 dX11_rest_87 ?_
              refine lv_aload hx hb dX11_rest_90 (lv_at hl 2 rfl) ?_
              obtain ⟨_, ex25, hs⟩ := bi_inv hs
              obtain ⟨g26, eg26, hs⟩ := bi_inv hs
              refine hv_V0 (n := 3) [.int ((2 : Int32)), .ref x24, .ref x13] [] hx hb hml hown hts hk hr hz hS (zm_X11_over l D z eg26) ex25 rfl tw_1107 tw_1109 ts_38 tw_11 tw_1110 (by decide +kernel) (by decide) ⟨(Nat.zero_le _), (Nat.zero_le _)⟩ rfl hl.1 (Nat.le_of_ble_eq_true rfl) dX11_rest_92 rfl (fun H locs hr hS => ?_)
              refine lv_aload_n hx hb dX11_rest_95 rfl (lv_at hl 3 rfl) ?_
              refine lv_aload_n hx hb dX11_rest_96 rfl (lv_at hl 3 rfl) ?_
              obtain ⟨x27, ex27, hs⟩ := bi_inv hs
              refine hv_gR (C := RX11) (T := TX11) (N := 23) (ci := 11) hx hb hts inX11 hown hk hr rfl 6 (by decide) (hts _ tw_888) ex27 dX11_rest_97 ?_
              obtain ⟨_, ex28, hs⟩ := bi_inv hs
              obtain ⟨x29, ex29, hs⟩ := bi_inv hs
              refine hv_V1 (n := 1) [.ref x27] [] hx hb hml hown hts hk hr hz hS (zm_X11_copy l D z ex29) ex28 rfl tw_996 tw_998 ts_25 tw_11 tw_999 (by decide +kernel) (by decide) ⟨(Nat.zero_le _), (Nat.zero_le _)⟩ rfl hl.1 (Nat.le_of_ble_eq_true rfl) dX11_rest_100 rfl (fun H locs hr hS => ?_)
              refine lv_astore (lv' := [(8, .ref x29.1), (7, .ref x23.1), (6, .int x15), (5, .ref x13), (0, .ref u0), (1, .int u1), (2, .int u2), (3, .int u3), (4, .int u4)]) hx hb dX11_rest_103 hl (by decide) rfl (fun ls hl => ?_)
              refine lv_aload_n hx hb dX11_rest_105 rfl (lv_at hl 4 rfl) ?_
              obtain ⟨x30, ex30, hs⟩ := bi_inv hs
              refine hv_gI (C := RX11) (T := TX11) (N := 23) (ci := 11) hx hb hts inX11 hown hk hr rfl 2 (by decide) (hts _ tw_884) ex30 dX11_rest_106 ?_
              refine lv_istore (lv' := [(9, .int x30), (8, .ref x29.1), (7, .ref x23.1), (6, .int x15), (5, .ref x13), (0, .ref u0), (1, .int u1), (2, .int u2), (3, .int u3), (4, .int u4)]) hx hb dX11_rest_109 hl (by decide) rfl (fun ls hl => ?_)
              refine lv_bipush (v := 30) hx hb dX11_rest_111 (by decide) ?_
              refine lv_istore (lv' := [(10, .int ((30 : Int32))), (9, .int x30), (8, .ref x29.1), (7, .ref x23.1), (6, .int x15), (5, .ref x13), (0, .ref u0), (1, .int u1), (2, .int u2), (3, .int u3), (4, .int u4)]) hx hb dX11_rest_113 hl (by decide) rfl (fun ls hl => ?_)
              obtain ⟨r50, er50, hs⟩ := bi_inv hs
              refine iter_W (fun (q : AH × Int32) => ∀ (H : Heap) (locs : List Loc) (ls : Array Slot), hR D z q.1 H → va_S (hA z) s.heap H locs → lv_has ls 11 [(0, .ref u0), (2, .int u2), (4, .int u4), (5, .ref x13), (7, .ref x23.1), (8, .ref x29.1), (9, .int x30), (10, .int q.2)] → W p l e ({ frames := 6, cells := 0, slots := 0, locals := 166 } : Room) s m ([.ref u0, .int u1, .int u2, .int u3, .int u4] : List Value).toArray below meth c H locs 0 0 (MQ below (hQ D z h' (some (.int r))) ([.ref u0, .int u1, .int u2, .int u3, .int u4] : List Value).toArray s 0 0 (hA z)) (F0 m 115 ls [])) (fun (x : AH) => ∀ (H : Heap) (locs : List Loc) (ls : Array Slot), hR D z x H → va_S (hA z) s.heap H locs → lv_has ls 11 [(0, .ref u0), (4, .int u4), (8, .ref x29.1)] → W p l e ({ frames := 6, cells := 0, slots := 0, locals := 166 } : Room) s m ([.ref u0, .int u1, .int u2, .int u3, .int u4] : List Value).toArray below meth c H locs 0 0 (MQ below (hQ D z h' (some (.int r))) ([.ref u0, .int u1, .int u2, .int u3, .int u4] : List Value).toArray s 0 0 (hA z)) (F0 m 190 ls [])) ?_ FU _ r50 er50 ?_ H locs ls hr hS (lv_sub hl [6, 8, 10, 5, 3, 2, 1, 0] rfl)
              · intro q o hs hcont hexit
                obtain ⟨g31, w10⟩ := q
                replace hs : zb_X11_rest_115 u0 u2 u4 x13 x23.1 x29.1 x30 g31 w10 = some o := hs
                intro H locs ls hr hS hl
                have hJ178 : ∀ (g41 : AH) (y10_178 : Int32) (H : Heap) (locs : List Loc) (ls : Array Slot), zj_X11_rest_178 u0 u2 u4 x13 x23.1 x29.1 x30 g41 y10_178 = some o → hR D z g41 H → va_S (hA z) s.heap H locs → lv_has ls 11 [(0, .ref u0), (2, .int u2), (4, .int u4), (5, .ref x13), (7, .ref x23.1), (8, .ref x29.1), (9, .int x30), (10, .int y10_178)] → W p l e ({ frames := 6, cells := 0, slots := 0, locals := 166 } : Room) s m ([.ref u0, .int u1, .int u2, .int u3, .int u4] : List Value).toArray below meth c H locs 0 0 (MQ below (hQ D z h' (some (.int r))) ([.ref u0, .int u1, .int u2, .int u3, .int u4] : List Value).toArray s 0 0 (hA z)) (F0 m 178 ls []) := by
                  intro g41 y10_178 H locs ls hs hr hS hl
                  unfold zj_X11_rest_178 at hs
                  refine lv_aload_n hx hb dX11_rest_178 rfl (lv_at hl 0 rfl) ?_
                  refine lv_iload hx hb dX11_rest_179 (lv_at hl 6 rfl) ?_
                  obtain ⟨g42, eg42, hs⟩ := bi_inv hs
                  refine hv_pV (C := RX11) (T := TX11) (N := 23) (ci := 11) hx hb hts inX11 tyX11 tyX11_ok nmX11 hown hk hr hS rfl 2 (by decide) (hts _ tw_884) rfl rfl rfl eg42 dX11_rest_181 (fun H locs hr hS => ?_)
                  refine lv_iinc (v := y10_178 + (-1 : Int32)) (lv' := [(10, .int (y10_178 + (-1 : Int32))), (0, .ref u0), (2, .int u2), (4, .int u4), (5, .ref x13), (7, .ref x23.1), (8, .ref x29.1), (9, .int x30)]) hx hb dX11_rest_184 hl (k := 7) rfl (ii_v _ (by decide)) (by decide) rfl (fun ls hl => ?_)
                  refine lv_goto (tgt := 115) hx hb dX11_rest_187 (by decide) ?_
                  obtain rfl := Option.some.inj hs
                  exact hcont _ rfl H locs ls hr hS (lv_sub hl [1, 2, 3, 4, 5, 6, 7, 0] rfl)
                unfold zb_X11_rest_115 at hs
                refine lv_iload hx hb dX11_rest_115 (lv_at hl 7 rfl) ?_
                refine lv_if_lt (tgt := 190) hx hb dX11_rest_117 (by decide) (fun c32 => ?_) (fun c32 => ?_)
                · rw [if_pos c32] at hs
                  obtain rfl := Option.some.inj hs
                  exact hexit _ rfl H locs ls hr hS (lv_sub hl [0, 2, 5] rfl)
                · rw [if_neg c32] at hs
                  refine lv_aload_n hx hb dX11_rest_120 rfl (lv_at hl 0 rfl) ?_
                  refine lv_iconst (v := 2) hx hb dX11_rest_121 (by decide) ?_
                  refine lv_aload_n hx hb dX11_rest_122 rfl (lv_at hl 0 rfl) ?_
                  refine lv_aload hx hb dX11_rest_123 (lv_at hl 5 rfl) ?_
                  refine lv_aload hx hb dX11_rest_125 (lv_at hl 5 rfl) ?_
                  obtain ⟨_, ex33, hs⟩ := bi_inv hs
                  obtain ⟨x34, ex34, hs⟩ := bi_inv hs
                  refine hv_V1 (n := 2) [.ref x29.1, .ref x29.1] [.int ((2 : Int32)), .ref u0] hx hb hml hown hts hk hr hz hS (zm_X11_times l D z ex34) ex33 rfl tw_1003 tw_1005 ts_26 tw_11 tw_1006 (by decide +kernel) (by decide) ⟨(Nat.zero_le _), (Nat.zero_le _)⟩ rfl hl.1 (Nat.le_of_ble_eq_true rfl) dX11_rest_127 rfl (fun H locs hr hS => ?_)
                  refine lv_aload hx hb dX11_rest_130 (lv_at hl 3 rfl) ?_
                  obtain ⟨_, ex35, hs⟩ := bi_inv hs
                  obtain ⟨g36, eg36, hs⟩ := bi_inv hs
                  refine hv_V0 (n := 3) [.int ((2 : Int32)), .ref x34.1, .ref x13] [] hx hb hml hown hts hk hr hz hS (zm_X11_over l D z eg36) ex35 rfl tw_1107 tw_1109 ts_38 tw_11 tw_1110 (by decide +kernel) (by decide) ⟨(Nat.zero_le _), (Nat.zero_le _)⟩ rfl hl.1 (Nat.le_of_ble_eq_true rfl) dX11_rest_132 rfl (fun H locs hr hS => ?_)
                  refine lv_aload hx hb dX11_rest_135 (lv_at hl 5 rfl) ?_
                  refine lv_aload_n hx hb dX11_rest_137 rfl (lv_at hl 0 rfl) ?_
                  obtain ⟨x37, ex37, hs⟩ := bi_inv hs
                  refine hv_gR (C := RX11) (T := TX11) (N := 23) (ci := 11) hx hb hts inX11 hown hk hr rfl 6 (by decide) (hts _ tw_888) ex37 dX11_rest_138 ?_
                  obtain ⟨_, ex38, hs⟩ := bi_inv hs
                  obtain ⟨g39, eg39, hs⟩ := bi_inv hs
                  refine hv_V0 (n := 1) [.ref x37] [] hx hb hml hown hts hk hr hz hS (zm_X10_become l D z eg39) ex38 rfl tw_875 tw_876 tw_877 tw_12 tw_878 (by decide +kernel) (by decide) ⟨(Nat.zero_le _), (Nat.zero_le _)⟩ rfl hl.1 (Nat.le_of_ble_eq_true rfl) dX11_rest_141 rfl (fun H locs hr hS => ?_)
                  refine lv_iload_n hx hb dX11_rest_144 rfl (lv_at hl 1 rfl) ?_
                  refine lv_iload hx hb dX11_rest_145 (lv_at hl 7 rfl) ?_
                  refine lv_ishr hx hb dX11_rest_147 ?_
                  refine lv_iconst (v := 1) hx hb dX11_rest_148 (by decide) ?_
                  refine lv_iand hx hb dX11_rest_149 ?_
                  refine lv_iconst (v := 1) hx hb dX11_rest_150 (by decide) ?_
                  refine lv_icmp_ne (tgt := 178) hx hb dX11_rest_151 (by decide) (fun c40 => ?_) (fun c40 => ?_)
                  · rw [if_neg c40] at hs
                    exact hJ178 g39 w10 H locs ls hs hr hS (lv_sub hl [0, 1, 2, 3, 4, 5, 6, 7] rfl)
                  · rw [if_pos c40] at hs
                    refine lv_aload_n hx hb dX11_rest_154 rfl (lv_at hl 0 rfl) ?_
                    refine lv_iconst (v := 2) hx hb dX11_rest_155 (by decide) ?_
                    refine lv_aload_n hx hb dX11_rest_156 rfl (lv_at hl 0 rfl) ?_
                    refine lv_aload hx hb dX11_rest_157 (lv_at hl 5 rfl) ?_
                    refine lv_aload hx hb dX11_rest_159 (lv_at hl 4 rfl) ?_
                    obtain ⟨_, ex43, hs⟩ := bi_inv hs
                    obtain ⟨x44, ex44, hs⟩ := bi_inv hs
                    refine hv_V1 (n := 2) [.ref x29.1, .ref x23.1] [.int ((2 : Int32)), .ref u0] hx hb hml hown hts hk hr hz hS (zm_X11_times l D z ex44) ex43 rfl tw_1003 tw_1005 ts_26 tw_11 tw_1006 (by decide +kernel) (by decide) ⟨(Nat.zero_le _), (Nat.zero_le _)⟩ rfl hl.1 (Nat.le_of_ble_eq_true rfl) dX11_rest_161 rfl (fun H locs hr hS => ?_)
                    refine lv_aload hx hb dX11_rest_164 (lv_at hl 3 rfl) ?_
                    obtain ⟨_, ex45, hs⟩ := bi_inv hs
                    obtain ⟨g46, eg46, hs⟩ := bi_inv hs
                    refine hv_V0 (n := 3) [.int ((2 : Int32)), .ref x44.1, .ref x13] [] hx hb hml hown hts hk hr hz hS (zm_X11_over l D z eg46) ex45 rfl tw_1107 tw_1109 ts_38 tw_11 tw_1110 (by decide +kernel) (by decide) ⟨(Nat.zero_le _), (Nat.zero_le _)⟩ rfl hl.1 (Nat.le_of_ble_eq_true rfl) dX11_rest_166 rfl (fun H locs hr hS => ?_)
                    refine lv_aload hx hb dX11_rest_169 (lv_at hl 5 rfl) ?_
                    refine lv_aload_n hx hb dX11_rest_171 rfl (lv_at hl 0 rfl) ?_
                    obtain ⟨x47, ex47, hs⟩ := bi_inv hs
                    refine hv_gR (C := RX11) (T := TX11) (N := 23) (ci := 11) hx hb hts inX11 hown hk hr rfl 6 (by decide) (hts _ tw_888) ex47 dX11_rest_172 ?_
                    obtain ⟨_, ex48, hs⟩ := bi_inv hs
                    obtain ⟨g49, eg49, hs⟩ := bi_inv hs
                    refine hv_V0 (n := 1) [.ref x47] [] hx hb hml hown hts hk hr hz hS (zm_X10_become l D z eg49) ex48 rfl tw_875 tw_876 tw_877 tw_12 tw_878 (by decide +kernel) (by decide) ⟨(Nat.zero_le _), (Nat.zero_le _)⟩ rfl hl.1 (Nat.le_of_ble_eq_true rfl) dX11_rest_175 rfl (fun H locs hr hS => ?_)
                    exact hJ178 g49 w10 H locs ls hs hr hS (lv_sub hl [0, 1, 2, 3, 4, 5, 6, 7] rfl)
              · intro H locs ls hr hS hl
                refine lv_aload_n hx hb dX11_rest_190 rfl (lv_at hl 0 rfl) ?_
                obtain ⟨x51, ex51, hs⟩ := bi_inv hs
                refine hv_gR (C := RX11) (T := TX11) (N := 23) (ci := 11) hx hb hts inX11 hown hk hr rfl 9 (by decide) (hts _ tw_891) ex51 dX11_rest_191 ?_
                refine lv_iload hx hb dX11_rest_194 (lv_at hl 1 rfl) ?_
                obtain ⟨x52, ex52, hs⟩ := bi_inv hs
                refine hv_aR (kd := 5) hx hb hk hr rfl ex52 dX11_rest_196 ?_
                refine lv_aload hx hb dX11_rest_197 (lv_at hl 2 rfl) ?_
                obtain ⟨_, ex53, hs⟩ := bi_inv hs
                obtain ⟨g54, eg54, hs⟩ := bi_inv hs
                refine hv_V0 (n := 1) [.ref x29.1] [] hx hb hml hown hts hk hr hz hS (zm_X10_become l D z eg54) ex53 rfl tw_875 tw_876 tw_877 tw_12 tw_878 (by decide +kernel) (by decide) ⟨(Nat.zero_le _), (Nat.zero_le _)⟩ rfl hl.1 (Nat.le_of_ble_eq_true rfl) dX11_rest_199 rfl (fun H locs hr hS => ?_)
                refine lv_iconst (v := 1) hx hb dX11_rest_202 (by decide) ?_
                obtain ⟨rfl, rfl⟩ := Prod.mk.inj (Option.some.inj hs)
                exact hv_iret hx hb hrt hlk hr hS dX11_rest_203
            · rw [if_neg c16] at hs
              refine lv_iload hx hb dX11_rest_58 (lv_at hl 0 rfl) ?_
              obtain ⟨rfl, rfl⟩ := Prod.mk.inj (Option.some.inj hs)
              exact hv_iret hx hb hrt hlk hr hS dX11_rest_60
          · rw [if_neg c11] at hs
            refine lv_iconst (v := (-1)) hx hb dX11_rest_35 (by decide) ?_
            obtain ⟨rfl, rfl⟩ := Prod.mk.inj (Option.some.inj hs)
            exact hv_iret hx hb hrt hlk hr hS dX11_rest_36
theorem dX11_root_0 : decode cX11_root 0 = .ok (.aload_n 0, 1) := by decide +kernel
theorem dX11_root_1 : decode cX11_root 1 = .ok (.iload_n 1, 1) := by decide +kernel
theorem dX11_root_2 : decode cX11_root 2 = .ok (.invokevirtual 177, 3) := by decide +kernel
theorem dX11_root_5 : decode cX11_root 5 = .ok (.ifCond .eq 22, 3) := by decide +kernel
theorem dX11_root_8 : decode cX11_root 8 = .ok (.aload_n 0, 1) := by decide +kernel
theorem dX11_root_9 : decode cX11_root 9 = .ok (.iload_n 3, 1) := by decide +kernel
theorem dX11_root_10 : decode cX11_root 10 = .ok (.invokevirtual 177, 3) := by decide +kernel
theorem dX11_root_13 : decode cX11_root 13 = .ok (.ifCond .eq 14, 3) := by decide +kernel
theorem dX11_root_16 : decode cX11_root 16 = .ok (.iload_n 2, 1) := by decide +kernel
theorem dX11_root_17 : decode cX11_root 17 = .ok (.iconst 2, 1) := by decide +kernel
theorem dX11_root_18 : decode cX11_root 18 = .ok (.if_icmp .lt 9, 3) := by decide +kernel
theorem dX11_root_21 : decode cX11_root 21 = .ok (.iload_n 2, 1) := by decide +kernel
theorem dX11_root_22 : decode cX11_root 22 = .ok (.bipush 9, 2) := by decide +kernel
theorem dX11_root_24 : decode cX11_root 24 = .ok (.if_icmp .le 5, 3) := by decide +kernel
theorem dX11_root_27 : decode cX11_root 27 = .ok (.iconst (-1), 1) := by decide +kernel
theorem dX11_root_28 : decode cX11_root 28 = .ok (.ireturn, 1) := by decide +kernel
theorem dX11_root_29 : decode cX11_root 29 = .ok (.aload_n 0, 1) := by decide +kernel
theorem dX11_root_30 : decode cX11_root 30 = .ok (.getfield 142, 3) := by decide +kernel
theorem dX11_root_33 : decode cX11_root 33 = .ok (.iload_n 1, 1) := by decide +kernel
theorem dX11_root_34 : decode cX11_root 34 = .ok (.aaload, 1) := by decide +kernel
theorem dX11_root_35 : decode cX11_root 35 = .ok (.getfield 38, 3) := by decide +kernel
theorem dX11_root_38 : decode cX11_root 38 = .ok (.ifCond .eq 6, 3) := by decide +kernel
theorem dX11_root_41 : decode cX11_root 41 = .ok (.bipush (-3), 2) := by decide +kernel
theorem dX11_root_43 : decode cX11_root 43 = .ok (.ireturn, 1) := by decide +kernel
theorem dX11_root_44 : decode cX11_root 44 = .ok (.aload_n 0, 1) := by decide +kernel
theorem dX11_root_45 : decode cX11_root 45 = .ok (.aload_n 0, 1) := by decide +kernel
theorem dX11_root_46 : decode cX11_root 46 = .ok (.getfield 142, 3) := by decide +kernel
theorem dX11_root_49 : decode cX11_root 49 = .ok (.iload_n 1, 1) := by decide +kernel
theorem dX11_root_50 : decode cX11_root 50 = .ok (.aaload, 1) := by decide +kernel
theorem dX11_root_51 : decode cX11_root 51 = .ok (.invokevirtual 34, 3) := by decide +kernel
theorem dX11_root_54 : decode cX11_root 54 = .ok (.astore 4, 2) := by decide +kernel
theorem dX11_root_56 : decode cX11_root 56 = .ok (.aload_n 0, 1) := by decide +kernel
theorem dX11_root_57 : decode cX11_root 57 = .ok (.aload_n 0, 1) := by decide +kernel
theorem dX11_root_58 : decode cX11_root 58 = .ok (.getfield 74, 3) := by decide +kernel
theorem dX11_root_61 : decode cX11_root 61 = .ok (.invokevirtual 34, 3) := by decide +kernel
theorem dX11_root_64 : decode cX11_root 64 = .ok (.astore 5, 2) := by decide +kernel
theorem dX11_root_66 : decode cX11_root 66 = .ok (.aload_n 0, 1) := by decide +kernel
theorem dX11_root_67 : decode cX11_root 67 = .ok (.getfield 7, 3) := by decide +kernel
theorem dX11_root_70 : decode cX11_root 70 = .ok (.istore 6, 2) := by decide +kernel
theorem dX11_root_72 : decode cX11_root 72 = .ok (.sipush 384, 3) := by decide +kernel
theorem dX11_root_75 : decode cX11_root 75 = .ok (.iload_n 2, 1) := by decide +kernel
theorem dX11_root_76 : decode cX11_root 76 = .ok (.idiv, 1) := by decide +kernel
theorem dX11_root_77 : decode cX11_root 77 = .ok (.iconst 1, 1) := by decide +kernel
theorem dX11_root_78 : decode cX11_root 78 = .ok (.iadd, 1) := by decide +kernel
theorem dX11_root_79 : decode cX11_root 79 = .ok (.istore 7, 2) := by decide +kernel
theorem dX11_root_81 : decode cX11_root 81 = .ok (.iload 7, 2) := by decide +kernel
theorem dX11_root_83 : decode cX11_root 83 = .ok (.ifCond .lt 55, 3) := by decide +kernel
theorem dX11_root_86 : decode cX11_root 86 = .ok (.aload_n 0, 1) := by decide +kernel
theorem dX11_root_87 : decode cX11_root 87 = .ok (.aload 5, 2) := by decide +kernel
theorem dX11_root_89 : decode cX11_root 89 = .ok (.aload_n 0, 1) := by decide +kernel
theorem dX11_root_90 : decode cX11_root 90 = .ok (.aload_n 0, 1) := by decide +kernel
theorem dX11_root_91 : decode cX11_root 91 = .ok (.getfield 113, 3) := by decide +kernel
theorem dX11_root_94 : decode cX11_root 94 = .ok (.iload 7, 2) := by decide +kernel
theorem dX11_root_96 : decode cX11_root 96 = .ok (.invokevirtual 100, 3) := by decide +kernel
theorem dX11_root_99 : decode cX11_root 99 = .ok (.invokevirtual 116, 3) := by decide +kernel
theorem dX11_root_102 : decode cX11_root 102 = .ok (.astore 8, 2) := by decide +kernel
theorem dX11_root_104 : decode cX11_root 104 = .ok (.aload_n 0, 1) := by decide +kernel
theorem dX11_root_105 : decode cX11_root 105 = .ok (.aload 8, 2) := by decide +kernel
theorem dX11_root_107 : decode cX11_root 107 = .ok (.iload_n 2, 1) := by decide +kernel
theorem dX11_root_108 : decode cX11_root 108 = .ok (.invokevirtual 214, 3) := by decide +kernel
theorem dX11_root_111 : decode cX11_root 111 = .ok (.aload 4, 2) := by decide +kernel
theorem dX11_root_113 : decode cX11_root 113 = .ok (.invokestatic 197, 3) := by decide +kernel
theorem dX11_root_116 : decode cX11_root 116 = .ok (.ifCond .gt 10, 3) := by decide +kernel
theorem dX11_root_119 : decode cX11_root 119 = .ok (.aload 5, 2) := by decide +kernel
theorem dX11_root_121 : decode cX11_root 121 = .ok (.aload 8, 2) := by decide +kernel
theorem dX11_root_123 : decode cX11_root 123 = .ok (.invokevirtual 30, 3) := by decide +kernel
theorem dX11_root_126 : decode cX11_root 126 = .ok (.aload_n 0, 1) := by decide +kernel
theorem dX11_root_127 : decode cX11_root 127 = .ok (.iload 6, 2) := by decide +kernel
theorem dX11_root_129 : decode cX11_root 129 = .ok (.putfield 7, 3) := by decide +kernel
theorem dX11_root_132 : decode cX11_root 132 = .ok (.iinc 7 (-1), 3) := by decide +kernel
theorem dX11_root_135 : decode cX11_root 135 = .ok (.goto (-54), 3) := by decide +kernel
theorem dX11_root_138 : decode cX11_root 138 = .ok (.aload_n 0, 1) := by decide +kernel
theorem dX11_root_139 : decode cX11_root 139 = .ok (.getfield 142, 3) := by decide +kernel
theorem dX11_root_142 : decode cX11_root 142 = .ok (.iload_n 3, 1) := by decide +kernel
theorem dX11_root_143 : decode cX11_root 143 = .ok (.aaload, 1) := by decide +kernel
theorem dX11_root_144 : decode cX11_root 144 = .ok (.aload 5, 2) := by decide +kernel
theorem dX11_root_146 : decode cX11_root 146 = .ok (.invokevirtual 30, 3) := by decide +kernel
theorem dX11_root_149 : decode cX11_root 149 = .ok (.aload_n 0, 1) := by decide +kernel
theorem dX11_root_150 : decode cX11_root 150 = .ok (.aload 5, 2) := by decide +kernel
theorem dX11_root_152 : decode cX11_root 152 = .ok (.iload_n 2, 1) := by decide +kernel
theorem dX11_root_153 : decode cX11_root 153 = .ok (.invokevirtual 214, 3) := by decide +kernel
theorem dX11_root_156 : decode cX11_root 156 = .ok (.aload 4, 2) := by decide +kernel
theorem dX11_root_158 : decode cX11_root 158 = .ok (.invokestatic 197, 3) := by decide +kernel
theorem dX11_root_161 : decode cX11_root 161 = .ok (.ifCond .ne 7, 3) := by decide +kernel
theorem dX11_root_164 : decode cX11_root 164 = .ok (.iconst 1, 1) := by decide +kernel
theorem dX11_root_165 : decode cX11_root 165 = .ok (.goto 4, 3) := by decide +kernel
theorem dX11_root_168 : decode cX11_root 168 = .ok (.iconst 0, 1) := by decide +kernel
theorem dX11_root_169 : decode cX11_root 169 = .ok (.ireturn, 1) := by decide +kernel
def zj_X11_root_126 (w0 : Nat) (w2 : Int32) (w3 : Int32) (w4 : Nat) (w5 : Nat) (w6 : Int32) (g34 : AH) (y7_126 : Int32) : Option ((AH × Int32) ⊕ (AH)) :=
  (pV g34 w0 11 2 (.int w6)).bind fun g35 => some (Sum.inl ((g35, y7_126 + (-1 : Int32))))
def zb_X11_root_81 (w0 : Nat) (w2 : Int32) (w3 : Int32) (w4 : Nat) (w5 : Nat) (w6 : Int32) (g23 : AH) (w7 : Int32) : Option ((AH × Int32) ⊕ (AH)) :=
  (if w7 < 0 then some (Sum.inr g23) else (gR g23 w0 11 4).bind fun x25 => (chk g23 w0 11).bind fun _ => (zs_X11_moved g23 w0 x25 w7).bind fun x27 => (chk x27.2 w0 11).bind fun _ => (zs_X11_sum_ x27.2 w0 w5 x27.1).bind fun x29 => (chk x29.2 w0 11).bind fun _ => (zs_X11_powered x29.2 w0 x29.1 w2).bind fun x31 => (zs_X11_compare x31.2 x31.1 w4).bind fun x32 => (if 0 < x32 then zj_X11_root_126 w0 w2 w3 w4 w5 w6 x31.2 w7 else (chk x31.2 w5 10).bind fun _ => (zs_X10_become x31.2 w5 x29.1).bind fun g37 => zj_X11_root_126 w0 w2 w3 w4 w5 w6 g37 w7))
def zs_X11_root (h : AH) (u0 : Nat) (u1 : Int32) (u2 : Int32) (u3 : Int32) : Option (Int32 × AH) :=
  (chk h u0 11).bind fun _ => (zs_X11_isSlot h u0 u1).bind fun x2 => (if x2.1 = 0 then some ((-1 : Int32), x2.2) else (chk x2.2 u0 11).bind fun _ => (zs_X11_isSlot x2.2 u0 u3).bind fun x5 => (if x5.1 = 0 then some ((-1 : Int32), x5.2) else (if u2 < (2 : Int32) then some ((-1 : Int32), x5.2) else (if u2 ≤ (9 : Int32) then (gR x5.2 u0 11 9).bind fun x9 => (aR x5.2 x9 5 u1).bind fun x10 => (gI x5.2 x10 10 0).bind fun x11 => (if x11 = 0 then (gR x5.2 u0 11 9).bind fun x13 => (aR x5.2 x13 5 u1).bind fun x14 => (chk x5.2 u0 11).bind fun _ => (zs_X11_copy x5.2 u0 x14).bind fun x16 => (gR x16.2 u0 11 3).bind fun x17 => (chk x16.2 u0 11).bind fun _ => (zs_X11_copy x16.2 u0 x17).bind fun x19 => (gI x19.2 u0 11 2).bind fun x20 => (nz u2).bind fun _ => lt_ ((((384 : Int32)) / u2) + ((1 : Int32))) fun x22 => (iter (fun q : AH × Int32 => zb_X11_root_81 u0 u2 u3 x16.1 x19.1 x20 q.1 q.2) FU ((x19.2, x22))).bind fun r38 => (gR r38 u0 11 9).bind fun x39 => (aR r38 x39 5 u3).bind fun x40 => (chk r38 x40 10).bind fun _ => (zs_X10_become r38 x40 x19.1).bind fun g42 => (chk g42 u0 11).bind fun _ => (zs_X11_powered g42 u0 x19.1 u2).bind fun x44 => (zs_X11_compare x44.2 x44.1 x16.1).bind fun x45 => (if x45 = 0 then some ((1 : Int32), x44.2) else some ((0 : Int32), x44.2)) else some ((-3 : Int32), x5.2)) else some ((-1 : Int32), x5.2)))))
set_option maxRecDepth 100000 in
set_option maxHeartbeats 4000000 in
theorem zm_X11_root (l : Launch) (D : hG) (z : Nat) {h : AH} {u0 : Nat} {u1 : Int32} {u2 : Int32} {u3 : Int32} {r : Int32} {h' : AH} (hs : zs_X11_root h u0 u1 u2 u3 = some (r, h')) : hC l D z yX11_root cX11_root 9 (Option.some Jvm.ClassFile.FieldType.int) 4 116 0 0 [.ref u0, .int u1, .int u2, .int u3] h h' (some (.int r)) := by
  refine hC_of (by decide) (Nat.le_of_ble_eq_true rfl) ?_
  intro p e s m below meth c hx hb hml hrt hlk hown hnm hts hk hr hz ls hl
  replace hown : s.vm.findClass RX11 = some m.cls := hown
  replace hl : lv_has ls 9 [(0, .ref u0), (1, .int u1), (2, .int u2), (3, .int u3)] := hl
  have hS : va_S (hA z) s.heap s.heap [] := va_S.rf
  suffices hgo : ∀ (H : Heap) (locs : List Loc), hR D z h H → va_S (hA z) s.heap H locs → W p l e ({ frames := 4, cells := 0, slots := 0, locals := 116 } : Room) s m ([.ref u0, .int u1, .int u2, .int u3] : List Value).toArray below meth c H locs 0 0 (MQ below (hQ D z h' (some (.int r))) ([.ref u0, .int u1, .int u2, .int u3] : List Value).toArray s 0 0 (hA z)) (F0 m 0 ls []) from hgo _ _ hr hS
  clear hr hS
  intro H locs hr hS
  unfold zs_X11_root at hs
  refine lv_aload_n hx hb dX11_root_0 rfl (lv_at hl 0 rfl) ?_
  refine lv_iload_n hx hb dX11_root_1 rfl (lv_at hl 1 rfl) ?_
  obtain ⟨_, ex1, hs⟩ := bi_inv hs
  obtain ⟨x2, ex2, hs⟩ := bi_inv hs
  refine hv_V1 (n := 1) [.int u1] [] hx hb hml hown hts hk hr hz hS (zm_X11_isSlot l D z ex2) ex1 rfl tw_956 tw_958 ts_21 tw_11 tw_959 (by decide +kernel) (by decide) ⟨(Nat.zero_le _), (Nat.zero_le _)⟩ rfl hl.1 (Nat.le_of_ble_eq_true rfl) dX11_root_2 rfl (fun H locs hr hS => ?_)
  refine lv_if_eq (tgt := 27) hx hb dX11_root_5 (by decide) (fun c3 => ?_) (fun c3 => ?_)
  · rw [if_pos c3] at hs
    refine lv_iconst (v := (-1)) hx hb dX11_root_27 (by decide) ?_
    obtain ⟨rfl, rfl⟩ := Prod.mk.inj (Option.some.inj hs)
    exact hv_iret hx hb hrt hlk hr hS dX11_root_28
  · rw [if_neg c3] at hs
    refine lv_aload_n hx hb dX11_root_8 rfl (lv_at hl 0 rfl) ?_
    refine lv_iload_n hx hb dX11_root_9 rfl (lv_at hl 3 rfl) ?_
    obtain ⟨_, ex4, hs⟩ := bi_inv hs
    obtain ⟨x5, ex5, hs⟩ := bi_inv hs
    refine hv_V1 (n := 1) [.int u3] [] hx hb hml hown hts hk hr hz hS (zm_X11_isSlot l D z ex5) ex4 rfl tw_956 tw_958 ts_21 tw_11 tw_959 (by decide +kernel) (by decide) ⟨(Nat.zero_le _), (Nat.zero_le _)⟩ rfl hl.1 (Nat.le_of_ble_eq_true rfl) dX11_root_10 rfl (fun H locs hr hS => ?_)
    refine lv_if_eq (tgt := 27) hx hb dX11_root_13 (by decide) (fun c6 => ?_) (fun c6 => ?_)
    · rw [if_pos c6] at hs
      refine lv_iconst (v := (-1)) hx hb dX11_root_27 (by decide) ?_
      obtain ⟨rfl, rfl⟩ := Prod.mk.inj (Option.some.inj hs)
      exact hv_iret hx hb hrt hlk hr hS dX11_root_28
    · rw [if_neg c6] at hs
      refine lv_iload_n hx hb dX11_root_16 rfl (lv_at hl 2 rfl) ?_
      refine lv_iconst (v := 2) hx hb dX11_root_17 (by decide) ?_
      refine lv_icmp_lt (tgt := 27) hx hb dX11_root_18 (by decide) (fun c7 => ?_) (fun c7 => ?_)
      · rw [if_pos c7] at hs
        refine lv_iconst (v := (-1)) hx hb dX11_root_27 (by decide) ?_
        obtain ⟨rfl, rfl⟩ := Prod.mk.inj (Option.some.inj hs)
        exact hv_iret hx hb hrt hlk hr hS dX11_root_28
      · rw [if_neg c7] at hs
        refine lv_iload_n hx hb dX11_root_21 rfl (lv_at hl 2 rfl) ?_
        refine lv_bipush (v := 9) hx hb dX11_root_22 (by decide) ?_
        refine lv_icmp_le (tgt := 29) hx hb dX11_root_24 (by decide) (fun c8 => ?_) (fun c8 => ?_)
        · rw [if_pos c8] at hs
          refine lv_aload_n hx hb dX11_root_29 rfl (lv_at hl 0 rfl) ?_
          obtain ⟨x9, ex9, hs⟩ := bi_inv hs
          refine hv_gR (C := RX11) (T := TX11) (N := 23) (ci := 11) hx hb hts inX11 hown hk hr rfl 9 (by decide) (hts _ tw_891) ex9 dX11_root_30 ?_
          refine lv_iload_n hx hb dX11_root_33 rfl (lv_at hl 1 rfl) ?_
          obtain ⟨x10, ex10, hs⟩ := bi_inv hs
          refine hv_aR (kd := 5) hx hb hk hr rfl ex10 dX11_root_34 ?_
          obtain ⟨x11, ex11, hs⟩ := bi_inv hs
          refine hv_gI (C := RX10) (T := TX10) (N := 3) (ci := 10) hx hb hts inX10 hown hk hr rfl 0 (by decide) (hts _ tw_863) ex11 dX11_root_35 ?_
          refine lv_if_eq (tgt := 44) hx hb dX11_root_38 (by decide) (fun c12 => ?_) (fun c12 => ?_)
          · rw [if_pos c12] at hs
            refine lv_aload_n hx hb dX11_root_44 rfl (lv_at hl 0 rfl) ?_
            refine lv_aload_n hx hb dX11_root_45 rfl (lv_at hl 0 rfl) ?_
            obtain ⟨x13, ex13, hs⟩ := bi_inv hs
            refine hv_gR (C := RX11) (T := TX11) (N := 23) (ci := 11) hx hb hts inX11 hown hk hr rfl 9 (by decide) (hts _ tw_891) ex13 dX11_root_46 ?_
            refine lv_iload_n hx hb dX11_root_49 rfl (lv_at hl 1 rfl) ?_
            obtain ⟨x14, ex14, hs⟩ := bi_inv hs
            refine hv_aR (kd := 5) hx hb hk hr rfl ex14 dX11_root_50 ?_
            obtain ⟨_, ex15, hs⟩ := bi_inv hs
            obtain ⟨x16, ex16, hs⟩ := bi_inv hs
            refine hv_V1 (n := 1) [.ref x14] [] hx hb hml hown hts hk hr hz hS (zm_X11_copy l D z ex16) ex15 rfl tw_996 tw_998 ts_25 tw_11 tw_999 (by decide +kernel) (by decide) ⟨(Nat.zero_le _), (Nat.zero_le _)⟩ rfl hl.1 (Nat.le_of_ble_eq_true rfl) dX11_root_51 rfl (fun H locs hr hS => ?_)
            refine lv_astore (lv' := [(4, .ref x16.1), (0, .ref u0), (1, .int u1), (2, .int u2), (3, .int u3)]) hx hb dX11_root_54 hl (by decide) rfl (fun ls hl => ?_)
            refine lv_aload_n hx hb dX11_root_56 rfl (lv_at hl 1 rfl) ?_
            refine lv_aload_n hx hb dX11_root_57 rfl (lv_at hl 1 rfl) ?_
            obtain ⟨x17, ex17, hs⟩ := bi_inv hs
            refine hv_gR (C := RX11) (T := TX11) (N := 23) (ci := 11) hx hb hts inX11 hown hk hr rfl 3 (by decide) (hts _ tw_885) ex17 dX11_root_58 ?_
            obtain ⟨_, ex18, hs⟩ := bi_inv hs
            obtain ⟨x19, ex19, hs⟩ := bi_inv hs
            refine hv_V1 (n := 1) [.ref x17] [] hx hb hml hown hts hk hr hz hS (zm_X11_copy l D z ex19) ex18 rfl tw_996 tw_998 ts_25 tw_11 tw_999 (by decide +kernel) (by decide) ⟨(Nat.zero_le _), (Nat.zero_le _)⟩ rfl hl.1 (Nat.le_of_ble_eq_true rfl) dX11_root_61 rfl (fun H locs hr hS => ?_)
            refine lv_astore (lv' := [(5, .ref x19.1), (4, .ref x16.1), (0, .ref u0), (1, .int u1), (2, .int u2), (3, .int u3)]) hx hb dX11_root_64 hl (by decide) rfl (fun ls hl => ?_)
            refine lv_aload_n hx hb dX11_root_66 rfl (lv_at hl 2 rfl) ?_
            obtain ⟨x20, ex20, hs⟩ := bi_inv hs
            refine hv_gI (C := RX11) (T := TX11) (N := 23) (ci := 11) hx hb hts inX11 hown hk hr rfl 2 (by decide) (hts _ tw_884) ex20 dX11_root_67 ?_
            refine lv_istore (lv' := [(6, .int x20), (5, .ref x19.1), (4, .ref x16.1), (0, .ref u0), (1, .int u1), (2, .int u2), (3, .int u3)]) hx hb dX11_root_70 hl (by decide) rfl (fun ls hl => ?_)
            refine lv_sipush (v := 384) hx hb dX11_root_72 (by decide) ?_
            refine lv_iload_n hx hb dX11_root_75 rfl (lv_at hl 5 rfl) ?_
            obtain ⟨_, ex21, hs⟩ := bi_inv hs
            refine lv_idiv hx hb dX11_root_76 (nz_inv ex21) ?_
            refine lv_iconst (v := 1) hx hb dX11_root_77 (by decide) ?_
            refine lv_iadd hx hb dX11_root_78 ?_
            refine lv_topi (fun x22 ex22 => ?_)
            replace hs := lt_inv hs x22 ex22
            refine lv_istore (lv' := [(7, .int x22), (6, .int x20), (5, .ref x19.1), (4, .ref x16.1), (0, .ref u0), (1, .int u1), (2, .int u2), (3, .int u3)]) hx hb dX11_root_79 hl (by decide) rfl (fun ls hl => ?_)
            obtain ⟨r38, er38, hs⟩ := bi_inv hs
            refine iter_W (fun (q : AH × Int32) => ∀ (H : Heap) (locs : List Loc) (ls : Array Slot), hR D z q.1 H → va_S (hA z) s.heap H locs → lv_has ls 9 [(0, .ref u0), (2, .int u2), (3, .int u3), (4, .ref x16.1), (5, .ref x19.1), (6, .int x20), (7, .int q.2)] → W p l e ({ frames := 4, cells := 0, slots := 0, locals := 116 } : Room) s m ([.ref u0, .int u1, .int u2, .int u3] : List Value).toArray below meth c H locs 0 0 (MQ below (hQ D z h' (some (.int r))) ([.ref u0, .int u1, .int u2, .int u3] : List Value).toArray s 0 0 (hA z)) (F0 m 81 ls [])) (fun (x : AH) => ∀ (H : Heap) (locs : List Loc) (ls : Array Slot), hR D z x H → va_S (hA z) s.heap H locs → lv_has ls 9 [(0, .ref u0), (2, .int u2), (3, .int u3), (4, .ref x16.1), (5, .ref x19.1)] → W p l e ({ frames := 4, cells := 0, slots := 0, locals := 116 } : Room) s m ([.ref u0, .int u1, .int u2, .int u3] : List Value).toArray below meth c H locs 0 0 (MQ below (hQ D z h' (some (.int r))) ([.ref u0, .int u1, .int u2, .int u3] : List Value).toArray s 0 0 (hA z)) (F0 m 138 ls [])) ?_ FU _ r38 er38 ?_ H locs ls hr hS (lv_sub hl [4, 6, 7, 3, 2, 1, 0] rfl)
            · intro q o hs hcont hexit
              obtain ⟨g23, w7⟩ := q
              replace hs : zb_X11_root_81 u0 u2 u3 x16.1 x19.1 x20 g23 w7 = some o := hs
              intro H locs ls hr hS hl
              have hJ126 : ∀ (g34 : AH) (y7_126 : Int32) (H : Heap) (locs : List Loc) (ls : Array Slot), zj_X11_root_126 u0 u2 u3 x16.1 x19.1 x20 g34 y7_126 = some o → hR D z g34 H → va_S (hA z) s.heap H locs → lv_has ls 9 [(0, .ref u0), (2, .int u2), (3, .int u3), (4, .ref x16.1), (5, .ref x19.1), (6, .int x20), (7, .int y7_126)] → W p l e ({ frames := 4, cells := 0, slots := 0, locals := 116 } : Room) s m ([.ref u0, .int u1, .int u2, .int u3] : List Value).toArray below meth c H locs 0 0 (MQ below (hQ D z h' (some (.int r))) ([.ref u0, .int u1, .int u2, .int u3] : List Value).toArray s 0 0 (hA z)) (F0 m 126 ls []) := by
                intro g34 y7_126 H locs ls hs hr hS hl
                unfold zj_X11_root_126 at hs
                refine lv_aload_n hx hb dX11_root_126 rfl (lv_at hl 0 rfl) ?_
                refine lv_iload hx hb dX11_root_127 (lv_at hl 5 rfl) ?_
                obtain ⟨g35, eg35, hs⟩ := bi_inv hs
                refine hv_pV (C := RX11) (T := TX11) (N := 23) (ci := 11) hx hb hts inX11 tyX11 tyX11_ok nmX11 hown hk hr hS rfl 2 (by decide) (hts _ tw_884) rfl rfl rfl eg35 dX11_root_129 (fun H locs hr hS => ?_)
                refine lv_iinc (v := y7_126 + (-1 : Int32)) (lv' := [(7, .int (y7_126 + (-1 : Int32))), (0, .ref u0), (2, .int u2), (3, .int u3), (4, .ref x16.1), (5, .ref x19.1), (6, .int x20)]) hx hb dX11_root_132 hl (k := 6) rfl (ii_v _ (by decide)) (by decide) rfl (fun ls hl => ?_)
                refine lv_goto (tgt := 81) hx hb dX11_root_135 (by decide) ?_
                obtain rfl := Option.some.inj hs
                exact hcont _ rfl H locs ls hr hS (lv_sub hl [1, 2, 3, 4, 5, 6, 0] rfl)
              unfold zb_X11_root_81 at hs
              refine lv_iload hx hb dX11_root_81 (lv_at hl 6 rfl) ?_
              refine lv_if_lt (tgt := 138) hx hb dX11_root_83 (by decide) (fun c24 => ?_) (fun c24 => ?_)
              · rw [if_pos c24] at hs
                obtain rfl := Option.some.inj hs
                exact hexit _ rfl H locs ls hr hS (lv_sub hl [0, 1, 2, 3, 4] rfl)
              · rw [if_neg c24] at hs
                refine lv_aload_n hx hb dX11_root_86 rfl (lv_at hl 0 rfl) ?_
                refine lv_aload hx hb dX11_root_87 (lv_at hl 4 rfl) ?_
                refine lv_aload_n hx hb dX11_root_89 rfl (lv_at hl 0 rfl) ?_
                refine lv_aload_n hx hb dX11_root_90 rfl (lv_at hl 0 rfl) ?_
                obtain ⟨x25, ex25, hs⟩ := bi_inv hs
                refine hv_gR (C := RX11) (T := TX11) (N := 23) (ci := 11) hx hb hts inX11 hown hk hr rfl 4 (by decide) (hts _ tw_886) ex25 dX11_root_91 ?_
                refine lv_iload hx hb dX11_root_94 (lv_at hl 6 rfl) ?_
                obtain ⟨_, ex26, hs⟩ := bi_inv hs
                obtain ⟨x27, ex27, hs⟩ := bi_inv hs
                refine hv_V1 (n := 2) [.ref x25, .int w7] [.ref x19.1, .ref u0] hx hb hml hown hts hk hr hz hS (zm_X11_moved l D z ex27) ex26 rfl tw_1049 tw_1051 ts_34 tw_11 tw_1052 (by decide +kernel) (by decide) ⟨(Nat.zero_le _), (Nat.zero_le _)⟩ rfl hl.1 (Nat.le_of_ble_eq_true rfl) dX11_root_96 rfl (fun H locs hr hS => ?_)
                obtain ⟨_, ex28, hs⟩ := bi_inv hs
                obtain ⟨x29, ex29, hs⟩ := bi_inv hs
                refine hv_V1 (n := 2) [.ref x19.1, .ref x27.1] [] hx hb hml hown hts hk hr hz hS (zm_X11_sum_ l D z ex29) ex28 rfl tw_1007 tw_1009 ts_27 tw_11 tw_1010 (by decide +kernel) (by decide) ⟨(Nat.zero_le _), (Nat.zero_le _)⟩ rfl hl.1 (Nat.le_of_ble_eq_true rfl) dX11_root_99 rfl (fun H locs hr hS => ?_)
                refine lv_astore (lv' := [(8, .ref x29.1), (0, .ref u0), (2, .int u2), (3, .int u3), (4, .ref x16.1), (5, .ref x19.1), (6, .int x20), (7, .int w7)]) hx hb dX11_root_102 hl (by decide) rfl (fun ls hl => ?_)
                refine lv_aload_n hx hb dX11_root_104 rfl (lv_at hl 1 rfl) ?_
                refine lv_aload hx hb dX11_root_105 (lv_at hl 0 rfl) ?_
                refine lv_iload_n hx hb dX11_root_107 rfl (lv_at hl 2 rfl) ?_
                obtain ⟨_, ex30, hs⟩ := bi_inv hs
                obtain ⟨x31, ex31, hs⟩ := bi_inv hs
                refine hv_V1 (n := 2) [.ref x29.1, .int u2] [] hx hb hml hown hts hk hr hz hS (zm_X11_powered l D z ex31) ex30 rfl tw_1127 tw_1129 ts_40 tw_11 tw_1130 (by decide +kernel) (by decide) ⟨(Nat.zero_le _), (Nat.zero_le _)⟩ rfl hl.1 (Nat.le_of_ble_eq_true rfl) dX11_root_108 rfl (fun H locs hr hS => ?_)
                refine lv_aload hx hb dX11_root_111 (lv_at hl 4 rfl) ?_
                obtain ⟨x32, ex32, hs⟩ := bi_inv hs
                refine hv_S1 (n := 2) [.ref x31.1, .ref x16.1] [] hx hb hml hown hts hk hr hz hS (zm_X11_compare l D z ex32) tw_1080 tw_1081 tw_11 tw_1082 (by decide +kernel) (by decide) ⟨(Nat.zero_le _), (Nat.zero_le _)⟩ rfl hl.1 (Nat.le_of_ble_eq_true rfl) dX11_root_113 rfl (fun H locs hr hS => ?_)
                refine lv_if_gt (tgt := 126) hx hb dX11_root_116 (by decide) (fun c33 => ?_) (fun c33 => ?_)
                · rw [if_pos c33] at hs
                  exact hJ126 x31.2 w7 H locs ls hs hr hS (lv_sub hl [1, 2, 3, 4, 5, 6, 7] rfl)
                · rw [if_neg c33] at hs
                  refine lv_aload hx hb dX11_root_119 (lv_at hl 5 rfl) ?_
                  refine lv_aload hx hb dX11_root_121 (lv_at hl 0 rfl) ?_
                  obtain ⟨_, ex36, hs⟩ := bi_inv hs
                  obtain ⟨g37, eg37, hs⟩ := bi_inv hs
                  refine hv_V0 (n := 1) [.ref x29.1] [] hx hb hml hown hts hk hr hz hS (zm_X10_become l D z eg37) ex36 rfl tw_875 tw_876 tw_877 tw_12 tw_878 (by decide +kernel) (by decide) ⟨(Nat.zero_le _), (Nat.zero_le _)⟩ rfl hl.1 (Nat.le_of_ble_eq_true rfl) dX11_root_123 rfl (fun H locs hr hS => ?_)
                  exact hJ126 g37 w7 H locs ls hs hr hS (lv_sub hl [1, 2, 3, 4, 5, 6, 7] rfl)
            · intro H locs ls hr hS hl
              refine lv_aload_n hx hb dX11_root_138 rfl (lv_at hl 0 rfl) ?_
              obtain ⟨x39, ex39, hs⟩ := bi_inv hs
              refine hv_gR (C := RX11) (T := TX11) (N := 23) (ci := 11) hx hb hts inX11 hown hk hr rfl 9 (by decide) (hts _ tw_891) ex39 dX11_root_139 ?_
              refine lv_iload_n hx hb dX11_root_142 rfl (lv_at hl 2 rfl) ?_
              obtain ⟨x40, ex40, hs⟩ := bi_inv hs
              refine hv_aR (kd := 5) hx hb hk hr rfl ex40 dX11_root_143 ?_
              refine lv_aload hx hb dX11_root_144 (lv_at hl 4 rfl) ?_
              obtain ⟨_, ex41, hs⟩ := bi_inv hs
              obtain ⟨g42, eg42, hs⟩ := bi_inv hs
              refine hv_V0 (n := 1) [.ref x19.1] [] hx hb hml hown hts hk hr hz hS (zm_X10_become l D z eg42) ex41 rfl tw_875 tw_876 tw_877 tw_12 tw_878 (by decide +kernel) (by decide) ⟨(Nat.zero_le _), (Nat.zero_le _)⟩ rfl hl.1 (Nat.le_of_ble_eq_true rfl) dX11_root_146 rfl (fun H locs hr hS => ?_)
              refine lv_aload_n hx hb dX11_root_149 rfl (lv_at hl 0 rfl) ?_
              refine lv_aload hx hb dX11_root_150 (lv_at hl 4 rfl) ?_
              refine lv_iload_n hx hb dX11_root_152 rfl (lv_at hl 1 rfl) ?_
              obtain ⟨_, ex43, hs⟩ := bi_inv hs
              obtain ⟨x44, ex44, hs⟩ := bi_inv hs
              refine hv_V1 (n := 2) [.ref x19.1, .int u2] [] hx hb hml hown hts hk hr hz hS (zm_X11_powered l D z ex44) ex43 rfl tw_1127 tw_1129 ts_40 tw_11 tw_1130 (by decide +kernel) (by decide) ⟨(Nat.zero_le _), (Nat.zero_le _)⟩ rfl hl.1 (Nat.le_of_ble_eq_true rfl) dX11_root_153 rfl (fun H locs hr hS => ?_)
              refine lv_aload hx hb dX11_root_156 (lv_at hl 3 rfl) ?_
              obtain ⟨x45, ex45, hs⟩ := bi_inv hs
              refine hv_S1 (n := 2) [.ref x44.1, .ref x16.1] [] hx hb hml hown hts hk hr hz hS (zm_X11_compare l D z ex45) tw_1080 tw_1081 tw_11 tw_1082 (by decide +kernel) (by decide) ⟨(Nat.zero_le _), (Nat.zero_le _)⟩ rfl hl.1 (Nat.le_of_ble_eq_true rfl) dX11_root_158 rfl (fun H locs hr hS => ?_)
              refine lv_if_ne (tgt := 168) hx hb dX11_root_161 (by decide) (fun c46 => ?_) (fun c46 => ?_)
              · rw [if_neg c46] at hs
                refine lv_iconst (v := 0) hx hb dX11_root_168 (by decide) ?_
                obtain ⟨rfl, rfl⟩ := Prod.mk.inj (Option.some.inj hs)
                exact hv_iret hx hb hrt hlk hr hS dX11_root_169
              · rw [if_pos c46] at hs
                refine lv_iconst (v := 1) hx hb dX11_root_164 (by decide) ?_
                refine lv_goto (tgt := 169) hx hb dX11_root_165 (by decide) ?_
                obtain ⟨rfl, rfl⟩ := Prod.mk.inj (Option.some.inj hs)
                exact hv_iret hx hb hrt hlk hr hS dX11_root_169
          · rw [if_neg c12] at hs
            refine lv_bipush (v := (-3)) hx hb dX11_root_41 (by decide) ?_
            obtain ⟨rfl, rfl⟩ := Prod.mk.inj (Option.some.inj hs)
            exact hv_iret hx hb hrt hlk hr hS dX11_root_43
        · rw [if_neg c8] at hs
          refine lv_iconst (v := (-1)) hx hb dX11_root_27 (by decide) ?_
          obtain ⟨rfl, rfl⟩ := Prod.mk.inj (Option.some.inj hs)
          exact hv_iret hx hb hrt hlk hr hS dX11_root_28
theorem dX11_set_0 : decode cX11_set 0 = .ok (.aload_n 0, 1) := by decide +kernel
theorem dX11_set_1 : decode cX11_set 1 = .ok (.iload_n 1, 1) := by decide +kernel
theorem dX11_set_2 : decode cX11_set 2 = .ok (.invokevirtual 177, 3) := by decide +kernel
theorem dX11_set_5 : decode cX11_set 5 = .ok (.ifCond .eq 16, 3) := by decide +kernel
theorem dX11_set_8 : decode cX11_set 8 = .ok (.aload_n 0, 1) := by decide +kernel
theorem dX11_set_9 : decode cX11_set 9 = .ok (.iload_n 1, 1) := by decide +kernel
theorem dX11_set_10 : decode cX11_set 10 = .ok (.aload_n 0, 1) := by decide +kernel
theorem dX11_set_11 : decode cX11_set 11 = .ok (.lload_n 2, 1) := by decide +kernel
theorem dX11_set_12 : decode cX11_set 12 = .ok (.invokevirtual 87, 3) := by decide +kernel
theorem dX11_set_15 : decode cX11_set 15 = .ok (.invokevirtual 180, 3) := by decide +kernel
theorem dX11_set_18 : decode cX11_set 18 = .ok (.goto 4, 3) := by decide +kernel
theorem dX11_set_21 : decode cX11_set 21 = .ok (.iconst (-1), 1) := by decide +kernel
theorem dX11_set_22 : decode cX11_set 22 = .ok (.ireturn, 1) := by decide +kernel
def zs_X11_set (h : AH) (u0 : Nat) (u1 : Int32) (u2 : Int64) : Option (Int32 × AH) :=
  (chk h u0 11).bind fun _ => (zs_X11_isSlot h u0 u1).bind fun x2 => (if x2.1 = 0 then some ((-1 : Int32), x2.2) else (chk x2.2 u0 11).bind fun _ => (zs_X11_of x2.2 u0 u2).bind fun x5 => (chk x5.2 u0 11).bind fun _ => (zs_X11_keep x5.2 u0 u1 x5.1).bind fun x7 => some (x7.1, x7.2))
set_option maxRecDepth 100000 in
set_option maxHeartbeats 4000000 in
theorem zm_X11_set (l : Launch) (D : hG) (z : Nat) {h : AH} {u0 : Nat} {u1 : Int32} {u2 : Int64} {r : Int32} {h' : AH} (hs : zs_X11_set h u0 u1 u2 = some (r, h')) : hC l D z yX11_set cX11_set 4 (Option.some Jvm.ClassFile.FieldType.int) 4 91 0 0 [.ref u0, .int u1, .long u2] h h' (some (.int r)) := by
  refine hC_of (by decide) (Nat.le_of_ble_eq_true rfl) ?_
  intro p e s m below meth c hx hb hml hrt hlk hown hnm hts hk hr hz ls hl
  replace hown : s.vm.findClass RX11 = some m.cls := hown
  replace hl : lv_has ls 4 [(0, .ref u0), (1, .int u1), (2, .long u2)] := hl
  have hS : va_S (hA z) s.heap s.heap [] := va_S.rf
  suffices hgo : ∀ (H : Heap) (locs : List Loc), hR D z h H → va_S (hA z) s.heap H locs → W p l e ({ frames := 4, cells := 0, slots := 0, locals := 91 } : Room) s m ([.ref u0, .int u1, .long u2] : List Value).toArray below meth c H locs 0 0 (MQ below (hQ D z h' (some (.int r))) ([.ref u0, .int u1, .long u2] : List Value).toArray s 0 0 (hA z)) (F0 m 0 ls []) from hgo _ _ hr hS
  clear hr hS
  intro H locs hr hS
  unfold zs_X11_set at hs
  refine lv_aload_n hx hb dX11_set_0 rfl (lv_at hl 0 rfl) ?_
  refine lv_iload_n hx hb dX11_set_1 rfl (lv_at hl 1 rfl) ?_
  obtain ⟨_, ex1, hs⟩ := bi_inv hs
  obtain ⟨x2, ex2, hs⟩ := bi_inv hs
  refine hv_V1 (n := 1) [.int u1] [] hx hb hml hown hts hk hr hz hS (zm_X11_isSlot l D z ex2) ex1 rfl tw_956 tw_958 ts_21 tw_11 tw_959 (by decide +kernel) (by decide) ⟨(Nat.zero_le _), (Nat.zero_le _)⟩ rfl hl.1 (Nat.le_of_ble_eq_true rfl) dX11_set_2 rfl (fun H locs hr hS => ?_)
  refine lv_if_eq (tgt := 21) hx hb dX11_set_5 (by decide) (fun c3 => ?_) (fun c3 => ?_)
  · rw [if_pos c3] at hs
    refine lv_iconst (v := (-1)) hx hb dX11_set_21 (by decide) ?_
    obtain ⟨rfl, rfl⟩ := Prod.mk.inj (Option.some.inj hs)
    exact hv_iret hx hb hrt hlk hr hS dX11_set_22
  · rw [if_neg c3] at hs
    refine lv_aload_n hx hb dX11_set_8 rfl (lv_at hl 0 rfl) ?_
    refine lv_iload_n hx hb dX11_set_9 rfl (lv_at hl 1 rfl) ?_
    refine lv_aload_n hx hb dX11_set_10 rfl (lv_at hl 0 rfl) ?_
    refine lv_lload_n hx hb dX11_set_11 rfl (lv_at hl 2 rfl) ?_
    obtain ⟨_, ex4, hs⟩ := bi_inv hs
    obtain ⟨x5, ex5, hs⟩ := bi_inv hs
    refine hv_V1 (n := 1) [.long u2] [.int u1, .ref u0] hx hb hml hown hts hk hr hz hS (zm_X11_of l D z ex5) ex4 rfl tw_960 tw_962 ts_22 tw_11 tw_963 (by decide +kernel) (by decide) ⟨(Nat.zero_le _), (Nat.zero_le _)⟩ rfl hl.1 (Nat.le_of_ble_eq_true rfl) dX11_set_12 rfl (fun H locs hr hS => ?_)
    obtain ⟨_, ex6, hs⟩ := bi_inv hs
    obtain ⟨x7, ex7, hs⟩ := bi_inv hs
    refine hv_V1 (n := 2) [.int u1, .ref x5.1] [] hx hb hml hown hts hk hr hz hS (zm_X11_keep l D z ex7) ex6 rfl tw_973 tw_975 ts_24 tw_11 tw_976 (by decide +kernel) (by decide) ⟨(Nat.zero_le _), (Nat.zero_le _)⟩ rfl hl.1 (Nat.le_of_ble_eq_true rfl) dX11_set_15 rfl (fun H locs hr hS => ?_)
    refine lv_goto (tgt := 22) hx hb dX11_set_18 (by decide) ?_
    obtain ⟨rfl, rfl⟩ := Prod.mk.inj (Option.some.inj hs)
    exact hv_iret hx hb hrt hlk hr hS dX11_set_22
theorem dX11_shift_0 : decode cX11_shift 0 = .ok (.aload_n 0, 1) := by decide +kernel
theorem dX11_shift_1 : decode cX11_shift 1 = .ok (.iload_n 1, 1) := by decide +kernel
theorem dX11_shift_2 : decode cX11_shift 2 = .ok (.invokevirtual 177, 3) := by decide +kernel
theorem dX11_shift_5 : decode cX11_shift 5 = .ok (.ifCond .eq 25, 3) := by decide +kernel
theorem dX11_shift_8 : decode cX11_shift 8 = .ok (.aload_n 0, 1) := by decide +kernel
theorem dX11_shift_9 : decode cX11_shift 9 = .ok (.iload_n 3, 1) := by decide +kernel
theorem dX11_shift_10 : decode cX11_shift 10 = .ok (.invokevirtual 177, 3) := by decide +kernel
theorem dX11_shift_13 : decode cX11_shift 13 = .ok (.ifCond .eq 17, 3) := by decide +kernel
theorem dX11_shift_16 : decode cX11_shift 16 = .ok (.iload_n 2, 1) := by decide +kernel
theorem dX11_shift_17 : decode cX11_shift 17 = .ok (.sipush (-1000), 3) := by decide +kernel
theorem dX11_shift_20 : decode cX11_shift 20 = .ok (.if_icmp .lt 10, 3) := by decide +kernel
theorem dX11_shift_23 : decode cX11_shift 23 = .ok (.iload_n 2, 1) := by decide +kernel
theorem dX11_shift_24 : decode cX11_shift 24 = .ok (.sipush 1000, 3) := by decide +kernel
theorem dX11_shift_27 : decode cX11_shift 27 = .ok (.if_icmp .le 5, 3) := by decide +kernel
theorem dX11_shift_30 : decode cX11_shift 30 = .ok (.iconst (-1), 1) := by decide +kernel
theorem dX11_shift_31 : decode cX11_shift 31 = .ok (.ireturn, 1) := by decide +kernel
theorem dX11_shift_32 : decode cX11_shift 32 = .ok (.iload_n 2, 1) := by decide +kernel
theorem dX11_shift_33 : decode cX11_shift 33 = .ok (.ifCond .lt 20, 3) := by decide +kernel
theorem dX11_shift_36 : decode cX11_shift 36 = .ok (.aload_n 0, 1) := by decide +kernel
theorem dX11_shift_37 : decode cX11_shift 37 = .ok (.iload_n 3, 1) := by decide +kernel
theorem dX11_shift_38 : decode cX11_shift 38 = .ok (.aload_n 0, 1) := by decide +kernel
theorem dX11_shift_39 : decode cX11_shift 39 = .ok (.aload_n 0, 1) := by decide +kernel
theorem dX11_shift_40 : decode cX11_shift 40 = .ok (.getfield 142, 3) := by decide +kernel
theorem dX11_shift_43 : decode cX11_shift 43 = .ok (.iload_n 1, 1) := by decide +kernel
theorem dX11_shift_44 : decode cX11_shift 44 = .ok (.aaload, 1) := by decide +kernel
theorem dX11_shift_45 : decode cX11_shift 45 = .ok (.iload_n 2, 1) := by decide +kernel
theorem dX11_shift_46 : decode cX11_shift 46 = .ok (.invokevirtual 100, 3) := by decide +kernel
theorem dX11_shift_49 : decode cX11_shift 49 = .ok (.invokevirtual 180, 3) := by decide +kernel
theorem dX11_shift_52 : decode cX11_shift 52 = .ok (.ireturn, 1) := by decide +kernel
theorem dX11_shift_53 : decode cX11_shift 53 = .ok (.aload_n 0, 1) := by decide +kernel
theorem dX11_shift_54 : decode cX11_shift 54 = .ok (.iconst 1, 1) := by decide +kernel
theorem dX11_shift_55 : decode cX11_shift 55 = .ok (.aload_n 0, 1) := by decide +kernel
theorem dX11_shift_56 : decode cX11_shift 56 = .ok (.getfield 142, 3) := by decide +kernel
theorem dX11_shift_59 : decode cX11_shift 59 = .ok (.iload_n 1, 1) := by decide +kernel
theorem dX11_shift_60 : decode cX11_shift 60 = .ok (.aaload, 1) := by decide +kernel
theorem dX11_shift_61 : decode cX11_shift 61 = .ok (.aload_n 0, 1) := by decide +kernel
theorem dX11_shift_62 : decode cX11_shift 62 = .ok (.aload_n 0, 1) := by decide +kernel
theorem dX11_shift_63 : decode cX11_shift 63 = .ok (.getfield 113, 3) := by decide +kernel
theorem dX11_shift_66 : decode cX11_shift 66 = .ok (.iload_n 2, 1) := by decide +kernel
theorem dX11_shift_67 : decode cX11_shift 67 = .ok (.ineg, 1) := by decide +kernel
theorem dX11_shift_68 : decode cX11_shift 68 = .ok (.invokevirtual 100, 3) := by decide +kernel
theorem dX11_shift_71 : decode cX11_shift 71 = .ok (.invokevirtual 207, 3) := by decide +kernel
theorem dX11_shift_74 : decode cX11_shift 74 = .ok (.aload_n 0, 1) := by decide +kernel
theorem dX11_shift_75 : decode cX11_shift 75 = .ok (.iload_n 3, 1) := by decide +kernel
theorem dX11_shift_76 : decode cX11_shift 76 = .ok (.aload_n 0, 1) := by decide +kernel
theorem dX11_shift_77 : decode cX11_shift 77 = .ok (.getfield 78, 3) := by decide +kernel
theorem dX11_shift_80 : decode cX11_shift 80 = .ok (.invokevirtual 180, 3) := by decide +kernel
theorem dX11_shift_83 : decode cX11_shift 83 = .ok (.ireturn, 1) := by decide +kernel
def zs_X11_shift (h : AH) (u0 : Nat) (u1 : Int32) (u2 : Int32) (u3 : Int32) : Option (Int32 × AH) :=
  (chk h u0 11).bind fun _ => (zs_X11_isSlot h u0 u1).bind fun x2 => (if x2.1 = 0 then some ((-1 : Int32), x2.2) else (chk x2.2 u0 11).bind fun _ => (zs_X11_isSlot x2.2 u0 u3).bind fun x5 => (if x5.1 = 0 then some ((-1 : Int32), x5.2) else (if u2 < (-1000 : Int32) then some ((-1 : Int32), x5.2) else (if u2 ≤ (1000 : Int32) then (if u2 < 0 then (gR x5.2 u0 11 9).bind fun x10 => (aR x5.2 x10 5 u1).bind fun x11 => (gR x5.2 u0 11 4).bind fun x12 => (chk x5.2 u0 11).bind fun _ => (zs_X11_moved x5.2 u0 x12 (-u2)).bind fun x14 => (chk x14.2 u0 11).bind fun _ => (zs_X11_over x14.2 u0 ((1 : Int32)) x11 x14.1).bind fun g16 => (gR g16 u0 11 5).bind fun x17 => (chk g16 u0 11).bind fun _ => (zs_X11_keep g16 u0 u3 x17).bind fun x19 => some (x19.1, x19.2) else (gR x5.2 u0 11 9).bind fun x20 => (aR x5.2 x20 5 u1).bind fun x21 => (chk x5.2 u0 11).bind fun _ => (zs_X11_moved x5.2 u0 x21 u2).bind fun x23 => (chk x23.2 u0 11).bind fun _ => (zs_X11_keep x23.2 u0 u3 x23.1).bind fun x25 => some (x25.1, x25.2)) else some ((-1 : Int32), x5.2)))))
set_option maxRecDepth 100000 in
set_option maxHeartbeats 4000000 in
theorem zm_X11_shift (l : Launch) (D : hG) (z : Nat) {h : AH} {u0 : Nat} {u1 : Int32} {u2 : Int32} {u3 : Int32} {r : Int32} {h' : AH} (hs : zs_X11_shift h u0 u1 u2 u3 = some (r, h')) : hC l D z yX11_shift cX11_shift 4 (Option.some Jvm.ClassFile.FieldType.int) 6 166 0 0 [.ref u0, .int u1, .int u2, .int u3] h h' (some (.int r)) := by
  refine hC_of (by decide) (Nat.le_of_ble_eq_true rfl) ?_
  intro p e s m below meth c hx hb hml hrt hlk hown hnm hts hk hr hz ls hl
  replace hown : s.vm.findClass RX11 = some m.cls := hown
  replace hl : lv_has ls 4 [(0, .ref u0), (1, .int u1), (2, .int u2), (3, .int u3)] := hl
  have hS : va_S (hA z) s.heap s.heap [] := va_S.rf
  suffices hgo : ∀ (H : Heap) (locs : List Loc), hR D z h H → va_S (hA z) s.heap H locs → W p l e ({ frames := 6, cells := 0, slots := 0, locals := 166 } : Room) s m ([.ref u0, .int u1, .int u2, .int u3] : List Value).toArray below meth c H locs 0 0 (MQ below (hQ D z h' (some (.int r))) ([.ref u0, .int u1, .int u2, .int u3] : List Value).toArray s 0 0 (hA z)) (F0 m 0 ls []) from hgo _ _ hr hS
  clear hr hS
  intro H locs hr hS
  unfold zs_X11_shift at hs
  refine lv_aload_n hx hb dX11_shift_0 rfl (lv_at hl 0 rfl) ?_
  refine lv_iload_n hx hb dX11_shift_1 rfl (lv_at hl 1 rfl) ?_
  obtain ⟨_, ex1, hs⟩ := bi_inv hs
  obtain ⟨x2, ex2, hs⟩ := bi_inv hs
  refine hv_V1 (n := 1) [.int u1] [] hx hb hml hown hts hk hr hz hS (zm_X11_isSlot l D z ex2) ex1 rfl tw_956 tw_958 ts_21 tw_11 tw_959 (by decide +kernel) (by decide) ⟨(Nat.zero_le _), (Nat.zero_le _)⟩ rfl hl.1 (Nat.le_of_ble_eq_true rfl) dX11_shift_2 rfl (fun H locs hr hS => ?_)
  refine lv_if_eq (tgt := 30) hx hb dX11_shift_5 (by decide) (fun c3 => ?_) (fun c3 => ?_)
  · rw [if_pos c3] at hs
    refine lv_iconst (v := (-1)) hx hb dX11_shift_30 (by decide) ?_
    obtain ⟨rfl, rfl⟩ := Prod.mk.inj (Option.some.inj hs)
    exact hv_iret hx hb hrt hlk hr hS dX11_shift_31
  · rw [if_neg c3] at hs
    refine lv_aload_n hx hb dX11_shift_8 rfl (lv_at hl 0 rfl) ?_
    refine lv_iload_n hx hb dX11_shift_9 rfl (lv_at hl 3 rfl) ?_
    obtain ⟨_, ex4, hs⟩ := bi_inv hs
    obtain ⟨x5, ex5, hs⟩ := bi_inv hs
    refine hv_V1 (n := 1) [.int u3] [] hx hb hml hown hts hk hr hz hS (zm_X11_isSlot l D z ex5) ex4 rfl tw_956 tw_958 ts_21 tw_11 tw_959 (by decide +kernel) (by decide) ⟨(Nat.zero_le _), (Nat.zero_le _)⟩ rfl hl.1 (Nat.le_of_ble_eq_true rfl) dX11_shift_10 rfl (fun H locs hr hS => ?_)
    refine lv_if_eq (tgt := 30) hx hb dX11_shift_13 (by decide) (fun c6 => ?_) (fun c6 => ?_)
    · rw [if_pos c6] at hs
      refine lv_iconst (v := (-1)) hx hb dX11_shift_30 (by decide) ?_
      obtain ⟨rfl, rfl⟩ := Prod.mk.inj (Option.some.inj hs)
      exact hv_iret hx hb hrt hlk hr hS dX11_shift_31
    · rw [if_neg c6] at hs
      refine lv_iload_n hx hb dX11_shift_16 rfl (lv_at hl 2 rfl) ?_
      refine lv_sipush (v := (-1000)) hx hb dX11_shift_17 (by decide) ?_
      refine lv_icmp_lt (tgt := 30) hx hb dX11_shift_20 (by decide) (fun c7 => ?_) (fun c7 => ?_)
      · rw [if_pos c7] at hs
        refine lv_iconst (v := (-1)) hx hb dX11_shift_30 (by decide) ?_
        obtain ⟨rfl, rfl⟩ := Prod.mk.inj (Option.some.inj hs)
        exact hv_iret hx hb hrt hlk hr hS dX11_shift_31
      · rw [if_neg c7] at hs
        refine lv_iload_n hx hb dX11_shift_23 rfl (lv_at hl 2 rfl) ?_
        refine lv_sipush (v := 1000) hx hb dX11_shift_24 (by decide) ?_
        refine lv_icmp_le (tgt := 32) hx hb dX11_shift_27 (by decide) (fun c8 => ?_) (fun c8 => ?_)
        · rw [if_pos c8] at hs
          refine lv_iload_n hx hb dX11_shift_32 rfl (lv_at hl 2 rfl) ?_
          refine lv_if_lt (tgt := 53) hx hb dX11_shift_33 (by decide) (fun c9 => ?_) (fun c9 => ?_)
          · rw [if_pos c9] at hs
            refine lv_aload_n hx hb dX11_shift_53 rfl (lv_at hl 0 rfl) ?_
            refine lv_iconst (v := 1) hx hb dX11_shift_54 (by decide) ?_
            refine lv_aload_n hx hb dX11_shift_55 rfl (lv_at hl 0 rfl) ?_
            obtain ⟨x10, ex10, hs⟩ := bi_inv hs
            refine hv_gR (C := RX11) (T := TX11) (N := 23) (ci := 11) hx hb hts inX11 hown hk hr rfl 9 (by decide) (hts _ tw_891) ex10 dX11_shift_56 ?_
            refine lv_iload_n hx hb dX11_shift_59 rfl (lv_at hl 1 rfl) ?_
            obtain ⟨x11, ex11, hs⟩ := bi_inv hs
            refine hv_aR (kd := 5) hx hb hk hr rfl ex11 dX11_shift_60 ?_
            refine lv_aload_n hx hb dX11_shift_61 rfl (lv_at hl 0 rfl) ?_
            refine lv_aload_n hx hb dX11_shift_62 rfl (lv_at hl 0 rfl) ?_
            obtain ⟨x12, ex12, hs⟩ := bi_inv hs
            refine hv_gR (C := RX11) (T := TX11) (N := 23) (ci := 11) hx hb hts inX11 hown hk hr rfl 4 (by decide) (hts _ tw_886) ex12 dX11_shift_63 ?_
            refine lv_iload_n hx hb dX11_shift_66 rfl (lv_at hl 2 rfl) ?_
            refine lv_ineg hx hb dX11_shift_67 ?_
            obtain ⟨_, ex13, hs⟩ := bi_inv hs
            obtain ⟨x14, ex14, hs⟩ := bi_inv hs
            refine hv_V1 (n := 2) [.ref x12, .int (-u2)] [.ref x11, .int ((1 : Int32)), .ref u0] hx hb hml hown hts hk hr hz hS (zm_X11_moved l D z ex14) ex13 rfl tw_1049 tw_1051 ts_34 tw_11 tw_1052 (by decide +kernel) (by decide) ⟨(Nat.zero_le _), (Nat.zero_le _)⟩ rfl hl.1 (Nat.le_of_ble_eq_true rfl) dX11_shift_68 rfl (fun H locs hr hS => ?_)
            obtain ⟨_, ex15, hs⟩ := bi_inv hs
            obtain ⟨g16, eg16, hs⟩ := bi_inv hs
            refine hv_V0 (n := 3) [.int ((1 : Int32)), .ref x11, .ref x14.1] [] hx hb hml hown hts hk hr hz hS (zm_X11_over l D z eg16) ex15 rfl tw_1107 tw_1109 ts_38 tw_11 tw_1110 (by decide +kernel) (by decide) ⟨(Nat.zero_le _), (Nat.zero_le _)⟩ rfl hl.1 (Nat.le_of_ble_eq_true rfl) dX11_shift_71 rfl (fun H locs hr hS => ?_)
            refine lv_aload_n hx hb dX11_shift_74 rfl (lv_at hl 0 rfl) ?_
            refine lv_iload_n hx hb dX11_shift_75 rfl (lv_at hl 3 rfl) ?_
            refine lv_aload_n hx hb dX11_shift_76 rfl (lv_at hl 0 rfl) ?_
            obtain ⟨x17, ex17, hs⟩ := bi_inv hs
            refine hv_gR (C := RX11) (T := TX11) (N := 23) (ci := 11) hx hb hts inX11 hown hk hr rfl 5 (by decide) (hts _ tw_887) ex17 dX11_shift_77 ?_
            obtain ⟨_, ex18, hs⟩ := bi_inv hs
            obtain ⟨x19, ex19, hs⟩ := bi_inv hs
            refine hv_V1 (n := 2) [.int u3, .ref x17] [] hx hb hml hown hts hk hr hz hS (zm_X11_keep l D z ex19) ex18 rfl tw_973 tw_975 ts_24 tw_11 tw_976 (by decide +kernel) (by decide) ⟨(Nat.zero_le _), (Nat.zero_le _)⟩ rfl hl.1 (Nat.le_of_ble_eq_true rfl) dX11_shift_80 rfl (fun H locs hr hS => ?_)
            obtain ⟨rfl, rfl⟩ := Prod.mk.inj (Option.some.inj hs)
            exact hv_iret hx hb hrt hlk hr hS dX11_shift_83
          · rw [if_neg c9] at hs
            refine lv_aload_n hx hb dX11_shift_36 rfl (lv_at hl 0 rfl) ?_
            refine lv_iload_n hx hb dX11_shift_37 rfl (lv_at hl 3 rfl) ?_
            refine lv_aload_n hx hb dX11_shift_38 rfl (lv_at hl 0 rfl) ?_
            refine lv_aload_n hx hb dX11_shift_39 rfl (lv_at hl 0 rfl) ?_
            obtain ⟨x20, ex20, hs⟩ := bi_inv hs
            refine hv_gR (C := RX11) (T := TX11) (N := 23) (ci := 11) hx hb hts inX11 hown hk hr rfl 9 (by decide) (hts _ tw_891) ex20 dX11_shift_40 ?_
            refine lv_iload_n hx hb dX11_shift_43 rfl (lv_at hl 1 rfl) ?_
            obtain ⟨x21, ex21, hs⟩ := bi_inv hs
            refine hv_aR (kd := 5) hx hb hk hr rfl ex21 dX11_shift_44 ?_
            refine lv_iload_n hx hb dX11_shift_45 rfl (lv_at hl 2 rfl) ?_
            obtain ⟨_, ex22, hs⟩ := bi_inv hs
            obtain ⟨x23, ex23, hs⟩ := bi_inv hs
            refine hv_V1 (n := 2) [.ref x21, .int u2] [.int u3, .ref u0] hx hb hml hown hts hk hr hz hS (zm_X11_moved l D z ex23) ex22 rfl tw_1049 tw_1051 ts_34 tw_11 tw_1052 (by decide +kernel) (by decide) ⟨(Nat.zero_le _), (Nat.zero_le _)⟩ rfl hl.1 (Nat.le_of_ble_eq_true rfl) dX11_shift_46 rfl (fun H locs hr hS => ?_)
            obtain ⟨_, ex24, hs⟩ := bi_inv hs
            obtain ⟨x25, ex25, hs⟩ := bi_inv hs
            refine hv_V1 (n := 2) [.int u3, .ref x23.1] [] hx hb hml hown hts hk hr hz hS (zm_X11_keep l D z ex25) ex24 rfl tw_973 tw_975 ts_24 tw_11 tw_976 (by decide +kernel) (by decide) ⟨(Nat.zero_le _), (Nat.zero_le _)⟩ rfl hl.1 (Nat.le_of_ble_eq_true rfl) dX11_shift_49 rfl (fun H locs hr hS => ?_)
            obtain ⟨rfl, rfl⟩ := Prod.mk.inj (Option.some.inj hs)
            exact hv_iret hx hb hrt hlk hr hS dX11_shift_52
        · rw [if_neg c8] at hs
          refine lv_iconst (v := (-1)) hx hb dX11_shift_30 (by decide) ?_
          obtain ⟨rfl, rfl⟩ := Prod.mk.inj (Option.some.inj hs)
          exact hv_iret hx hb hrt hlk hr hS dX11_shift_31
theorem dX11_thrown_0 : decode cX11_thrown 0 = .ok (.aload_n 0, 1) := by decide +kernel
theorem dX11_thrown_1 : decode cX11_thrown 1 = .ok (.getfield 1, 3) := by decide +kernel
theorem dX11_thrown_4 : decode cX11_thrown 4 = .ok (.ireturn, 1) := by decide +kernel
def zs_X11_thrown (h : AH) (u0 : Nat) : Option Int32 :=
  (gI h u0 11 0).bind fun x1 => some x1
set_option maxRecDepth 100000 in
set_option maxHeartbeats 4000000 in
theorem zm_X11_thrown (l : Launch) (D : hG) (z : Nat) {h : AH} {u0 : Nat} {r : Int32} (hs : zs_X11_thrown h u0 = some r) : hC l D z yX11_thrown cX11_thrown 1 (Option.some Jvm.ClassFile.FieldType.int) 0 0 0 0 [.ref u0] h h (some (.int r)) := by
  refine hC_of (by decide) (Nat.le_of_ble_eq_true rfl) ?_
  intro p e s m below meth c hx hb hml hrt hlk hown hnm hts hk hr hz ls hl
  replace hown : s.vm.findClass RX11 = some m.cls := hown
  replace hl : lv_has ls 1 [(0, .ref u0)] := hl
  have hS : va_S (hA z) s.heap s.heap [] := va_S.rf
  suffices hgo : ∀ (H : Heap) (locs : List Loc), hR D z h H → va_S (hA z) s.heap H locs → W p l e ({ frames := 0, cells := 0, slots := 0, locals := 0 } : Room) s m ([.ref u0] : List Value).toArray below meth c H locs 0 0 (MQ below (hQ D z h (some (.int r))) ([.ref u0] : List Value).toArray s 0 0 (hA z)) (F0 m 0 ls []) from hgo _ _ hr hS
  clear hr hS
  intro H locs hr hS
  unfold zs_X11_thrown at hs
  refine lv_aload_n hx hb dX11_thrown_0 rfl (lv_at hl 0 rfl) ?_
  obtain ⟨x1, ex1, hs⟩ := bi_inv hs
  refine hv_gI (C := RX11) (T := TX11) (N := 23) (ci := 11) hx hb hts inX11 hown hk hr rfl 0 (by decide) (hts _ tw_882) ex1 dX11_thrown_1 ?_
  obtain rfl := Option.some.inj hs
  exact hv_iret hx hb hrt hlk hr hS dX11_thrown_4
theorem dX11_write_0 : decode cX11_write 0 = .ok (.aload_n 0, 1) := by decide +kernel
theorem dX11_write_1 : decode cX11_write 1 = .ok (.iload_n 1, 1) := by decide +kernel
theorem dX11_write_2 : decode cX11_write 2 = .ok (.invokevirtual 177, 3) := by decide +kernel
theorem dX11_write_5 : decode cX11_write 5 = .ok (.ifCond .eq 14, 3) := by decide +kernel
theorem dX11_write_8 : decode cX11_write 8 = .ok (.iload_n 2, 1) := by decide +kernel
theorem dX11_write_9 : decode cX11_write 9 = .ok (.iconst 2, 1) := by decide +kernel
theorem dX11_write_10 : decode cX11_write 10 = .ok (.if_icmp .lt 9, 3) := by decide +kernel
theorem dX11_write_13 : decode cX11_write 13 = .ok (.iload_n 2, 1) := by decide +kernel
theorem dX11_write_14 : decode cX11_write 14 = .ok (.bipush 36, 2) := by decide +kernel
theorem dX11_write_16 : decode cX11_write 16 = .ok (.if_icmp .le 5, 3) := by decide +kernel
theorem dX11_write_19 : decode cX11_write 19 = .ok (.iconst (-1), 1) := by decide +kernel
theorem dX11_write_20 : decode cX11_write 20 = .ok (.ireturn, 1) := by decide +kernel
theorem dX11_write_21 : decode cX11_write 21 = .ok (.iconst 0, 1) := by decide +kernel
theorem dX11_write_22 : decode cX11_write 22 = .ok (.istore_n 3, 1) := by decide +kernel
theorem dX11_write_23 : decode cX11_write 23 = .ok (.aload_n 0, 1) := by decide +kernel
theorem dX11_write_24 : decode cX11_write 24 = .ok (.aload_n 0, 1) := by decide +kernel
theorem dX11_write_25 : decode cX11_write 25 = .ok (.getfield 142, 3) := by decide +kernel
theorem dX11_write_28 : decode cX11_write 28 = .ok (.iload_n 1, 1) := by decide +kernel
theorem dX11_write_29 : decode cX11_write 29 = .ok (.aaload, 1) := by decide +kernel
theorem dX11_write_30 : decode cX11_write 30 = .ok (.invokevirtual 81, 3) := by decide +kernel
theorem dX11_write_33 : decode cX11_write 33 = .ok (.astore 4, 2) := by decide +kernel
theorem dX11_write_35 : decode cX11_write 35 = .ok (.aload_n 0, 1) := by decide +kernel
theorem dX11_write_36 : decode cX11_write 36 = .ok (.iload_n 2, 1) := by decide +kernel
theorem dX11_write_37 : decode cX11_write 37 = .ok (.i2l, 1) := by decide +kernel
theorem dX11_write_38 : decode cX11_write 38 = .ok (.invokevirtual 87, 3) := by decide +kernel
theorem dX11_write_41 : decode cX11_write 41 = .ok (.astore 5, 2) := by decide +kernel
theorem dX11_write_43 : decode cX11_write 43 = .ok (.aload_n 0, 1) := by decide +kernel
theorem dX11_write_44 : decode cX11_write 44 = .ok (.getfield 7, 3) := by decide +kernel
theorem dX11_write_47 : decode cX11_write 47 = .ok (.istore 6, 2) := by decide +kernel
theorem dX11_write_49 : decode cX11_write 49 = .ok (.aload_n 0, 1) := by decide +kernel
theorem dX11_write_50 : decode cX11_write 50 = .ok (.aload 4, 2) := by decide +kernel
theorem dX11_write_52 : decode cX11_write 52 = .ok (.aload 5, 2) := by decide +kernel
theorem dX11_write_54 : decode cX11_write 54 = .ok (.invokevirtual 110, 3) := by decide +kernel
theorem dX11_write_57 : decode cX11_write 57 = .ok (.aload_n 0, 1) := by decide +kernel
theorem dX11_write_58 : decode cX11_write 58 = .ok (.getfield 84, 3) := by decide +kernel
theorem dX11_write_61 : decode cX11_write 61 = .ok (.invokevirtual 60, 3) := by decide +kernel
theorem dX11_write_64 : decode cX11_write 64 = .ok (.ifCond .eq 7, 3) := by decide +kernel
theorem dX11_write_67 : decode cX11_write 67 = .ok (.iconst 0, 1) := by decide +kernel
theorem dX11_write_68 : decode cX11_write 68 = .ok (.goto 12, 3) := by decide +kernel
theorem dX11_write_71 : decode cX11_write 71 = .ok (.aload_n 0, 1) := by decide +kernel
theorem dX11_write_72 : decode cX11_write 72 = .ok (.getfield 84, 3) := by decide +kernel
theorem dX11_write_75 : decode cX11_write 75 = .ok (.getfield 18, 3) := by decide +kernel
theorem dX11_write_78 : decode cX11_write 78 = .ok (.iconst 0, 1) := by decide +kernel
theorem dX11_write_79 : decode cX11_write 79 = .ok (.iaload, 1) := by decide +kernel
theorem dX11_write_80 : decode cX11_write 80 = .ok (.istore 7, 2) := by decide +kernel
theorem dX11_write_82 : decode cX11_write 82 = .ok (.aload_n 0, 1) := by decide +kernel
theorem dX11_write_83 : decode cX11_write 83 = .ok (.getfield 155, 3) := by decide +kernel
theorem dX11_write_86 : decode cX11_write 86 = .ok (.iload_n 3, 1) := by decide +kernel
theorem dX11_write_87 : decode cX11_write 87 = .ok (.iload 7, 2) := by decide +kernel
theorem dX11_write_89 : decode cX11_write 89 = .ok (.bipush 10, 2) := by decide +kernel
theorem dX11_write_91 : decode cX11_write 91 = .ok (.if_icmp .ge 11, 3) := by decide +kernel
theorem dX11_write_94 : decode cX11_write 94 = .ok (.bipush 48, 2) := by decide +kernel
theorem dX11_write_96 : decode cX11_write 96 = .ok (.iload 7, 2) := by decide +kernel
theorem dX11_write_98 : decode cX11_write 98 = .ok (.iadd, 1) := by decide +kernel
theorem dX11_write_99 : decode cX11_write 99 = .ok (.goto 11, 3) := by decide +kernel
theorem dX11_write_102 : decode cX11_write 102 = .ok (.bipush 97, 2) := by decide +kernel
theorem dX11_write_104 : decode cX11_write 104 = .ok (.iload 7, 2) := by decide +kernel
theorem dX11_write_106 : decode cX11_write 106 = .ok (.iadd, 1) := by decide +kernel
theorem dX11_write_107 : decode cX11_write 107 = .ok (.bipush 10, 2) := by decide +kernel
theorem dX11_write_109 : decode cX11_write 109 = .ok (.isub, 1) := by decide +kernel
theorem dX11_write_110 : decode cX11_write 110 = .ok (.i2b, 1) := by decide +kernel
theorem dX11_write_111 : decode cX11_write 111 = .ok (.bastore, 1) := by decide +kernel
theorem dX11_write_112 : decode cX11_write 112 = .ok (.iinc 3 1, 3) := by decide +kernel
theorem dX11_write_115 : decode cX11_write 115 = .ok (.aload 4, 2) := by decide +kernel
theorem dX11_write_117 : decode cX11_write 117 = .ok (.aload_n 0, 1) := by decide +kernel
theorem dX11_write_118 : decode cX11_write 118 = .ok (.getfield 78, 3) := by decide +kernel
theorem dX11_write_121 : decode cX11_write 121 = .ok (.invokevirtual 30, 3) := by decide +kernel
theorem dX11_write_124 : decode cX11_write 124 = .ok (.aload_n 0, 1) := by decide +kernel
theorem dX11_write_125 : decode cX11_write 125 = .ok (.iload 6, 2) := by decide +kernel
theorem dX11_write_127 : decode cX11_write 127 = .ok (.putfield 7, 3) := by decide +kernel
theorem dX11_write_130 : decode cX11_write 130 = .ok (.aload 4, 2) := by decide +kernel
theorem dX11_write_132 : decode cX11_write 132 = .ok (.invokevirtual 60, 3) := by decide +kernel
theorem dX11_write_135 : decode cX11_write 135 = .ok (.ifCond .eq (-86), 3) := by decide +kernel
theorem dX11_write_138 : decode cX11_write 138 = .ok (.aload_n 0, 1) := by decide +kernel
theorem dX11_write_139 : decode cX11_write 139 = .ok (.getfield 142, 3) := by decide +kernel
theorem dX11_write_142 : decode cX11_write 142 = .ok (.iload_n 1, 1) := by decide +kernel
theorem dX11_write_143 : decode cX11_write 143 = .ok (.aaload, 1) := by decide +kernel
theorem dX11_write_144 : decode cX11_write 144 = .ok (.getfield 38, 3) := by decide +kernel
theorem dX11_write_147 : decode cX11_write 147 = .ok (.ifCond .eq 14, 3) := by decide +kernel
theorem dX11_write_150 : decode cX11_write 150 = .ok (.aload_n 0, 1) := by decide +kernel
theorem dX11_write_151 : decode cX11_write 151 = .ok (.getfield 155, 3) := by decide +kernel
theorem dX11_write_154 : decode cX11_write 154 = .ok (.iload_n 3, 1) := by decide +kernel
theorem dX11_write_155 : decode cX11_write 155 = .ok (.bipush 45, 2) := by decide +kernel
theorem dX11_write_157 : decode cX11_write 157 = .ok (.bastore, 1) := by decide +kernel
theorem dX11_write_158 : decode cX11_write 158 = .ok (.iinc 3 1, 3) := by decide +kernel
theorem dX11_write_161 : decode cX11_write 161 = .ok (.iconst 0, 1) := by decide +kernel
theorem dX11_write_162 : decode cX11_write 162 = .ok (.istore 7, 2) := by decide +kernel
theorem dX11_write_164 : decode cX11_write 164 = .ok (.iconst 2, 1) := by decide +kernel
theorem dX11_write_165 : decode cX11_write 165 = .ok (.iload 7, 2) := by decide +kernel
theorem dX11_write_167 : decode cX11_write 167 = .ok (.imul, 1) := by decide +kernel
theorem dX11_write_168 : decode cX11_write 168 = .ok (.iconst 1, 1) := by decide +kernel
theorem dX11_write_169 : decode cX11_write 169 = .ok (.iadd, 1) := by decide +kernel
theorem dX11_write_170 : decode cX11_write 170 = .ok (.iload_n 3, 1) := by decide +kernel
theorem dX11_write_171 : decode cX11_write 171 = .ok (.if_icmp .ge 49, 3) := by decide +kernel
theorem dX11_write_174 : decode cX11_write 174 = .ok (.aload_n 0, 1) := by decide +kernel
theorem dX11_write_175 : decode cX11_write 175 = .ok (.getfield 155, 3) := by decide +kernel
theorem dX11_write_178 : decode cX11_write 178 = .ok (.iload 7, 2) := by decide +kernel
theorem dX11_write_180 : decode cX11_write 180 = .ok (.baload, 1) := by decide +kernel
theorem dX11_write_181 : decode cX11_write 181 = .ok (.istore 8, 2) := by decide +kernel
theorem dX11_write_183 : decode cX11_write 183 = .ok (.aload_n 0, 1) := by decide +kernel
theorem dX11_write_184 : decode cX11_write 184 = .ok (.getfield 155, 3) := by decide +kernel
theorem dX11_write_187 : decode cX11_write 187 = .ok (.iload 7, 2) := by decide +kernel
theorem dX11_write_189 : decode cX11_write 189 = .ok (.aload_n 0, 1) := by decide +kernel
theorem dX11_write_190 : decode cX11_write 190 = .ok (.getfield 155, 3) := by decide +kernel
theorem dX11_write_193 : decode cX11_write 193 = .ok (.iload_n 3, 1) := by decide +kernel
theorem dX11_write_194 : decode cX11_write 194 = .ok (.iconst 1, 1) := by decide +kernel
theorem dX11_write_195 : decode cX11_write 195 = .ok (.isub, 1) := by decide +kernel
theorem dX11_write_196 : decode cX11_write 196 = .ok (.iload 7, 2) := by decide +kernel
theorem dX11_write_198 : decode cX11_write 198 = .ok (.isub, 1) := by decide +kernel
theorem dX11_write_199 : decode cX11_write 199 = .ok (.baload, 1) := by decide +kernel
theorem dX11_write_200 : decode cX11_write 200 = .ok (.bastore, 1) := by decide +kernel
theorem dX11_write_201 : decode cX11_write 201 = .ok (.aload_n 0, 1) := by decide +kernel
theorem dX11_write_202 : decode cX11_write 202 = .ok (.getfield 155, 3) := by decide +kernel
theorem dX11_write_205 : decode cX11_write 205 = .ok (.iload_n 3, 1) := by decide +kernel
theorem dX11_write_206 : decode cX11_write 206 = .ok (.iconst 1, 1) := by decide +kernel
theorem dX11_write_207 : decode cX11_write 207 = .ok (.isub, 1) := by decide +kernel
theorem dX11_write_208 : decode cX11_write 208 = .ok (.iload 7, 2) := by decide +kernel
theorem dX11_write_210 : decode cX11_write 210 = .ok (.isub, 1) := by decide +kernel
theorem dX11_write_211 : decode cX11_write 211 = .ok (.iload 8, 2) := by decide +kernel
theorem dX11_write_213 : decode cX11_write 213 = .ok (.bastore, 1) := by decide +kernel
theorem dX11_write_214 : decode cX11_write 214 = .ok (.iinc 7 1, 3) := by decide +kernel
theorem dX11_write_217 : decode cX11_write 217 = .ok (.goto (-53), 3) := by decide +kernel
theorem dX11_write_220 : decode cX11_write 220 = .ok (.aload_n 0, 1) := by decide +kernel
theorem dX11_write_221 : decode cX11_write 221 = .ok (.iload_n 3, 1) := by decide +kernel
theorem dX11_write_222 : decode cX11_write 222 = .ok (.putfield 190, 3) := by decide +kernel
theorem dX11_write_225 : decode cX11_write 225 = .ok (.iload_n 3, 1) := by decide +kernel
theorem dX11_write_226 : decode cX11_write 226 = .ok (.ireturn, 1) := by decide +kernel
def zj_X11_write_110 (w0 : Nat) (w1 : Int32) (w4 : Nat) (w5 : Nat) (w6 : Int32) (g26 : AH) (y3_110 : Int32) (t0_110 : Int32) (t1_110 : Int32) (t2_110 : Nat) : Option ((AH × Int32) ⊕ ((AH × Int32))) :=
  (sI g26 t2_110 2 t1_110 (t0_110.toInt8.toInt32.toInt8.toInt32)).bind fun g27 => (gR g27 w0 11 5).bind fun x28 => (chk g27 w4 10).bind fun _ => (zs_X10_become g27 w4 x28).bind fun g30 => (pV g30 w0 11 2 (.int w6)).bind fun g31 => (chk g31 w4 10).bind fun _ => (zs_X10_isZero g31 w4).bind fun x33 => (if x33 = 0 then some (Sum.inl ((g31, y3_110 + (1 : Int32)))) else some (Sum.inr ((g31, y3_110 + (1 : Int32)))))
def zj_X11_write_80 (w0 : Nat) (w1 : Int32) (w4 : Nat) (w5 : Nat) (w6 : Int32) (g23 : AH) (y3_80 : Int32) (t0_80 : Int32) : Option ((AH × Int32) ⊕ ((AH × Int32))) :=
  (gR g23 w0 11 14).bind fun x24 => (if (10 : Int32) ≤ t0_80 then zj_X11_write_110 w0 w1 w4 w5 w6 g23 y3_80 ((((97 : Int32)) + t0_80) - ((10 : Int32))) y3_80 x24 else zj_X11_write_110 w0 w1 w4 w5 w6 g23 y3_80 (((48 : Int32)) + t0_80) y3_80 x24)
def zb_X11_write_49 (w0 : Nat) (w1 : Int32) (w4 : Nat) (w5 : Nat) (w6 : Int32) (g13 : AH) (w3 : Int32) : Option ((AH × Int32) ⊕ ((AH × Int32))) :=
  (chk g13 w0 11).bind fun _ => (zs_X11_divide g13 w0 w4 w5).bind fun g15 => (gR g15 w0 11 6).bind fun x16 => (chk g15 x16 10).bind fun _ => (zs_X10_isZero g15 x16).bind fun x18 => (if x18 = 0 then (gR g15 w0 11 6).bind fun x20 => (gR g15 x20 10 2).bind fun x21 => (aI g15 x21 0 ((0 : Int32))).bind fun x22 => zj_X11_write_80 w0 w1 w4 w5 w6 g15 w3 x22 else zj_X11_write_80 w0 w1 w4 w5 w6 g15 w3 ((0 : Int32)))
def zb_X11_write_164 (w0 : Nat) (w3 : Int32) (g41 : AH) (w7 : Int32) : Option ((AH × Int32) ⊕ (AH)) :=
  (if w3 ≤ (((2 : Int32)) * w7) + ((1 : Int32)) then some (Sum.inr g41) else (gR g41 w0 11 14).bind fun x43 => (aI g41 x43 2 w7).bind fun x44 => (gR g41 w0 11 14).bind fun x45 => (gR g41 w0 11 14).bind fun x46 => (aI g41 x46 2 ((w3 - ((1 : Int32))) - w7)).bind fun x47 => (sI g41 x45 2 w7 (x47.toInt8.toInt32)).bind fun g48 => (gR g48 w0 11 14).bind fun x49 => (sI g48 x49 2 ((w3 - ((1 : Int32))) - w7) (x44.toInt8.toInt32)).bind fun g50 => some (Sum.inl ((g50, w7 + (1 : Int32)))))
def zj_X11_write_161 (g40 : AH) (y0_161 : Nat) (y3_161 : Int32) : Option (Int32 × AH) :=
  (iter (fun q : AH × Int32 => zb_X11_write_164 y0_161 y3_161 q.1 q.2) FU ((g40, (0 : Int32)))).bind fun r51 => (pV r51 y0_161 11 15 (.int y3_161)).bind fun g52 => some (y3_161, g52)
def zs_X11_write (h : AH) (u0 : Nat) (u1 : Int32) (u2 : Int32) : Option (Int32 × AH) :=
  (chk h u0 11).bind fun _ => (zs_X11_isSlot h u0 u1).bind fun x2 => (if x2.1 = 0 then some ((-1 : Int32), x2.2) else (if u2 < (2 : Int32) then some ((-1 : Int32), x2.2) else (if u2 ≤ (36 : Int32) then (gR x2.2 u0 11 9).bind fun x6 => (aR x2.2 x6 5 u1).bind fun x7 => (chk x2.2 u0 11).bind fun _ => (zs_X11_sized x2.2 u0 x7).bind fun x9 => (chk x9.2 u0 11).bind fun _ => (zs_X11_of x9.2 u0 u2.toInt64).bind fun x11 => (gI x11.2 u0 11 2).bind fun x12 => (iter (fun q : AH × Int32 => zb_X11_write_49 u0 u1 x9.1 x11.1 x12 q.1 q.2) FU ((x11.2, (0 : Int32)))).bind fun r35 => (gR r35.1 u0 11 9).bind fun x36 => (aR r35.1 x36 5 u1).bind fun x37 => (gI r35.1 x37 10 0).bind fun x38 => (if x38 = 0 then zj_X11_write_161 r35.1 u0 r35.2 else (gR r35.1 u0 11 14).bind fun x53 => (sI r35.1 x53 2 r35.2 (((45 : Int32)).toInt8.toInt32)).bind fun g54 => zj_X11_write_161 g54 u0 (r35.2 + (1 : Int32))) else some ((-1 : Int32), x2.2))))
set_option maxRecDepth 100000 in
set_option maxHeartbeats 4000000 in
theorem zm_X11_write (l : Launch) (D : hG) (z : Nat) {h : AH} {u0 : Nat} {u1 : Int32} {u2 : Int32} {r : Int32} {h' : AH} (hs : zs_X11_write h u0 u1 u2 = some (r, h')) : hC l D z yX11_write cX11_write 9 (Option.some Jvm.ClassFile.FieldType.int) 5 141 0 0 [.ref u0, .int u1, .int u2] h h' (some (.int r)) := by
  refine hC_of (by decide) (Nat.le_of_ble_eq_true rfl) ?_
  intro p e s m below meth c hx hb hml hrt hlk hown hnm hts hk hr hz ls hl
  replace hown : s.vm.findClass RX11 = some m.cls := hown
  replace hl : lv_has ls 9 [(0, .ref u0), (1, .int u1), (2, .int u2)] := hl
  have hS : va_S (hA z) s.heap s.heap [] := va_S.rf
  suffices hgo : ∀ (H : Heap) (locs : List Loc), hR D z h H → va_S (hA z) s.heap H locs → W p l e ({ frames := 5, cells := 0, slots := 0, locals := 141 } : Room) s m ([.ref u0, .int u1, .int u2] : List Value).toArray below meth c H locs 0 0 (MQ below (hQ D z h' (some (.int r))) ([.ref u0, .int u1, .int u2] : List Value).toArray s 0 0 (hA z)) (F0 m 0 ls []) from hgo _ _ hr hS
  clear hr hS
  intro H locs hr hS
  have hJ161 : ∀ (g40 : AH) (y0_161 : Nat) (y3_161 : Int32) (H : Heap) (locs : List Loc) (ls : Array Slot), zj_X11_write_161 g40 y0_161 y3_161 = some (r, h') → hR D z g40 H → va_S (hA z) s.heap H locs → lv_has ls 9 [(0, .ref y0_161), (3, .int y3_161)] → W p l e ({ frames := 5, cells := 0, slots := 0, locals := 141 } : Room) s m ([.ref u0, .int u1, .int u2] : List Value).toArray below meth c H locs 0 0 (MQ below (hQ D z h' (some (.int r))) ([.ref u0, .int u1, .int u2] : List Value).toArray s 0 0 (hA z)) (F0 m 161 ls []) := by
    intro g40 y0_161 y3_161 H locs ls hs hr hS hl
    unfold zj_X11_write_161 at hs
    refine lv_iconst (v := 0) hx hb dX11_write_161 (by decide) ?_
    refine lv_istore (lv' := [(7, .int ((0 : Int32))), (0, .ref y0_161), (3, .int y3_161)]) hx hb dX11_write_162 hl (by decide) rfl (fun ls hl => ?_)
    obtain ⟨r51, er51, hs⟩ := bi_inv hs
    refine iter_W (fun (q : AH × Int32) => ∀ (H : Heap) (locs : List Loc) (ls : Array Slot), hR D z q.1 H → va_S (hA z) s.heap H locs → lv_has ls 9 [(0, .ref y0_161), (3, .int y3_161), (7, .int q.2)] → W p l e ({ frames := 5, cells := 0, slots := 0, locals := 141 } : Room) s m ([.ref u0, .int u1, .int u2] : List Value).toArray below meth c H locs 0 0 (MQ below (hQ D z h' (some (.int r))) ([.ref u0, .int u1, .int u2] : List Value).toArray s 0 0 (hA z)) (F0 m 164 ls [])) (fun (x : AH) => ∀ (H : Heap) (locs : List Loc) (ls : Array Slot), hR D z x H → va_S (hA z) s.heap H locs → lv_has ls 9 [(0, .ref y0_161), (3, .int y3_161)] → W p l e ({ frames := 5, cells := 0, slots := 0, locals := 141 } : Room) s m ([.ref u0, .int u1, .int u2] : List Value).toArray below meth c H locs 0 0 (MQ below (hQ D z h' (some (.int r))) ([.ref u0, .int u1, .int u2] : List Value).toArray s 0 0 (hA z)) (F0 m 220 ls [])) ?_ FU _ r51 er51 ?_ H locs ls hr hS (lv_sub hl [1, 2, 0] rfl)
    · intro q o hs hcont hexit
      obtain ⟨g41, w7⟩ := q
      replace hs : zb_X11_write_164 y0_161 y3_161 g41 w7 = some o := hs
      intro H locs ls hr hS hl
      unfold zb_X11_write_164 at hs
      refine lv_iconst (v := 2) hx hb dX11_write_164 (by decide) ?_
      refine lv_iload hx hb dX11_write_165 (lv_at hl 2 rfl) ?_
      refine lv_imul hx hb dX11_write_167 ?_
      refine lv_iconst (v := 1) hx hb dX11_write_168 (by decide) ?_
      refine lv_iadd hx hb dX11_write_169 ?_
      refine lv_iload_n hx hb dX11_write_170 rfl (lv_at hl 1 rfl) ?_
      refine lv_icmp_ge (tgt := 220) hx hb dX11_write_171 (by decide) (fun c42 => ?_) (fun c42 => ?_)
      · rw [if_pos c42] at hs
        obtain rfl := Option.some.inj hs
        exact hexit _ rfl H locs ls hr hS (lv_sub hl [0, 1] rfl)
      · rw [if_neg c42] at hs
        refine lv_aload_n hx hb dX11_write_174 rfl (lv_at hl 0 rfl) ?_
        obtain ⟨x43, ex43, hs⟩ := bi_inv hs
        refine hv_gR (C := RX11) (T := TX11) (N := 23) (ci := 11) hx hb hts inX11 hown hk hr rfl 14 (by decide) (hts _ tw_896) ex43 dX11_write_175 ?_
        refine lv_iload hx hb dX11_write_178 (lv_at hl 2 rfl) ?_
        obtain ⟨x44, ex44, hs⟩ := bi_inv hs
        refine hv_aB hx hb hk hr ex44 dX11_write_180 ?_
        refine lv_istore (lv' := [(8, .int x44), (0, .ref y0_161), (3, .int y3_161), (7, .int w7)]) hx hb dX11_write_181 hl (by decide) rfl (fun ls hl => ?_)
        refine lv_aload_n hx hb dX11_write_183 rfl (lv_at hl 1 rfl) ?_
        obtain ⟨x45, ex45, hs⟩ := bi_inv hs
        refine hv_gR (C := RX11) (T := TX11) (N := 23) (ci := 11) hx hb hts inX11 hown hk hr rfl 14 (by decide) (hts _ tw_896) ex45 dX11_write_184 ?_
        refine lv_iload hx hb dX11_write_187 (lv_at hl 3 rfl) ?_
        refine lv_aload_n hx hb dX11_write_189 rfl (lv_at hl 1 rfl) ?_
        obtain ⟨x46, ex46, hs⟩ := bi_inv hs
        refine hv_gR (C := RX11) (T := TX11) (N := 23) (ci := 11) hx hb hts inX11 hown hk hr rfl 14 (by decide) (hts _ tw_896) ex46 dX11_write_190 ?_
        refine lv_iload_n hx hb dX11_write_193 rfl (lv_at hl 2 rfl) ?_
        refine lv_iconst (v := 1) hx hb dX11_write_194 (by decide) ?_
        refine lv_isub hx hb dX11_write_195 ?_
        refine lv_iload hx hb dX11_write_196 (lv_at hl 3 rfl) ?_
        refine lv_isub hx hb dX11_write_198 ?_
        obtain ⟨x47, ex47, hs⟩ := bi_inv hs
        refine hv_aB hx hb hk hr ex47 dX11_write_199 ?_
        obtain ⟨g48, eg48, hs⟩ := bi_inv hs
        refine hv_sB hx hb hk hr hS eg48 dX11_write_200 (fun H locs hr hS => ?_)
        refine lv_aload_n hx hb dX11_write_201 rfl (lv_at hl 1 rfl) ?_
        obtain ⟨x49, ex49, hs⟩ := bi_inv hs
        refine hv_gR (C := RX11) (T := TX11) (N := 23) (ci := 11) hx hb hts inX11 hown hk hr rfl 14 (by decide) (hts _ tw_896) ex49 dX11_write_202 ?_
        refine lv_iload_n hx hb dX11_write_205 rfl (lv_at hl 2 rfl) ?_
        refine lv_iconst (v := 1) hx hb dX11_write_206 (by decide) ?_
        refine lv_isub hx hb dX11_write_207 ?_
        refine lv_iload hx hb dX11_write_208 (lv_at hl 3 rfl) ?_
        refine lv_isub hx hb dX11_write_210 ?_
        refine lv_iload hx hb dX11_write_211 (lv_at hl 0 rfl) ?_
        obtain ⟨g50, eg50, hs⟩ := bi_inv hs
        refine hv_sB hx hb hk hr hS eg50 dX11_write_213 (fun H locs hr hS => ?_)
        refine lv_iinc (v := w7 + (1 : Int32)) (lv' := [(7, .int (w7 + (1 : Int32))), (8, .int x44), (0, .ref y0_161), (3, .int y3_161)]) hx hb dX11_write_214 hl (k := 3) rfl (ii_v _ (by decide)) (by decide) rfl (fun ls hl => ?_)
        refine lv_goto (tgt := 164) hx hb dX11_write_217 (by decide) ?_
        obtain rfl := Option.some.inj hs
        exact hcont _ rfl H locs ls hr hS (lv_sub hl [2, 3, 0] rfl)
    · intro H locs ls hr hS hl
      refine lv_aload_n hx hb dX11_write_220 rfl (lv_at hl 0 rfl) ?_
      refine lv_iload_n hx hb dX11_write_221 rfl (lv_at hl 1 rfl) ?_
      obtain ⟨g52, eg52, hs⟩ := bi_inv hs
      refine hv_pV (C := RX11) (T := TX11) (N := 23) (ci := 11) hx hb hts inX11 tyX11 tyX11_ok nmX11 hown hk hr hS rfl 15 (by decide) (hts _ tw_897) rfl rfl rfl eg52 dX11_write_222 (fun H locs hr hS => ?_)
      refine lv_iload_n hx hb dX11_write_225 rfl (lv_at hl 1 rfl) ?_
      obtain ⟨rfl, rfl⟩ := Prod.mk.inj (Option.some.inj hs)
      exact hv_iret hx hb hrt hlk hr hS dX11_write_226
  unfold zs_X11_write at hs
  refine lv_aload_n hx hb dX11_write_0 rfl (lv_at hl 0 rfl) ?_
  refine lv_iload_n hx hb dX11_write_1 rfl (lv_at hl 1 rfl) ?_
  obtain ⟨_, ex1, hs⟩ := bi_inv hs
  obtain ⟨x2, ex2, hs⟩ := bi_inv hs
  refine hv_V1 (n := 1) [.int u1] [] hx hb hml hown hts hk hr hz hS (zm_X11_isSlot l D z ex2) ex1 rfl tw_956 tw_958 ts_21 tw_11 tw_959 (by decide +kernel) (by decide) ⟨(Nat.zero_le _), (Nat.zero_le _)⟩ rfl hl.1 (Nat.le_of_ble_eq_true rfl) dX11_write_2 rfl (fun H locs hr hS => ?_)
  refine lv_if_eq (tgt := 19) hx hb dX11_write_5 (by decide) (fun c3 => ?_) (fun c3 => ?_)
  · rw [if_pos c3] at hs
    refine lv_iconst (v := (-1)) hx hb dX11_write_19 (by decide) ?_
    obtain ⟨rfl, rfl⟩ := Prod.mk.inj (Option.some.inj hs)
    exact hv_iret hx hb hrt hlk hr hS dX11_write_20
  · rw [if_neg c3] at hs
    refine lv_iload_n hx hb dX11_write_8 rfl (lv_at hl 2 rfl) ?_
    refine lv_iconst (v := 2) hx hb dX11_write_9 (by decide) ?_
    refine lv_icmp_lt (tgt := 19) hx hb dX11_write_10 (by decide) (fun c4 => ?_) (fun c4 => ?_)
    · rw [if_pos c4] at hs
      refine lv_iconst (v := (-1)) hx hb dX11_write_19 (by decide) ?_
      obtain ⟨rfl, rfl⟩ := Prod.mk.inj (Option.some.inj hs)
      exact hv_iret hx hb hrt hlk hr hS dX11_write_20
    · rw [if_neg c4] at hs
      refine lv_iload_n hx hb dX11_write_13 rfl (lv_at hl 2 rfl) ?_
      refine lv_bipush (v := 36) hx hb dX11_write_14 (by decide) ?_
      refine lv_icmp_le (tgt := 21) hx hb dX11_write_16 (by decide) (fun c5 => ?_) (fun c5 => ?_)
      · rw [if_pos c5] at hs
        refine lv_iconst (v := 0) hx hb dX11_write_21 (by decide) ?_
        refine lv_istore_n (lv' := [(3, .int ((0 : Int32))), (0, .ref u0), (1, .int u1), (2, .int u2)]) hx hb dX11_write_22 rfl hl (by decide) rfl (fun ls hl => ?_)
        refine lv_aload_n hx hb dX11_write_23 rfl (lv_at hl 1 rfl) ?_
        refine lv_aload_n hx hb dX11_write_24 rfl (lv_at hl 1 rfl) ?_
        obtain ⟨x6, ex6, hs⟩ := bi_inv hs
        refine hv_gR (C := RX11) (T := TX11) (N := 23) (ci := 11) hx hb hts inX11 hown hk hr rfl 9 (by decide) (hts _ tw_891) ex6 dX11_write_25 ?_
        refine lv_iload_n hx hb dX11_write_28 rfl (lv_at hl 2 rfl) ?_
        obtain ⟨x7, ex7, hs⟩ := bi_inv hs
        refine hv_aR (kd := 5) hx hb hk hr rfl ex7 dX11_write_29 ?_
        obtain ⟨_, ex8, hs⟩ := bi_inv hs
        obtain ⟨x9, ex9, hs⟩ := bi_inv hs
        refine hv_V1 (n := 1) [.ref x7] [] hx hb hml hown hts hk hr hz hS (zm_X11_sized l D z ex9) ex8 rfl tw_1036 tw_1038 ts_31 tw_11 tw_1039 (by decide +kernel) (by decide) ⟨(Nat.zero_le _), (Nat.zero_le _)⟩ rfl hl.1 (Nat.le_of_ble_eq_true rfl) dX11_write_30 rfl (fun H locs hr hS => ?_)
        refine lv_astore (lv' := [(4, .ref x9.1), (3, .int ((0 : Int32))), (0, .ref u0), (1, .int u1), (2, .int u2)]) hx hb dX11_write_33 hl (by decide) rfl (fun ls hl => ?_)
        refine lv_aload_n hx hb dX11_write_35 rfl (lv_at hl 2 rfl) ?_
        refine lv_iload_n hx hb dX11_write_36 rfl (lv_at hl 4 rfl) ?_
        refine lv_i2l hx hb dX11_write_37 rfl ?_
        obtain ⟨_, ex10, hs⟩ := bi_inv hs
        obtain ⟨x11, ex11, hs⟩ := bi_inv hs
        refine hv_V1 (n := 1) [.long u2.toInt64] [] hx hb hml hown hts hk hr hz hS (zm_X11_of l D z ex11) ex10 rfl tw_960 tw_962 ts_22 tw_11 tw_963 (by decide +kernel) (by decide) ⟨(Nat.zero_le _), (Nat.zero_le _)⟩ rfl hl.1 (Nat.le_of_ble_eq_true rfl) dX11_write_38 rfl (fun H locs hr hS => ?_)
        refine lv_astore (lv' := [(5, .ref x11.1), (4, .ref x9.1), (3, .int ((0 : Int32))), (0, .ref u0), (1, .int u1), (2, .int u2)]) hx hb dX11_write_41 hl (by decide) rfl (fun ls hl => ?_)
        refine lv_aload_n hx hb dX11_write_43 rfl (lv_at hl 3 rfl) ?_
        obtain ⟨x12, ex12, hs⟩ := bi_inv hs
        refine hv_gI (C := RX11) (T := TX11) (N := 23) (ci := 11) hx hb hts inX11 hown hk hr rfl 2 (by decide) (hts _ tw_884) ex12 dX11_write_44 ?_
        refine lv_istore (lv' := [(6, .int x12), (5, .ref x11.1), (4, .ref x9.1), (3, .int ((0 : Int32))), (0, .ref u0), (1, .int u1), (2, .int u2)]) hx hb dX11_write_47 hl (by decide) rfl (fun ls hl => ?_)
        obtain ⟨r35, er35, hs⟩ := bi_inv hs
        refine iter_W (fun (q : AH × Int32) => ∀ (H : Heap) (locs : List Loc) (ls : Array Slot), hR D z q.1 H → va_S (hA z) s.heap H locs → lv_has ls 9 [(0, .ref u0), (1, .int u1), (4, .ref x9.1), (5, .ref x11.1), (6, .int x12), (3, .int q.2)] → W p l e ({ frames := 5, cells := 0, slots := 0, locals := 141 } : Room) s m ([.ref u0, .int u1, .int u2] : List Value).toArray below meth c H locs 0 0 (MQ below (hQ D z h' (some (.int r))) ([.ref u0, .int u1, .int u2] : List Value).toArray s 0 0 (hA z)) (F0 m 49 ls [])) (fun (x : (AH × Int32)) => ∀ (H : Heap) (locs : List Loc) (ls : Array Slot), hR D z x.1 H → va_S (hA z) s.heap H locs → lv_has ls 9 [(0, .ref u0), (1, .int u1), (3, .int x.2)] → W p l e ({ frames := 5, cells := 0, slots := 0, locals := 141 } : Room) s m ([.ref u0, .int u1, .int u2] : List Value).toArray below meth c H locs 0 0 (MQ below (hQ D z h' (some (.int r))) ([.ref u0, .int u1, .int u2] : List Value).toArray s 0 0 (hA z)) (F0 m 138 ls [])) ?_ FU _ r35 er35 ?_ H locs ls hr hS (lv_sub hl [4, 5, 2, 1, 0, 3] rfl)
        · intro q o hs hcont hexit
          obtain ⟨g13, w3⟩ := q
          replace hs : zb_X11_write_49 u0 u1 x9.1 x11.1 x12 g13 w3 = some o := hs
          intro H locs ls hr hS hl
          have hJ110 : ∀ (g26 : AH) (y3_110 : Int32) (t0_110 : Int32) (t1_110 : Int32) (t2_110 : Nat) (H : Heap) (locs : List Loc) (ls : Array Slot), zj_X11_write_110 u0 u1 x9.1 x11.1 x12 g26 y3_110 t0_110 t1_110 t2_110 = some o → hR D z g26 H → va_S (hA z) s.heap H locs → lv_has ls 9 [(0, .ref u0), (1, .int u1), (3, .int y3_110), (4, .ref x9.1), (5, .ref x11.1), (6, .int x12)] → W p l e ({ frames := 5, cells := 0, slots := 0, locals := 141 } : Room) s m ([.ref u0, .int u1, .int u2] : List Value).toArray below meth c H locs 0 0 (MQ below (hQ D z h' (some (.int r))) ([.ref u0, .int u1, .int u2] : List Value).toArray s 0 0 (hA z)) (F0 m 110 ls [.int t0_110, .int t1_110, .ref t2_110]) := by
            intro g26 y3_110 t0_110 t1_110 t2_110 H locs ls hs hr hS hl
            unfold zj_X11_write_110 at hs
            refine lv_i2b hx hb dX11_write_110 rfl ?_
            obtain ⟨g27, eg27, hs⟩ := bi_inv hs
            refine hv_sB hx hb hk hr hS eg27 dX11_write_111 (fun H locs hr hS => ?_)
            refine lv_iinc (v := y3_110 + (1 : Int32)) (lv' := [(3, .int (y3_110 + (1 : Int32))), (0, .ref u0), (1, .int u1), (4, .ref x9.1), (5, .ref x11.1), (6, .int x12)]) hx hb dX11_write_112 hl (k := 2) rfl (ii_v _ (by decide)) (by decide) rfl (fun ls hl => ?_)
            refine lv_aload hx hb dX11_write_115 (lv_at hl 3 rfl) ?_
            refine lv_aload_n hx hb dX11_write_117 rfl (lv_at hl 1 rfl) ?_
            obtain ⟨x28, ex28, hs⟩ := bi_inv hs
            refine hv_gR (C := RX11) (T := TX11) (N := 23) (ci := 11) hx hb hts inX11 hown hk hr rfl 5 (by decide) (hts _ tw_887) ex28 dX11_write_118 ?_
            obtain ⟨_, ex29, hs⟩ := bi_inv hs
            obtain ⟨g30, eg30, hs⟩ := bi_inv hs
            refine hv_V0 (n := 1) [.ref x28] [] hx hb hml hown hts hk hr hz hS (zm_X10_become l D z eg30) ex29 rfl tw_875 tw_876 tw_877 tw_12 tw_878 (by decide +kernel) (by decide) ⟨(Nat.zero_le _), (Nat.zero_le _)⟩ rfl hl.1 (Nat.le_of_ble_eq_true rfl) dX11_write_121 rfl (fun H locs hr hS => ?_)
            refine lv_aload_n hx hb dX11_write_124 rfl (lv_at hl 1 rfl) ?_
            refine lv_iload hx hb dX11_write_125 (lv_at hl 5 rfl) ?_
            obtain ⟨g31, eg31, hs⟩ := bi_inv hs
            refine hv_pV (C := RX11) (T := TX11) (N := 23) (ci := 11) hx hb hts inX11 tyX11 tyX11_ok nmX11 hown hk hr hS rfl 2 (by decide) (hts _ tw_884) rfl rfl rfl eg31 dX11_write_127 (fun H locs hr hS => ?_)
            refine lv_aload hx hb dX11_write_130 (lv_at hl 3 rfl) ?_
            obtain ⟨_, ex32, hs⟩ := bi_inv hs
            obtain ⟨x33, ex33, hs⟩ := bi_inv hs
            refine hv_V1 (n := 0) [] [] hx hb hml hown hts hk hr hz hS (zm_X10_isZero l D z ex33) ex32 rfl tw_1011 tw_1012 tw_1013 tw_12 tw_1014 (by decide +kernel) (by decide) ⟨(Nat.zero_le _), (Nat.zero_le _)⟩ rfl hl.1 (Nat.le_of_ble_eq_true rfl) dX11_write_132 rfl (fun H locs hr hS => ?_)
            refine lv_if_eq (tgt := 49) hx hb dX11_write_135 (by decide) (fun c34 => ?_) (fun c34 => ?_)
            · rw [if_pos c34] at hs
              obtain rfl := Option.some.inj hs
              exact hcont _ rfl H locs ls hr hS (lv_sub hl [1, 2, 3, 4, 5, 0] rfl)
            · rw [if_neg c34] at hs
              obtain rfl := Option.some.inj hs
              exact hexit _ rfl H locs ls hr hS (lv_sub hl [1, 2, 0] rfl)
          have hJ80 : ∀ (g23 : AH) (y3_80 : Int32) (t0_80 : Int32) (H : Heap) (locs : List Loc) (ls : Array Slot), zj_X11_write_80 u0 u1 x9.1 x11.1 x12 g23 y3_80 t0_80 = some o → hR D z g23 H → va_S (hA z) s.heap H locs → lv_has ls 9 [(0, .ref u0), (1, .int u1), (3, .int y3_80), (4, .ref x9.1), (5, .ref x11.1), (6, .int x12)] → W p l e ({ frames := 5, cells := 0, slots := 0, locals := 141 } : Room) s m ([.ref u0, .int u1, .int u2] : List Value).toArray below meth c H locs 0 0 (MQ below (hQ D z h' (some (.int r))) ([.ref u0, .int u1, .int u2] : List Value).toArray s 0 0 (hA z)) (F0 m 80 ls [.int t0_80]) := by
            intro g23 y3_80 t0_80 H locs ls hs hr hS hl
            unfold zj_X11_write_80 at hs
            refine lv_istore (lv' := [(7, .int t0_80), (0, .ref u0), (1, .int u1), (3, .int y3_80), (4, .ref x9.1), (5, .ref x11.1), (6, .int x12)]) hx hb dX11_write_80 hl (by decide) rfl (fun ls hl => ?_)
            refine lv_aload_n hx hb dX11_write_82 rfl (lv_at hl 1 rfl) ?_
            obtain ⟨x24, ex24, hs⟩ := bi_inv hs
            refine hv_gR (C := RX11) (T := TX11) (N := 23) (ci := 11) hx hb hts inX11 hown hk hr rfl 14 (by decide) (hts _ tw_896) ex24 dX11_write_83 ?_
            refine lv_iload_n hx hb dX11_write_86 rfl (lv_at hl 3 rfl) ?_
            refine lv_iload hx hb dX11_write_87 (lv_at hl 0 rfl) ?_
            refine lv_bipush (v := 10) hx hb dX11_write_89 (by decide) ?_
            refine lv_icmp_ge (tgt := 102) hx hb dX11_write_91 (by decide) (fun c25 => ?_) (fun c25 => ?_)
            · rw [if_pos c25] at hs
              refine lv_bipush (v := 97) hx hb dX11_write_102 (by decide) ?_
              refine lv_iload hx hb dX11_write_104 (lv_at hl 0 rfl) ?_
              refine lv_iadd hx hb dX11_write_106 ?_
              refine lv_bipush (v := 10) hx hb dX11_write_107 (by decide) ?_
              refine lv_isub hx hb dX11_write_109 ?_
              exact hJ110 g23 y3_80 ((((97 : Int32)) + t0_80) - ((10 : Int32))) y3_80 x24 H locs ls hs hr hS (lv_sub hl [1, 2, 3, 4, 5, 6] rfl)
            · rw [if_neg c25] at hs
              refine lv_bipush (v := 48) hx hb dX11_write_94 (by decide) ?_
              refine lv_iload hx hb dX11_write_96 (lv_at hl 0 rfl) ?_
              refine lv_iadd hx hb dX11_write_98 ?_
              refine lv_goto (tgt := 110) hx hb dX11_write_99 (by decide) ?_
              exact hJ110 g23 y3_80 (((48 : Int32)) + t0_80) y3_80 x24 H locs ls hs hr hS (lv_sub hl [1, 2, 3, 4, 5, 6] rfl)
          unfold zb_X11_write_49 at hs
          refine lv_aload_n hx hb dX11_write_49 rfl (lv_at hl 0 rfl) ?_
          refine lv_aload hx hb dX11_write_50 (lv_at hl 2 rfl) ?_
          refine lv_aload hx hb dX11_write_52 (lv_at hl 3 rfl) ?_
          obtain ⟨_, ex14, hs⟩ := bi_inv hs
          obtain ⟨g15, eg15, hs⟩ := bi_inv hs
          refine hv_V0 (n := 2) [.ref x9.1, .ref x11.1] [] hx hb hml hown hts hk hr hz hS (zm_X11_divide l D z eg15) ex14 rfl tw_1040 tw_1042 ts_32 tw_11 tw_1043 (by decide +kernel) (by decide) ⟨(Nat.zero_le _), (Nat.zero_le _)⟩ rfl hl.1 (Nat.le_of_ble_eq_true rfl) dX11_write_54 rfl (fun H locs hr hS => ?_)
          refine lv_aload_n hx hb dX11_write_57 rfl (lv_at hl 0 rfl) ?_
          obtain ⟨x16, ex16, hs⟩ := bi_inv hs
          refine hv_gR (C := RX11) (T := TX11) (N := 23) (ci := 11) hx hb hts inX11 hown hk hr rfl 6 (by decide) (hts _ tw_888) ex16 dX11_write_58 ?_
          obtain ⟨_, ex17, hs⟩ := bi_inv hs
          obtain ⟨x18, ex18, hs⟩ := bi_inv hs
          refine hv_V1 (n := 0) [] [] hx hb hml hown hts hk hr hz hS (zm_X10_isZero l D z ex18) ex17 rfl tw_1011 tw_1012 tw_1013 tw_12 tw_1014 (by decide +kernel) (by decide) ⟨(Nat.zero_le _), (Nat.zero_le _)⟩ rfl hl.1 (Nat.le_of_ble_eq_true rfl) dX11_write_61 rfl (fun H locs hr hS => ?_)
          refine lv_if_eq (tgt := 71) hx hb dX11_write_64 (by decide) (fun c19 => ?_) (fun c19 => ?_)
          · rw [if_pos c19] at hs
            refine lv_aload_n hx hb dX11_write_71 rfl (lv_at hl 0 rfl) ?_
            obtain ⟨x20, ex20, hs⟩ := bi_inv hs
            refine hv_gR (C := RX11) (T := TX11) (N := 23) (ci := 11) hx hb hts inX11 hown hk hr rfl 6 (by decide) (hts _ tw_888) ex20 dX11_write_72 ?_
            obtain ⟨x21, ex21, hs⟩ := bi_inv hs
            refine hv_gR (C := RX10) (T := TX10) (N := 3) (ci := 10) hx hb hts inX10 hown hk hr rfl 2 (by decide) (hts _ tw_867) ex21 dX11_write_75 ?_
            refine lv_iconst (v := 0) hx hb dX11_write_78 (by decide) ?_
            obtain ⟨x22, ex22, hs⟩ := bi_inv hs
            refine hv_aI hx hb hk hr ex22 dX11_write_79 ?_
            exact hJ80 g15 w3 x22 H locs ls hs hr hS (lv_sub hl [0, 1, 5, 2, 3, 4] rfl)
          · rw [if_neg c19] at hs
            refine lv_iconst (v := 0) hx hb dX11_write_67 (by decide) ?_
            refine lv_goto (tgt := 80) hx hb dX11_write_68 (by decide) ?_
            exact hJ80 g15 w3 ((0 : Int32)) H locs ls hs hr hS (lv_sub hl [0, 1, 5, 2, 3, 4] rfl)
        · intro H locs ls hr hS hl
          refine lv_aload_n hx hb dX11_write_138 rfl (lv_at hl 0 rfl) ?_
          obtain ⟨x36, ex36, hs⟩ := bi_inv hs
          refine hv_gR (C := RX11) (T := TX11) (N := 23) (ci := 11) hx hb hts inX11 hown hk hr rfl 9 (by decide) (hts _ tw_891) ex36 dX11_write_139 ?_
          refine lv_iload_n hx hb dX11_write_142 rfl (lv_at hl 1 rfl) ?_
          obtain ⟨x37, ex37, hs⟩ := bi_inv hs
          refine hv_aR (kd := 5) hx hb hk hr rfl ex37 dX11_write_143 ?_
          obtain ⟨x38, ex38, hs⟩ := bi_inv hs
          refine hv_gI (C := RX10) (T := TX10) (N := 3) (ci := 10) hx hb hts inX10 hown hk hr rfl 0 (by decide) (hts _ tw_863) ex38 dX11_write_144 ?_
          refine lv_if_eq (tgt := 161) hx hb dX11_write_147 (by decide) (fun c39 => ?_) (fun c39 => ?_)
          · rw [if_pos c39] at hs
            exact hJ161 r35.1 u0 r35.2 H locs ls hs hr hS (lv_sub hl [0, 2] rfl)
          · rw [if_neg c39] at hs
            refine lv_aload_n hx hb dX11_write_150 rfl (lv_at hl 0 rfl) ?_
            obtain ⟨x53, ex53, hs⟩ := bi_inv hs
            refine hv_gR (C := RX11) (T := TX11) (N := 23) (ci := 11) hx hb hts inX11 hown hk hr rfl 14 (by decide) (hts _ tw_896) ex53 dX11_write_151 ?_
            refine lv_iload_n hx hb dX11_write_154 rfl (lv_at hl 2 rfl) ?_
            refine lv_bipush (v := 45) hx hb dX11_write_155 (by decide) ?_
            obtain ⟨g54, eg54, hs⟩ := bi_inv hs
            refine hv_sB hx hb hk hr hS eg54 dX11_write_157 (fun H locs hr hS => ?_)
            refine lv_iinc (v := r35.2 + (1 : Int32)) (lv' := [(3, .int (r35.2 + (1 : Int32))), (0, .ref u0), (1, .int u1)]) hx hb dX11_write_158 hl (k := 2) rfl (ii_v _ (by decide)) (by decide) rfl (fun ls hl => ?_)
            exact hJ161 g54 u0 (r35.2 + (1 : Int32)) H locs ls hs hr hS (lv_sub hl [1, 0] rfl)
      · rw [if_neg c5] at hs
        refine lv_iconst (v := (-1)) hx hb dX11_write_19 (by decide) ?_
        obtain ⟨rfl, rfl⟩ := Prod.mk.inj (Option.some.inj hs)
        exact hv_iret hx hb hrt hlk hr hS dX11_write_20
