/-! the class's method out: it returns, or it throws -/
def okx (w : Cond) : Bool := match w with
  | .castable _ _ => true
  | .declares _ => true
  | _ => false
theorem okx_warm {w : Cond} (h : okx w = true) {s U : State} (hW : s.WarmedH U.vm) (hZ : va_Nw w s) : va_Nw w U := by
  cases w <;> first | exact va_Nw.warmC hW hZ | exact va_Nw.warmD hW hZ | simp [okx] at h
theorem okx_same {w : Cond} (h : okx w = true) {s U : State} (hv : s.vm = U.vm) (hZ : va_Nw w s) : va_Nw w U := by
  cases w <;> first | exact va_Nw.same rfl hv hZ | simp [okx] at h
theorem okx_use {w : Cond} (h : okx w = true) {A : Array Value} {U : State} (hZ : va_Nw w U) : w.before A U = true := by
  cases w <;> first | exact va_Nw.use rfl hZ | simp [okx] at h
def XL : List Cond := vx_atS RX9 128 "java/lang/IndexOutOfBoundsException" ["java/lang/RuntimeException", "java/lang/Exception"]
def XB : List Cond := XL.filter (fun w => !goodWord w)
theorem XG_in : ∀ w ∈ XL.filter goodWord, w ∈ bg := by decide +kernel
theorem XB_ok : ∀ w ∈ XB, okx w = true := by decide +kernel
theorem XB_in : ∀ w ∈ XB, w ∈ lw_tbl := by decide +kernel
theorem XL_ot : ∀ w ∈ Cond.classLink RX9 124 "java/lang/IndexOutOfBoundsException" :: Cond.initialized "java/lang/IndexOutOfBoundsException" :: XL, vx_ot w = true := by decide +kernel
def hX (z sa : Nat) (U : State) (H : Heap) : Prop := vx_Zq Bundle.tN "UNASSIGNED_STACK" Bundle.steD (hA z) U H ∧ vx_Zq Bundle.tN "SUPPRESSED_SENTINEL" Bundle.listD (hA z) U H ∧ vk_R RX9 126 "OUT has no such byte" sa U ∧ ∀ w ∈ XB, va_Nw w U
section HXs
variable {z sa : Nat} {s U : State} {H H1 : Heap} {D : hG} {h : AH}
theorem hX.moved (hW : s.WarmedH U.vm) (x : hX z sa s H) : hX z sa U H := ⟨x.1.moved hW.alike, x.2.1.moved hW.alike, vk_R.warm hW x.2.2.1, fun w hw => okx_warm (XB_ok w hw) hW (x.2.2.2 w hw)⟩
theorem hX.same (hv : s.vm = U.vm) (x : hX z sa s H) : hX z sa U H := ⟨x.1.moved (by rw [hv]; exact Vm.Alike.refl _), x.2.1.moved (by rw [hv]; exact Vm.Alike.refl _), vk_R.same hv.symm x.2.2.1, fun w hw => okx_same (XB_ok w hw) hv (x.2.2.2 w hw)⟩
theorem hX.kept (x : hX z sa U H) (hq : ∀ a : Nat, a < H.size → ¬ hA z a → H1[a]? = H[a]?) : hX z sa U H1 := ⟨x.1.kept hq, x.2.1.kept hq, x.2.2.1, x.2.2.2⟩
def hBX (D : hG) (z : Nat) (h : AH) (sa : Nat) (U : State) : Prop := hB D z h U ∧ hX z sa U U.heap
theorem hBX_blind {av : List Value} : FrameBlind (va_Pc av (hBX D z h sa)) := fun a U g mk q => ⟨q.1, (hB_blind a U g mk ⟨q.1, q.2.1⟩).2, hX.same (s := U) (U := U.calling g mk a) rfl q.2.2⟩
theorem hBX_at (hk : hK D s) (hr : hR D z h H) (hz : z ≤ H.size) (x : hX z sa s H) (hU : U.heap = H) (hW : s.WarmedH U.vm) : hBX D z h sa U := ⟨hB_at hk hr hz hU hW, by rw [hU]; exact x.moved hW⟩
theorem hR.grow (hr : hR D z h H) (ho : ∀ q : Nat, q < H.size → H1[q]? = H[q]?) : hR D z (h.1, H1.size) H1 :=
  ⟨rfl, fun a e he => ⟨(hr.2 a e he).1, (hr.2 a e he).2.kept (ho a (hr.2 a e he).2.lt)⟩⟩
end HXs
theorem dX9_out_0 : decode cX9_out 0 = .ok (.iload_n 1, 1) := by decide +kernel
theorem dX9_out_1 : decode cX9_out 1 = .ok (.ifCond .lt 14, 3) := by decide +kernel
theorem dX9_out_4 : decode cX9_out 4 = .ok (.iload_n 1, 1) := by decide +kernel
theorem dX9_out_5 : decode cX9_out 5 = .ok (.aload_n 0, 1) := by decide +kernel
theorem dX9_out_6 : decode cX9_out 6 = .ok (.getfield 33, 3) := by decide +kernel
theorem dX9_out_9 : decode cX9_out 9 = .ok (.getfield 123, 3) := by decide +kernel
theorem dX9_out_12 : decode cX9_out 12 = .ok (.if_icmp .lt 13, 3) := by decide +kernel
theorem dX9_out_15 : decode cX9_out 15 = .ok (.new 124, 3) := by decide +kernel
theorem dX9_out_18 : decode cX9_out 18 = .ok (.dup, 1) := by decide +kernel
theorem dX9_out_19 : decode cX9_out 19 = .ok (.ldc 126, 2) := by decide +kernel
theorem dX9_out_21 : decode cX9_out 21 = .ok (.invokespecial 128, 3) := by decide +kernel
theorem dX9_out_24 : decode cX9_out 24 = .ok (.athrow, 1) := by decide +kernel
theorem dX9_out_25 : decode cX9_out 25 = .ok (.aload_n 0, 1) := by decide +kernel
theorem dX9_out_26 : decode cX9_out 26 = .ok (.getfield 33, 3) := by decide +kernel
theorem dX9_out_29 : decode cX9_out 29 = .ok (.getfield 131, 3) := by decide +kernel
theorem dX9_out_32 : decode cX9_out 32 = .ok (.iload_n 1, 1) := by decide +kernel
theorem dX9_out_33 : decode cX9_out 33 = .ok (.iaload, 1) := by decide +kernel
theorem dX9_out_34 : decode cX9_out 34 = .ok (.ireturn, 1) := by decide +kernel
def zs_X9_out (h : AH) (u0 : Nat) (u1 : Int32) : Option Int32 :=
  (if u1 < 0 then none else (gR h u0 9 3).bind fun x1 => (gI h x1 6 0).bind fun x2 => (if u1 < x2 then (gR h u0 9 3).bind fun x3 => (gR h x3 6 1).bind fun x4 => (aI h x4 0 u1).bind fun x5 => some x5 else none))
/-- where it throws -/
def zt_X9_out (h : AH) (u0 : Nat) (u1 : Int32) : Prop := u1 < 0 ∨ (¬ u1 < 0 ∧ ∃ t y, gR h u0 9 3 = some t ∧ gI h t 6 0 = some y ∧ ¬ u1 < y)
set_option maxRecDepth 100000 in
set_option maxHeartbeats 4000000 in
theorem zm_X9_out (l : Launch) (D : hG) (z : Nat) {h : AH} {u0 : Nat} {u1 r : Int32} (hs : zs_X9_out h u0 u1 = some r) : hC l D z yX9_out cX9_out 2 (Option.some Jvm.ClassFile.FieldType.int) 0 0 0 0 [.ref u0, .int u1] h h (some (.int r)) := by
  refine hC_of (by decide) (Nat.le_of_ble_eq_true rfl) ?_
  intro p e s m below meth c hx hb hml hrt hlk hown hnm hts hk hr hz ls hl
  replace hown : s.vm.findClass RX9 = some m.cls := hown
  replace hl : lv_has ls 2 [(0, .ref u0), (1, .int u1)] := hl
  have hS : va_S (hA z) s.heap s.heap [] := va_S.rf
  unfold zs_X9_out at hs
  refine lv_iload_n hx hb dX9_out_0 rfl (lv_at hl 1 rfl) ?_
  refine lv_if_lt (tgt := 15) hx hb dX9_out_1 (by decide) (fun c1 => ?_) (fun c1 => ?_)
  · rw [if_pos c1] at hs
    cases hs
  · rw [if_neg c1] at hs
    obtain ⟨x1, ex1, hs⟩ := bi_inv hs
    obtain ⟨x2, ex2, hs⟩ := bi_inv hs
    refine lv_iload_n hx hb dX9_out_4 rfl (lv_at hl 1 rfl) ?_
    refine lv_aload_n hx hb dX9_out_5 rfl (lv_at hl 0 rfl) ?_
    refine hv_gR (C := RX9) (T := TX9) (N := 12) (ci := 9) hx hb hts inX9 hown hk hr rfl 3 (by decide) (hts _ tw_278) ex1 dX9_out_6 ?_
    refine hv_gI (C := RX6) (T := TX6) (N := 3) (ci := 6) hx hb hts inX6 hown hk hr rfl 0 (by decide) (hts _ tw_115) ex2 dX9_out_9 ?_
    refine lv_icmp_lt (tgt := 25) hx hb dX9_out_12 (by decide) (fun c2 => ?_) (fun c2 => ?_)
    · rw [if_pos c2] at hs
      obtain ⟨x3, ex3, hs⟩ := bi_inv hs
      obtain ⟨x4, ex4, hs⟩ := bi_inv hs
      obtain ⟨x5, ex5, hs⟩ := bi_inv hs
      obtain rfl := Option.some.inj hs
      refine lv_aload_n hx hb dX9_out_25 rfl (lv_at hl 0 rfl) ?_
      refine hv_gR (C := RX9) (T := TX9) (N := 12) (ci := 9) hx hb hts inX9 hown hk hr rfl 3 (by decide) (hts _ tw_278) ex3 dX9_out_26 ?_
      refine hv_gR (C := RX6) (T := TX6) (N := 3) (ci := 6) hx hb hts inX6 hown hk hr rfl 1 (by decide) (hts _ tw_117) ex4 dX9_out_29 ?_
      refine lv_iload_n hx hb dX9_out_32 rfl (lv_at hl 1 rfl) ?_
      refine hv_aI hx hb hk hr ex5 dX9_out_33 ?_
      exact hv_iret hx hb hrt hlk hr hS dX9_out_34
    · rw [if_neg c2] at hs
      cases hs
/-- what the throw leaves -/
def XCo (D : hG) (z : Nat) (h : AH) : String → State → State → Prop := vx_X (fun _ : Unit => True) (fun E _ t => E = "java/lang/IndexOutOfBoundsException" ∧ ∃ k, hR D z (h.1, k) t.heap) (hA z)
set_option maxRecDepth 100000 in
set_option maxHeartbeats 4000000 in
theorem zx_X9_out (l : Launch) (hst : l.stackTraces = false) (D : hG) (z sa : Nat) {h : AH} {u0 : Nat} {u1 : Int32} (ht : zt_X9_out h u0 u1) : vx_Met l yX9_out (.code yX9_out cX9_out 2 (Option.some Jvm.ClassFile.FieldType.int) :: bg) ({ frames := 6, cells := 1, slots := 6, locals := 82 } : Room) (va_Pc [.ref u0, .int u1] (hBX D z h sa)) (fun _ _ _ _ => False) (XCo D z h) 1 6 (hA z) := by
  refine vx_ofW (cc := cX9_out) (maxL := 2) (ret := Option.some Jvm.ClassFile.FieldType.int) (by decide) rfl ?_
  intro p e s m args below meth c s₁ B hml hnt hv
  obtain ⟨rfl, ⟨hk, hr, hz⟩, hU, hN, hsr, hca⟩ := hv
  have hts : ∀ w ∈ bg, w.before ([.ref u0, .int u1] : List Value).toArray s = true := fun w hw => atoms_spec (ws := .code yX9_out cX9_out 2 (Option.some Jvm.ClassFile.FieldType.int) :: bg) B.pre w (List.mem_cons_of_mem _ hw)
  have hx := B.exec
  have hb := B.bytes
  have hlk := B.notSynchronized
  have hown : s.vm.findClass RX9 = some m.cls := findClass_of_methodNamed B.named
  have hl0 := lv_entry ([.ref u0, .int u1] : List Value) (n := 2) (Nat.le_of_ble_eq_true rfl)
  rw [lg_entry_eq]
  generalize (lg_sl ([.ref u0, .int u1] : List Value) ++ List.replicate (2 - (lg_sl ([.ref u0, .int u1] : List Value)).length) Slot.unset).toArray = ls at hl0 ⊢
  have hl : lv_has ls 2 [(0, .ref u0), (1, .int u1)] := hl0
  have hS : va_S (hA z) s.heap s.heap [] := va_S.rf
  have thr : W p l e ({ frames := 6, cells := 1, slots := 6, locals := 82 } : Room) s m ([.ref u0, .int u1] : List Value).toArray below meth c s.heap [] 0 0 (vx_MQ below (fun _ _ _ _ => False) (XCo D z h) ([.ref u0, .int u1] : List Value).toArray s 1 6 (hA z)) (F0 m 15 ls []) := by
    refine vx_throwS hx hb hst (own := RX9) (cls := "java/lang/IndexOutOfBoundsException") (text := "OUT has no such byte") (names := ["java/lang/RuntimeException", "java/lang/Exception"]) (ik := 124) (is := 126) (ic := 128) (sa := sa) (A := hA z) hown (by decide +kernel) (by decide +kernel) (hts _ tw_779) (hts _ tw_19) hsr
      (vx_hat (fun w hw => hts w (XG_in w hw)) (fun w hw => hw) (fun w hw => okx_use (XB_ok w hw) (hca w hw))) XL_ot hU hN hS (by rw [hml]; exact hl.1) dX9_out_15 dX9_out_18 dX9_out_19 dX9_out_21 dX9_out_24 (fun x hx => (hnt x hx).elim) (by decide) (by decide) (by decide) (by decide) hlk ?_ (fun q hq => nomatch hq) (by decide) (by decide)
    intro t _ h1 h2
    exact ⟨(), trivial, ⟨rfl, _, hr.grow h2⟩, h1, fun q h3 _ => h2 q h3⟩
  refine lv_iload_n hx hb dX9_out_0 rfl (lv_at hl 1 rfl) ?_
  refine lv_if_lt (tgt := 15) hx hb dX9_out_1 (by decide) (fun c1 => thr) (fun c1 => ?_)
  rcases ht with ht | ⟨-, t, y, ex1, ex2, ht⟩
  · exact absurd ht c1
  refine lv_iload_n hx hb dX9_out_4 rfl (lv_at hl 1 rfl) ?_
  refine lv_aload_n hx hb dX9_out_5 rfl (lv_at hl 0 rfl) ?_
  refine hv_gR (C := RX9) (T := TX9) (N := 12) (ci := 9) hx hb hts inX9 hown hk hr rfl 3 (by decide) (hts _ tw_278) ex1 dX9_out_6 ?_
  refine hv_gI (C := RX6) (T := TX6) (N := 3) (ci := 6) hx hb hts inX6 hown hk hr rfl 0 (by decide) (hts _ tw_115) ex2 dX9_out_9 ?_
  exact lv_icmp_lt (tgt := 25) hx hb dX9_out_12 (by decide) (fun c2 => absurd c2 ht) (fun c2 => thr)
