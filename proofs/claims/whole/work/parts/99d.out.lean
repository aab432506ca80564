/-! out, in the class's state; the law's own method out -/
theorem c_out {B h : AH} {n : Nat} {S : AS} (I : CI B n h S) (x : Int32) : match ixI S.oN x with
    | some j => zs_X9_out h n x = some (nI (S.oB j))
    | none => zt_X9_out h n x := by
  obtain ⟨d, M, ⟨-, ob, -, -, -, -, -⟩, -, ⟨-, ⟨xc, xb⟩, -⟩, si⟩ := I
  have hoN := si.2.2.2.1.1
  have g3 : gR h n 9 3 = some (n + 113) := gR_go (show h.1 n = _ from ob 0 _ rfl) rfl
  have g0 : gI h (n + 113) 6 0 = some (nI S.oN) := by
    rw [← xc]
    exact gI_go (ob 113 _ rfl) rfl
  cases h1 : ixI S.oN x with
  | none =>
    show zt_X9_out h n x
    by_cases h0 : x < 0
    · exact Or.inl h0
    · refine Or.inr ⟨h0, _, _, g3, g0, fun h2 => ?_⟩
      rcases ixI_none h1 with h3 | h3
      · exact h0 (i32_lt0.mpr h3)
      · have h4 : nI S.oN ≤ x := i32_le.mpr (by rw [nI_toInt (by omega)]; exact h3)
        exact Int32.not_lt.mpr h4 h2
  | some j =>
    obtain ⟨rfl, hj⟩ := ixI_some h1
    show zs_X9_out h n (nI j) = _
    unfold zs_X9_out
    rw [if_neg (nI_pos (by omega)), g3]
    simp only [Option.bind_some]
    rw [g0]
    simp only [Option.bind_some]
    rw [if_pos (nI_lt (a := j) hj (by omega)), show gR h (n + 113) 6 1 = some (n + 114) from gR_go (ob 113 _ rfl) rfl]
    simp only [Option.bind_some]
    rw [aI_go (ob 114 _ rfl) (show j < 385 by omega) (by decide), xb j hj]
    rfl
theorem dL_out_0 : decode cL_out 0 = .ok (.aload_n 2, 1) := by decide +kernel
theorem dL_out_1 : decode cL_out 1 = .ok (.iconst 0, 1) := by decide +kernel
theorem dL_out_2 : decode cL_out 2 = .ok (.aload_n 0, 1) := by decide +kernel
theorem dL_out_3 : decode cL_out 3 = .ok (.iload_n 1, 1) := by decide +kernel
theorem dL_out_4 : decode cL_out 4 = .ok (.invokevirtual 7, 3) := by decide +kernel
theorem dL_out_7 : decode cL_out 7 = .ok (.i2l, 1) := by decide +kernel
theorem dL_out_8 : decode cL_out 8 = .ok (.lastore, 1) := by decide +kernel
theorem dL_out_9 : decode cL_out 9 = .ok (.goto 6, 3) := by decide +kernel
theorem dL_out_12 : decode cL_out 12 = .ok (.astore_n 3, 1) := by decide +kernel
theorem dL_out_13 : decode cL_out 13 = .ok (.iconst 1, 1) := by decide +kernel
theorem dL_out_14 : decode cL_out 14 = .ok (.ireturn, 1) := by decide +kernel
theorem dL_out_15 : decode cL_out 15 = .ok (.iconst 0, 1) := by decide +kernel
theorem dL_out_16 : decode cL_out 16 = .ok (.ireturn, 1) := by decide +kernel
def wsLo : List Cond := .codeWith yL_out cL_out 4 (Option.some Jvm.ClassFile.FieldType.int) [(0, 9, 12, 13)] :: bg
/-- what the law's own out leaves: 0 and the byte, or 1 -/
def Po (n ao : Nat) (x : Int32) (h : AH) (k : Int32) (h' : AH) : Prop := (k = 0 ∧ ∃ r, zs_X9_out h n x = some r ∧ sJ h ao 1 0 r.toInt64 = some h') ∨ (k = 1 ∧ zt_X9_out h n x ∧ ∃ q, h.2 ≤ q ∧ h' = (h.1, q))
def QLo (D : hG) (z n ao : Nat) (x : Int32) (h : AH) : Array Value → State → Outcome → State → Prop := fun a st o t => ∃ k h', Po n ao x h k h' ∧ hQ D z h' (some (.int k)) a st o t
theorem MQ_imp {p : Program} {l : Launch} {e : Env} {R : Room} {s : State} {m : MethodId} {args : Array Value} {below : List Frame} {meth : Method} {c : Code} {H : Heap} {locs : List Loc} {cells slots mc ms : Nat} {free : Addr → Prop} {Qc Qc' : Array Value → State → Outcome → State → Prop} {g : JFrame} (hi : ∀ a s o t, Qc a s o t → Qc' a s o t)
    (k : W p l e R s m args below meth c H locs cells slots (MQ below Qc args s mc ms free) g) : W p l e R s m args below meth c H locs cells slots (MQ below Qc' args s mc ms free) g := by
  intro T hT X
  obtain ⟨t, a1, o, b1, b2, b3, b4⟩ := k T hT X
  exact ⟨t, a1, o, b1, b2, hi _ _ _ _ b3, b4⟩
set_option maxRecDepth 100000 in
set_option maxHeartbeats 4000000 in
theorem zm_L_out (l : Launch) (hst : l.stackTraces = false) (D : hG) (z sa : Nat) {h : AH} {n ao : Nat} {x : Int32} {u : Unit} (hc : chk h n 9 = some u) (hcase : (∃ r h1, zs_X9_out h n x = some r ∧ sJ h ao 1 0 r.toInt64 = some h1) ∨ zt_X9_out h n x) : Met l yL_out wsLo ({ frames := 7, cells := 1, slots := 6, locals := 103 } : Room) (va_Pc [.ref n, .int x, .ref ao] (hBX D z h sa)) (QLo D z n ao x h) 1 6 (hA z) := by
  refine va_MetW (cc := cL_out) (maxL := 4) (ret := Option.some Jvm.ClassFile.FieldType.int) (hh := [(0, 9, 12, 13)]) (ws' := bg) (by decide) rfl ?_
  intro p e s m args below meth c s₁ B hml hv
  obtain ⟨rfl, ⟨hk, hr, hz⟩, hXX⟩ := hv
  have hts0 := atoms_spec (ws := wsLo) B.pre
  have hts : ∀ w ∈ bg, w.before ([.ref n, .int x, .ref ao] : List Value).toArray s = true := fun w hw => hts0 w (List.mem_cons_of_mem _ hw)
  have htab := vx_table (x := yL_out) B (hts0 _ List.mem_cons_self)
  have hx := B.exec
  have hb := B.bytes
  have hlk := B.notSynchronized
  have hrt := B.returns
  have hown : s.vm.findClass RL = some m.cls := findClass_of_methodNamed B.named
  have hl0 := lv_entry ([.ref n, .int x, .ref ao] : List Value) (n := 4) (Nat.le_of_ble_eq_true rfl)
  rw [lg_entry_eq]
  generalize (lg_sl ([.ref n, .int x, .ref ao] : List Value) ++ List.replicate (4 - (lg_sl ([.ref n, .int x, .ref ao] : List Value)).length) Slot.unset).toArray = ls at hl0 ⊢
  have hl : lv_has ls 4 [(0, .ref n), (1, .int x), (2, .ref ao)] := hl0
  have hS : va_S (hA z) s.heap s.heap [] := va_S.rf
  refine lv_aload_n hx hb dL_out_0 rfl (lv_at hl 2 rfl) ?_
  refine lv_iconst (v := 0) hx hb dL_out_1 (by decide) ?_
  refine lv_aload_n hx hb dL_out_2 rfl (lv_at hl 0 rfl) ?_
  refine lv_iload_n hx hb dL_out_3 rfl (lv_at hl 1 rfl) ?_
  rcases hcase with ⟨r, h1, e1, e2⟩ | ht
  · refine hv_V1 (n := 1) [.int x] [.int (0 : Int32), .ref ao] hx hb hml hown hts hk hr hz hS (zm_X9_out l D z e1) hc rfl tw_775 tw_776 tw_777 tw_1 tw_778 (by decide +kernel) (by decide) ⟨Nat.zero_le _, Nat.zero_le _⟩ rfl hl.1 (Nat.le_of_ble_eq_true rfl) dL_out_4 rfl (fun H locs hr hS => ?_)
    refine lv_i2l hx hb dL_out_7 rfl ?_
    refine hv_sJ hx hb hk hr hS e2 dL_out_8 (fun H locs hr hS => ?_)
    refine lv_goto (tgt := 15) hx hb dL_out_9 (by decide) ?_
    refine lv_iconst (v := 0) hx hb dL_out_15 (by decide) ?_
    refine W.widen (k := 1) (n := 6) (by decide) (by decide) ?_
    exact MQ_imp (fun a s o t q => ⟨0, h1, Or.inl ⟨rfl, r, e1, e2⟩, q⟩) (hv_iret hx hb hrt hlk hr hS dL_out_16)
  · obtain ⟨fs, hfs⟩ := chk_inv hc
    have hG : GoodIn bg (wsV RL 7 RX9 yX9_out (Cond.code yX9_out cX9_out 2 (Option.some Jvm.ClassFile.FieldType.int) :: bg)) := bg_in (fun w hw => by
      simp only [wsV, List.mem_append, List.mem_cons, List.not_mem_nil, or_false] at hw
      rcases hw with (rfl | rfl | rfl | rfl) | rfl | hw
      · exact tw_775
      · exact tw_776
      · exact tw_777
      · exact tw_1
      · exact tw_778
      · exact hw)
    have run := vx_runV (g := F0 m 4 ls [.int x, .ref n, .int (0 : Int32), .ref ao]) (H := s.heap) (locs := []) (cells := 0) (slots := 0) (below := below) (e := e) (meth := meth) (R := ({ frames := 7, cells := 1, slots := 6, locals := 103 } : Room)) (As := [.int x]) (rest := [.int (0 : Int32), .ref ao]) ⟨hx, hb, hml, hown, hts⟩ (zx_X9_out l hst D z sa ht) (cwV 1 hts hG rfl rfl rfl (by decide +kernel) (by decide)) ⟨hBX_blind, va_recv (q0 := 0) hk.1 (hr.one hfs) rfl rfl, fun U hU hW => ⟨rfl, hBX_at hk hr hz hXX hU hW⟩⟩ rfl rfl hl.1 rfl (by show 2 * 0 + (1 + (1 + 0)) ≤ 8; decide) dL_out_4 ⟨by decide, by decide⟩
    intro T hT X
    rcases run T hT X with ⟨v, st₀, t, T', L, -, -, -, -, -, hF, -⟩ | ⟨q, st₀, t, T', L, E, ce, h0, X', hL, e1, e2, ⟨-, -, ⟨hE, k, hk'⟩, hF⟩, hce, hcv, hcl, st⟩
    · exact hF.elim
    · obtain ⟨k1, k2, k3⟩ := vx_keep h0 e1 hS (fun _ _ q => q) (fun _ q => q) hL hF
      subst hE
      have hr' : hR D z (h.1, k) T'.heap := by rw [e1]; exact hk'
      have hkq : h.2 ≤ k := by
        have a1 : T'.heap.size = k := hr'.1
        have a2 : s.heap.size = h.2 := hr.1
        omega
      have kx : vx_W p l e ({ frames := 7, cells := 1, slots := 6, locals := 103 } : Room) s m ([.ref n, .int x, .ref ao] : List Value).toArray below meth c T'.heap ([] ++ L) (0 + 1) (0 + 6) (MQ below (QLo D z n ao x h) ([.ref n, .int x, .ref ao] : List Value).toArray s 1 6 (hA z)) (F0 m 4 ls [.int (0 : Int32), .ref ao]) q := by
        refine vx_catch (own := RL) (name := "java/lang/IndexOutOfBoundsException") hown [] ⟨0, 9, 12, 13⟩ [] htab (fun z hz => nomatch hz) (by decide) (by decide) (hts _ tw_774) (okx_use (w := .castable "java/lang/IndexOutOfBoundsException" "java/lang/IndexOutOfBoundsException") rfl (hXX.2.2.2 _ (by decide +kernel))) (by rw [e1]; exact hce) hcv hcl ?_
        refine lv_astore_n (lv' := [(3, .ref q), (0, .ref n), (1, .int x), (2, .ref ao)]) hx hb dL_out_12 rfl hl (by decide) rfl (fun ls hl => ?_)
        refine lv_iconst (v := 1) hx hb dL_out_13 (by decide) ?_
        exact MQ_imp (fun a s o t q => ⟨1, (h.1, k), Or.inr ⟨rfl, ht, k, hkq, rfl⟩, q⟩) (hv_iret hx hb hrt hlk hr' k3 dL_out_14)
      obtain ⟨t2, a1, b1⟩ := kx T' rfl X'
      exact ⟨t2, st.trans a1, b1⟩
