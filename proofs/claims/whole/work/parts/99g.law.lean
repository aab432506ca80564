/-! the law: its call of out, its loop, its start -/
theorem PI.mv {n m : Nat} {h h' : AH} {S : AS} (I : PI n m h S) (hk : ∀ a, a < m + 646 → h'.1 a = h.1 a) : PI n m h' S := by
  have := I.2.2
  exact ⟨I.1.mv (fun a h1 h2 => hk a (by omega)), I.2.1.mv (fun a h1 h2 => hk a (by omega)), this⟩
theorem hv_callE {p : Program} {l : Launch} {e : Env} {R : Room} {s : State} {m : MethodId} {args : Array Value} {below : List Frame} {meth : Method} {c : Code} {H : Heap} {locs : List Loc} {cells slots mc ms pc : Nat} {Q : State → Prop} {ls : Array Slot} {st0 rest : List Value} {D : hG} {z : Nat} {H0 : Heap} {av : Array Value} {P : Int32 → AH → Prop}
    (hr : va_Run p l e R s m args below meth c H locs cells slots mc ms (F0 m pc ls st0) rest (fun st o t => ∃ k h', P k h' ∧ hQ D z h' (some (.int k)) av st o t) (hA z)) (hS : va_S (hA z) H0 H locs)
    (kk : ∀ (k : Int32) (h' : AH) (H1 : Heap) (locs1 : List Loc), P k h' → hR D z h' H1 → va_S (hA z) H0 H1 locs1 → W p l e R s m args below meth c H1 locs1 (cells + mc) (slots + ms) Q (F0 m (pc + 3) ls (.int k :: rest))) : W p l e R s m args below meth c H locs cells slots Q (F0 m pc ls st0) := by
  intro T hT X
  obtain ⟨v, st₀, t, T', L, h0, X', hL, e1, e2, ⟨k, h', hP, hv, hrr, hz, hk⟩, st⟩ := hr T hT X
  cases hv
  rw [h0] at hz hk
  obtain ⟨t2, a1, b1⟩ := kk k h' T'.heap (locs ++ L) hP (by rw [e1]; exact hrr)
    ⟨Nat.le_trans hS.1 (by rw [e1]; exact hz), fun q h1 h2 => by rw [e1, hk q (Nat.lt_of_lt_of_le h1 hS.1) h2]; exact hS.2.1 q h1 h2, fun q hq => by
      rcases List.mem_append.mp hq with h9 | h9
      · exact hS.2.2 q h9
      · exact hL q h9⟩ T' rfl X'
  exact ⟨t2, st t2 a1, b1⟩
/-- what the two outs come to -/
theorem outs {n : Nat} {h : AH} {S : AS} {f : Nat → Int64} (I : PI n (n + 171) h S) (ha : h.1 (n + 817) = some (.inl (1, 1, .inr (.inl f)))) (x : Int32) :
    ((∃ r h1, zs_X9_out h n x = some r ∧ sJ h (n + 817) 1 0 r.toInt64 = some h1) ∨ zt_X9_out h n x) ∧ ∀ k h', Po n (n + 817) x h k h' → ∃ r2 h2, zs_X11_out h' (n + 171) x = some (r2, h2) ∧ chk h' (n + 171) 11 = some () ∧ chk h2 (n + 171) 11 = some () ∧ zs_X11_thrown h2 (n + 171) = some k ∧ (k = 0 ∨ k = 1) ∧ (k = 0 → aJ h2 (n + 817) 1 0 = some r2.toInt64) ∧ ∃ f', PI n (n + 171) h2 S ∧ h2.1 (n + 817) = some (.inl (1, 1, .inr (.inl f'))) := by
  have hc := c_out I.1 x
  have hJ : ∀ r : Int64, sJ h (n + 817) 1 0 r = some (hset h (n + 817) (.inl (1, 1, .inr (.inl (vp_updL f 0 r))))) := fun r => sJ_go (i := 0) ha (by decide) (by decide) r
  have key : ∀ (k : Int32) (h' : AH) (f' : Nat → Int64), PI n (n + 171) h' S → h'.1 (n + 817) = some (.inl (1, 1, .inr (.inl f'))) → (k = 0 ∨ k = 1) → (match ixI S.oN x with
      | some j => k = 0 ∧ f' 0 = (nI (S.oB j)).toInt64
      | none => k = 1) → ∃ r2 h2, zs_X11_out h' (n + 171) x = some (r2, h2) ∧ chk h' (n + 171) 11 = some () ∧ chk h2 (n + 171) 11 = some () ∧ zs_X11_thrown h2 (n + 171) = some k ∧ (k = 0 ∨ k = 1) ∧ (k = 0 → aJ h2 (n + 817) 1 0 = some r2.toInt64) ∧ ∃ f', PI n (n + 171) h2 S ∧ h2.1 (n + 817) = some (.inl (1, 1, .inr (.inl f'))) := by
    intro k h' f' I' ha' hk hm
    obtain ⟨r2, h2, e2, J, hj⟩ := r_out I'.2.1 x
    have ha2 : h2.1 (n + 817) = some (.inl (1, 1, .inr (.inl f'))) := (J.off.2 _ (Or.inr (by omega))).trans ha'
    have I2 := PI.right I'.1 I'.2.2 J
    refine ⟨r2, h2, e2, I'.2.1.ck, J.ck, ?_, hk, fun h0 => ?_, f', I2, ha2⟩
    · unfold zs_X11_thrown
      cases hx : ixI S.oN x with
      | some j =>
        rw [hx] at hj hm
        rw [hj.2, hm.1]
        rfl
      | none =>
        rw [hx] at hj hm
        have hm' : k = 1 := hm
        have hj' : gI h2 (n + 171) 11 0 = some 1 := hj
        rw [hj', hm']
        rfl
    · cases hx : ixI S.oN x with
      | some j =>
        rw [hx] at hj hm
        rw [show aJ h2 (n + 817) 1 0 = some (f' 0) from aJ_go (i := 0) ha2 (by decide) (by decide), hm.2, hj.1]
      | none =>
        rw [hx] at hm
        have hm' : k = 1 := hm
        rw [hm'] at h0
        exact absurd h0 (by decide)
  have uq : ∀ r, zs_X9_out h n x = some r → zt_X9_out h n x → False := by
    intro r h1 h2
    unfold zs_X9_out at h1
    rcases h2 with h2 | ⟨h2, t, y, a1, a2, a3⟩
    · rw [if_pos h2] at h1
      cases h1
    · rw [if_neg h2, a1] at h1
      simp only [Option.bind_some] at h1
      rw [a2] at h1
      simp only [Option.bind_some] at h1
      rw [if_neg a3] at h1
      cases h1
  refine ⟨?_, fun k h' hP => ?_⟩
  · cases hx : ixI S.oN x with
    | some j =>
      rw [hx] at hc
      exact Or.inl ⟨_, _, hc, hJ _⟩
    | none =>
      rw [hx] at hc
      exact Or.inr hc
  · rcases hP with ⟨rfl, r, h1, h2⟩ | ⟨rfl, h1, q, -, rfl⟩
    · rw [hJ] at h2
      obtain rfl := Option.some.inj h2
      refine key 0 _ _ (I.mv (fun a h3 => hset_ne (by omega))) (hset_at _ _ _) (Or.inl rfl) ?_
      cases hx : ixI S.oN x with
      | some j =>
        rw [hx] at hc
        have hc' : zs_X9_out h n x = some (nI (S.oB j)) := hc
        obtain rfl := Option.some.inj (h1.symm.trans hc')
        exact ⟨rfl, if_pos rfl⟩
      | none =>
        rw [hx] at hc
        exact (uq r h1 hc).elim
    · refine key 1 (h.1, q) f (I.mv (fun a h3 => rfl)) ha (Or.inr rfl) ?_
      cases hx : ixI S.oN x with
      | some j =>
        rw [hx] at hc
        have hc' : zs_X9_out h n x = some (nI (S.oB j)) := hc
        exact (uq _ hc' h1).elim
      | none => exact rfl
theorem wsLo_in : GoodIn bg (va_wsS RL 40 yL_out wsLo) := bg_in (fun w hw => by
  simp only [va_wsS, wsLo, List.mem_append, List.mem_cons, List.not_mem_nil, or_false] at hw
  rcases hw with (rfl | rfl | rfl) | rfl | hw
  · exact tw_771
  · first | exact tw_772 | exact tw_0
  · first | exact tw_0 | exact tw_772
  · exact tw_773
  · exact hw)
set_option maxRecDepth 100000 in
set_option maxHeartbeats 4000000 in
theorem law_c4 {p : Program} {l : Launch} (hst : l.stackTraces = false) {e : Env} {s : State} {m : MethodId} {below : List Frame} {meth : Method} {c : Code} {b L n sa : Nat} {xs : Nat → Int32} {i : Int32} {D : hG} {kc ks : Nat} (C0 : lw_At p s m meth c b L xs) (hk : hK D s) (hX0 : hX s.heap.size sa s s.heap) (v1 : vp_in (i + 1) L) (hcc : kc + 1 ≤ room_1.cells) (hss : ks + 6 ≤ room_1.slots) (nx : lawK p l e s m below meth c b D n i 1404 (kc + 1) (ks + 6)) : lawK p l e s m below meth c b D n i 376 kc ks := by
  obtain ⟨hx, hb, hrt, hml, hown0, hts0, hX, hbl, hlk, hgv⟩ := C0
  have hown : s.vm.findClass RL = some m.cls := hown0
  have hts : ∀ w ∈ bg, w.before #[Value.ref b] s = true := fun w hw => hts0 w (List.mem_filter.mp hw).1
  have hbA : ¬ hA s.heap.size b := Nat.not_le.mpr hbl
  have hz : s.heap.size ≤ s.heap.size := Nat.le_refl _
  intro h H locs ls hr hS hl0 hI
  obtain ⟨S, f, I, ha⟩ := hI
  have hl : lv_has ls 7 [(4, .int i), (3, .ref (n + 817)), (2, .ref (n + 171)), (1, .ref n), (0, .ref b)] := hl0
  obtain ⟨hcase, hall⟩ := outs I ha (xs (i + (1 : Int32)).toNatClampNeg)
  refine lv_aload_n hx hb dL_law_376 rfl (lv_at hl 3 rfl) ?_
  refine lv_aload_n hx hb dL_law_377 rfl (lv_at hl 4 rfl) ?_
  refine lv_iload hx hb dL_law_378 (lv_at hl 0 rfl) ?_
  refine lv_iconst (v := 1) hx hb dL_law_380 (by decide) ?_
  refine lv_iadd hx hb dL_law_381 ?_
  refine va_sld hx hb hX hbl hbA hS v1 dL_law_382 ?_
  refine lv_aload_n hx hb dL_law_383 rfl (lv_at hl 1 rfl) ?_
  have hXH := hX0.kept hS.2.1
  refine hv_callE (vx_runSW (As := [.ref n, .int (xs (i + (1 : Int32)).toNatClampNeg), .ref (n + 817)]) (rest := []) ⟨hx, hb, hml, hown, hts⟩ (zm_L_out l hst D s.heap.size sa (u := ()) I.1.ck hcase) (vx_cwSW 3 hts wsLo_in rfl rfl rfl (by decide +kernel) (by decide)) ⟨hBX_blind, fun U hU hW => ⟨rfl, hBX_at hk hr (Nat.le_trans hz hS.1) hXH hU hW⟩⟩ rfl rfl hl.1 rfl (by show 2 * 0 + 0 ≤ 8; decide) dL_law_384 ⟨hcc, hss⟩) hS (fun k h' H locs hP hr hS => ?_)
  obtain ⟨r2, h2, e2, k1, k2, e3, hk01, hJ, f', I2, ha2⟩ := hall k h' hP
  refine lv_istore (lv' := [(5, .int k), (4, .int i), (3, .ref (n + 817)), (2, .ref (n + 171)), (1, .ref n), (0, .ref b)]) hx hb dL_law_387 hl (by decide) rfl (fun ls hl => ?_)
  refine lv_aload_n hx hb dL_law_389 rfl (lv_at hl 3 rfl) ?_
  refine lv_aload_n hx hb dL_law_390 rfl (lv_at hl 5 rfl) ?_
  refine lv_iload hx hb dL_law_391 (lv_at hl 1 rfl) ?_
  refine lv_iconst (v := 1) hx hb dL_law_393 (by decide) ?_
  refine lv_iadd hx hb dL_law_394 ?_
  refine va_sld hx hb hX hbl hbA hS v1 dL_law_395 ?_
  refine hv_V1 (n := 1) [.int (xs (i + (1 : Int32)).toNatClampNeg)] [] hx hb hml hown hts hk hr hz hS (zm_X11_out l D s.heap.size e2) k1 rfl tw_1061 tw_1062 tw_1063 tw_11 tw_1064 (by decide +kernel) (by decide) ⟨hcc, hss⟩ rfl hl.1 (Nat.le_of_ble_eq_true rfl) dL_law_396 rfl (fun H locs hr hS => ?_)
  refine lv_istore (lv' := [(6, .int r2), (5, .int k), (4, .int i), (3, .ref (n + 817)), (2, .ref (n + 171)), (1, .ref n), (0, .ref b)]) hx hb dL_law_399 hl (by decide) rfl (fun ls hl => ?_)
  refine lv_aload_n hx hb dL_law_401 rfl (lv_at hl 4 rfl) ?_
  refine hv_V1 (n := 0) [] [] hx hb hml hown hts hk hr hz hS (zm_X11_thrown l D s.heap.size e3) k2 rfl tw_845 tw_846 tw_847 tw_11 tw_848 (by decide +kernel) (by decide) ⟨hcc, hss⟩ rfl hl.1 (Nat.le_of_ble_eq_true rfl) dL_law_402 rfl (fun H locs hr hS => ?_)
  refine lv_iload hx hb dL_law_405 (lv_at hl 1 rfl) ?_
  refine lv_icmp_eq (tgt := 412) hx hb dL_law_407 (by decide) (fun _ => ?_) (fun q => absurd rfl q)
  refine lv_iload hx hb dL_law_412 (lv_at hl 1 rfl) ?_
  have fin : ∀ (H : Heap) (locs : List Loc), hR D s.heap.size h2 H → va_S (hA s.heap.size) s.heap H locs → W p l e room_1 s m #[Value.ref b] below meth c H locs (kc + 1) (ks + 6) (lw_Z below #[Value.ref b] s) (F0 m 429 ls []) := fun H locs hr hS => by
    refine lv_goto (tgt := 1404) hx hb dL_law_429 (by decide) ?_
    exact nx h2 H locs ls hr hS (lv_sub hl [2, 3, 4, 5, 6] rfl) ⟨S, f', I2, ha2⟩
  refine lv_if_ne (tgt := 429) hx hb dL_law_414 (by decide) (fun q => ?_) (fun q => ?_)
  · exact fin H locs hr hS
  · refine lv_aload_n hx hb dL_law_417 rfl (lv_at hl 3 rfl) ?_
    refine lv_iconst (v := 0) hx hb dL_law_418 (by decide) ?_
    refine hv_aJ hx hb hk hr (hJ q) dL_law_419 ?_
    refine lv_iload hx hb dL_law_420 (lv_at hl 0 rfl) ?_
    refine lv_i2l hx hb dL_law_422 rfl ?_
    exact hv_lc_eq (tgt := 429) hx hb dL_law_423 dL_law_424 (by decide) (fun _ => fin H locs hr hS) (fun q => absurd rfl q)
