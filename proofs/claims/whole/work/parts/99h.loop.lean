/-! the law's loop and its start -/
theorem law_guard {L t : Nat} (hL : L ≤ 3072) (ht : t ≤ 512) (h : ¬ Int32.ofNat L - 6 < nI (6 * t)) : 6 * t + 6 ≤ L := by
  rcases Nat.lt_or_ge L 6 with h6 | h6
  · exfalso
    apply h
    have h0 : Int32.ofNat L - 6 < 0 := by
      rcases (show L = 0 ∨ L = 1 ∨ L = 2 ∨ L = 3 ∨ L = 4 ∨ L = 5 by omega) with rfl | rfl | rfl | rfl | rfl | rfl <;> decide
    exact Int32.lt_of_lt_of_le h0 (nI_pos' (by omega))
  · have e : Int32.ofNat L - 6 = nI (L - 6) := pk_sub (a := L) (b := 6) h6
    rw [e] at h
    rcases Nat.lt_or_ge (L - 6) (6 * t) with q | q
    · exact absurd (nI_lt q (by omega)) h
    · omega
theorem and31 (x : Int32) : ∃ j, j < 32 ∧ x &&& 31 = nI j := by
  have hj : x.toBitVec.toNat &&& 31 ≤ 31 := Nat.and_le_right
  refine ⟨x.toBitVec.toNat &&& 31, by omega, ?_⟩
  apply Int32.toBitVec_inj.mp
  apply BitVec.eq_of_toNat_eq
  show (x.toBitVec &&& 31#32).toNat = (BitVec.ofNat 32 (x.toBitVec.toNat &&& 31)).toNat
  rw [BitVec.toNat_and, BitVec.toNat_ofNat, BitVec.toNat_ofNat, Nat.mod_eq_of_lt (show x.toBitVec.toNat &&& 31 < 2 ^ 32 by omega)]
theorem lawK.widen {p : Program} {l : Launch} {e : Env} {s : State} {m : MethodId} {below : List Frame} {meth : Method} {c : Code} {b n : Nat} {i : Int32} {D : hG} {pc kc ks kc' ks' : Nat} (h1 : kc ≤ kc') (h2 : ks ≤ ks') (k : lawK p l e s m below meth c b D n i pc kc' ks') : lawK p l e s m below meth c b D n i pc kc ks := fun h H locs ls hr hS hl hI => W.widen (k := kc') (n := ks') h1 h2 (k h H locs ls hr hS hl hI)
set_option maxRecDepth 100000 in
set_option maxHeartbeats 4000000 in
theorem law_step {p : Program} {l : Launch} (hst : l.stackTraces = false) {e : Env} {s : State} {m : MethodId} {below : List Frame} {meth : Method} {c : Code} {b L n sa : Nat} {xs : Nat → Int32} {D : hG} {t kc ks : Nat} (hL : L ≤ 3072) (C0 : lw_At p s m meth c b L xs) (hk : hK D s) (hX0 : hX s.heap.size sa s s.heap) (ht : t ≤ 512) (hcc : kc + 1 ≤ 601024) (hss : ks + 6 ≤ 7293034) (rec : 6 * t + 6 ≤ L → lawK p l e s m below meth c b D n (nI (6 * (t + 1))) 23 (kc + 1) (ks + 6)) : lawK p l e s m below meth c b D n (nI (6 * t)) 23 kc ks := by
  obtain ⟨hx, hb, hrt, hml, hown0, hts0, hX, hbl, hlk, hgv⟩ := id C0
  have hbA : ¬ hA s.heap.size b := Nat.not_le.mpr hbl
  intro h H locs ls hr hS hl0 hI
  have hl : lv_has ls 7 [(4, .int (nI (6 * t))), (3, .ref (n + 817)), (2, .ref (n + 171)), (1, .ref n), (0, .ref b)] := hl0
  refine lv_iload hx hb dL_law_23 (lv_at hl 0 rfl) ?_
  refine lv_aload_n hx hb dL_law_25 rfl (lv_at hl 4 rfl) ?_
  refine va_slen hx hb hX hbl hbA hS dL_law_26 ?_
  refine lv_bipush (v := 6) hx hb dL_law_27 (by decide) ?_
  refine lv_isub hx hb dL_law_29 ?_
  refine lv_icmp_gt (tgt := 1410) hx hb dL_law_30 (by decide) (fun q => ?_) (fun q => ?_)
  · refine lv_iconst (v := 1) hx hb dL_law_1410 (by decide) ?_
    refine va_forget (fun q hq => hS.2.2 q hq) ?_
    refine W.widen (k := 601024) (n := 7293034) (by omega) (by omega) ?_
    exact lw_ret hx hb hrt hlk dL_law_1411
  · have hg := law_guard hL ht q
    have rc := rec hg
    have nx : lawK p l e s m below meth c b D n (nI (6 * t)) 1404 (kc + 1) (ks + 6) := by
      intro h H locs ls hr hS hl0 hI
      have hl : lv_has ls 7 [(4, .int (nI (6 * t))), (3, .ref (n + 817)), (2, .ref (n + 171)), (1, .ref n), (0, .ref b)] := hl0
      refine lv_iinc (v := nI (6 * t) + (6 : Int32)) (lv' := [(4, .int (nI (6 * t) + (6 : Int32))), (3, .ref (n + 817)), (2, .ref (n + 171)), (1, .ref n), (0, .ref b)]) hx hb dL_law_1404 hl (k := 0) rfl (ii_v _ (by decide)) (by decide) rfl (fun ls hl => ?_)
      have e6 : nI (6 * t) + (6 : Int32) = nI (6 * (t + 1)) := by
        rw [show 6 * (t + 1) = 6 * t + 6 by omega]
        exact nI_add (6 * t) 6
      rw [e6] at hl
      refine lv_goto (tgt := 23) hx hb dL_law_1407 (by decide) ?_
      exact rc h H locs ls hr hS hl hI
    have ny := lawK.widen (kc := kc) (ks := ks) (by omega) (by omega) nx
    have vk : ∀ k, k < 6 → vp_in (nI (6 * t) + nI k) L := fun k hk => by
      rw [nI_add]
      exact vp_in_nI (by omega) (by omega)
    have v0 : vp_in (nI (6 * t)) L := vp_in_nI (by omega) (by omega)
    have hc1 : kc ≤ room_1.cells := by show kc ≤ 601024; omega
    have hs1 : ks ≤ room_1.slots := by show ks ≤ 7293034; omega
    refine lv_aload_n hx hb dL_law_33 rfl (lv_at hl 4 rfl) ?_
    refine lv_iload hx hb dL_law_34 (lv_at hl 0 rfl) ?_
    refine va_sld hx hb hX hbl hbA hS v0 dL_law_36 ?_
    refine lv_bipush (v := 31) hx hb dL_law_37 (by decide) ?_
    refine lv_iand hx hb dL_law_39 ?_
    obtain ⟨j, hj, ej⟩ := and31 (xs (nI (6 * t)).toNatClampNeg)
    rw [ej]
    rcases (show j = 0 ∨ j = 1 ∨ j = 2 ∨ j = 3 ∨ j = 4 ∨ j = 5 ∨ j = 6 ∨ j = 7 ∨ j = 8 ∨ j = 9 ∨ j = 10 ∨ j = 11 ∨ j = 12 ∨ j = 13 ∨ j = 14 ∨ j = 15 ∨ j = 16 ∨ j = 17 ∨ j = 18 ∨ j = 19 ∨ j = 20 ∨ j = 21 ∨ j = 22 ∨ j = 23 ∨ j = 24 ∨ j = 25 ∨ j = 26 ∨ 27 ≤ j by omega) with rfl | rfl | rfl | rfl | rfl | rfl | rfl | rfl | rfl | rfl | rfl | rfl | rfl | rfl | rfl | rfl | rfl | rfl | rfl | rfl | rfl | rfl | rfl | rfl | rfl | rfl | rfl | hj27
    · exact lv_tableIn (off := 124) (tgt := 164) hx hb dL_law_40 (by decide) (by decide) (by decide) (by decide) (law_c0 C0 hk (vk 1 (by decide)) (vk 2 (by decide)) (vk 3 (by decide)) (vk 4 (by decide)) (vk 5 (by decide)) hc1 hs1 ny h H locs ls hr hS hl0 hI)
    · exact lv_tableIn (off := 193) (tgt := 233) hx hb dL_law_40 (by decide) (by decide) (by decide) (by decide) (law_c1 C0 hk (vk 1 (by decide)) (vk 2 (by decide)) (vk 3 (by decide)) (vk 4 (by decide)) (vk 5 (by decide)) hc1 hs1 ny h H locs ls hr hS hl0 hI)
    · exact lv_tableIn (off := 262) (tgt := 302) hx hb dL_law_40 (by decide) (by decide) (by decide) (by decide) (law_c2 C0 hk (vk 1 (by decide)) (vk 2 (by decide)) (vk 3 (by decide)) (vk 4 (by decide)) (vk 5 (by decide)) hc1 hs1 ny h H locs ls hr hS hl0 hI)
    · exact lv_tableIn (off := 299) (tgt := 339) hx hb dL_law_40 (by decide) (by decide) (by decide) (by decide) (law_c3 C0 hk (vk 1 (by decide)) (vk 2 (by decide)) (vk 3 (by decide)) (vk 4 (by decide)) (vk 5 (by decide)) hc1 hs1 ny h H locs ls hr hS hl0 hI)
    · exact lv_tableIn (off := 336) (tgt := 376) hx hb dL_law_40 (by decide) (by decide) (by decide) (by decide) (law_c4 hst C0 hk hX0 (vk 1 (by decide)) (by show kc + 1 ≤ 601024; omega) (by show ks + 6 ≤ 7293034; omega) nx h H locs ls hr hS hl0 hI)
    · exact lv_tableIn (off := 392) (tgt := 432) hx hb dL_law_40 (by decide) (by decide) (by decide) (by decide) (law_c5 C0 hk (vk 1 (by decide)) (vk 2 (by decide)) (vk 3 (by decide)) (vk 4 (by decide)) (vk 5 (by decide)) hc1 hs1 ny h H locs ls hr hS hl0 hI)
    · exact lv_tableIn (off := 418) (tgt := 458) hx hb dL_law_40 (by decide) (by decide) (by decide) (by decide) (law_c6 C0 hk (vk 1 (by decide)) (vk 2 (by decide)) (vk 3 (by decide)) (vk 4 (by decide)) (vk 5 (by decide)) hc1 hs1 ny h H locs ls hr hS hl0 hI)
    · exact lv_tableIn (off := 443) (tgt := 483) hx hb dL_law_40 (by decide) (by decide) (by decide) (by decide) (law_c7 C0 hk (vk 1 (by decide)) (vk 2 (by decide)) (vk 3 (by decide)) (vk 4 (by decide)) (vk 5 (by decide)) hc1 hs1 ny h H locs ls hr hS hl0 hI)
    · exact lv_tableIn (off := 481) (tgt := 521) hx hb dL_law_40 (by decide) (by decide) (by decide) (by decide) (law_c8 C0 hk (vk 1 (by decide)) (vk 2 (by decide)) (vk 3 (by decide)) (vk 4 (by decide)) (vk 5 (by decide)) hc1 hs1 ny h H locs ls hr hS hl0 hI)
    · exact lv_tableIn (off := 518) (tgt := 558) hx hb dL_law_40 (by decide) (by decide) (by decide) (by decide) (law_c9 C0 hk (vk 1 (by decide)) (vk 2 (by decide)) (vk 3 (by decide)) (vk 4 (by decide)) (vk 5 (by decide)) hc1 hs1 ny h H locs ls hr hS hl0 hI)
    · exact lv_tableIn (off := 579) (tgt := 619) hx hb dL_law_40 (by decide) (by decide) (by decide) (by decide) (law_c10 C0 hk (vk 1 (by decide)) (vk 2 (by decide)) (vk 3 (by decide)) (vk 4 (by decide)) (vk 5 (by decide)) hc1 hs1 ny h H locs ls hr hS hl0 hI)
    · exact lv_tableIn (off := 652) (tgt := 692) hx hb dL_law_40 (by decide) (by decide) (by decide) (by decide) (law_c11 C0 hk (vk 1 (by decide)) (vk 2 (by decide)) (vk 3 (by decide)) (vk 4 (by decide)) (vk 5 (by decide)) hc1 hs1 ny h H locs ls hr hS hl0 hI)
    · exact lv_tableIn (off := 701) (tgt := 741) hx hb dL_law_40 (by decide) (by decide) (by decide) (by decide) (law_c12 C0 hk (vk 1 (by decide)) (vk 2 (by decide)) (vk 3 (by decide)) (vk 4 (by decide)) (vk 5 (by decide)) hc1 hs1 ny h H locs ls hr hS hl0 hI)
    · exact lv_tableIn (off := 750) (tgt := 790) hx hb dL_law_40 (by decide) (by decide) (by decide) (by decide) (law_c13 C0 hk (vk 1 (by decide)) (vk 2 (by decide)) (vk 3 (by decide)) (vk 4 (by decide)) (vk 5 (by decide)) hc1 hs1 ny h H locs ls hr hS hl0 hI)
    · exact lv_tableIn (off := 799) (tgt := 839) hx hb dL_law_40 (by decide) (by decide) (by decide) (by decide) (law_c14 C0 hk (vk 1 (by decide)) (vk 2 (by decide)) (vk 3 (by decide)) (vk 4 (by decide)) (vk 5 (by decide)) hc1 hs1 ny h H locs ls hr hS hl0 hI)
    · exact lv_tableIn (off := 860) (tgt := 900) hx hb dL_law_40 (by decide) (by decide) (by decide) (by decide) (law_c15 C0 hk (vk 1 (by decide)) (vk 2 (by decide)) (vk 3 (by decide)) (vk 4 (by decide)) (vk 5 (by decide)) hc1 hs1 ny h H locs ls hr hS hl0 hI)
    · exact lv_tableIn (off := 909) (tgt := 949) hx hb dL_law_40 (by decide) (by decide) (by decide) (by decide) (law_c16 C0 hk (vk 1 (by decide)) (vk 2 (by decide)) (vk 3 (by decide)) (vk 4 (by decide)) (vk 5 (by decide)) hc1 hs1 ny h H locs ls hr hS hl0 hI)
    · exact lv_tableIn (off := 970) (tgt := 1010) hx hb dL_law_40 (by decide) (by decide) (by decide) (by decide) (law_c17 C0 hk (vk 1 (by decide)) (vk 2 (by decide)) (vk 3 (by decide)) (vk 4 (by decide)) (vk 5 (by decide)) hc1 hs1 ny h H locs ls hr hS hl0 hI)
    · exact lv_tableIn (off := 1019) (tgt := 1059) hx hb dL_law_40 (by decide) (by decide) (by decide) (by decide) (law_c18 C0 hk (vk 1 (by decide)) (vk 2 (by decide)) (vk 3 (by decide)) (vk 4 (by decide)) (vk 5 (by decide)) hc1 hs1 ny h H locs ls hr hS hl0 hI)
    · exact lv_tableIn (off := 1056) (tgt := 1096) hx hb dL_law_40 (by decide) (by decide) (by decide) (by decide) (law_c19 C0 hk (vk 1 (by decide)) (vk 2 (by decide)) (vk 3 (by decide)) (vk 4 (by decide)) (vk 5 (by decide)) hc1 hs1 ny h H locs ls hr hS hl0 hI)
    · exact lv_tableIn (off := 1081) (tgt := 1121) hx hb dL_law_40 (by decide) (by decide) (by decide) (by decide) (law_c20 C0 hk (vk 1 (by decide)) (vk 2 (by decide)) (vk 3 (by decide)) (vk 4 (by decide)) (vk 5 (by decide)) hc1 hs1 ny h H locs ls hr hS hl0 hI)
    · exact lv_tableIn (off := 1106) (tgt := 1146) hx hb dL_law_40 (by decide) (by decide) (by decide) (by decide) (law_c21 C0 hk (vk 1 (by decide)) (vk 2 (by decide)) (vk 3 (by decide)) (vk 4 (by decide)) (vk 5 (by decide)) hc1 hs1 ny h H locs ls hr hS hl0 hI)
    · exact lv_tableIn (off := 1155) (tgt := 1195) hx hb dL_law_40 (by decide) (by decide) (by decide) (by decide) (law_c22 C0 hk (vk 1 (by decide)) (vk 2 (by decide)) (vk 3 (by decide)) (vk 4 (by decide)) (vk 5 (by decide)) hc1 hs1 ny h H locs ls hr hS hl0 hI)
    · exact lv_tableIn (off := 1216) (tgt := 1256) hx hb dL_law_40 (by decide) (by decide) (by decide) (by decide) (law_c23 C0 hk (vk 1 (by decide)) (vk 2 (by decide)) (vk 3 (by decide)) (vk 4 (by decide)) (vk 5 (by decide)) hc1 hs1 ny h H locs ls hr hS hl0 hI)
    · exact lv_tableIn (off := 1253) (tgt := 1293) hx hb dL_law_40 (by decide) (by decide) (by decide) (by decide) (law_c24 C0 hk (vk 1 (by decide)) (vk 2 (by decide)) (vk 3 (by decide)) (vk 4 (by decide)) (vk 5 (by decide)) hc1 hs1 ny h H locs ls hr hS hl0 hI)
    · exact lv_tableIn (off := 1302) (tgt := 1342) hx hb dL_law_40 (by decide) (by decide) (by decide) (by decide) (law_c25 C0 hk (vk 1 (by decide)) (vk 2 (by decide)) (vk 3 (by decide)) (vk 4 (by decide)) (vk 5 (by decide)) hc1 hs1 ny h H locs ls hr hS hl0 hI)
    · exact lv_tableIn (off := 1339) (tgt := 1379) hx hb dL_law_40 (by decide) (by decide) (by decide) (by decide) (law_c26 C0 hk (vk 1 (by decide)) (vk 2 (by decide)) (vk 3 (by decide)) (vk 4 (by decide)) (vk 5 (by decide)) hc1 hs1 ny h H locs ls hr hS hl0 hI)
    · exact lv_tableOut (tgt := 1404) hx hb dL_law_40 (Or.inr (by rw [nI_toInt (by omega)]; omega)) (by decide) (ny h H locs ls hr hS hl0 hI)
theorem law_loop {p : Program} {l : Launch} (hst : l.stackTraces = false) {e : Env} {s : State} {m : MethodId} {below : List Frame} {meth : Method} {c : Code} {b L n sa : Nat} {xs : Nat → Int32} {D : hG} (hL : L ≤ 3072) (C0 : lw_At p s m meth c b L xs) (hk : hK D s) (hX0 : hX s.heap.size sa s s.heap) : ∀ (u t kc ks : Nat), L ≤ 6 * t + 6 * u + 5 → t ≤ 512 → kc ≤ 818 + t → ks ≤ 37161 + 6 * t → lawK p l e s m below meth c b D n (nI (6 * t)) 23 kc ks := by
  intro u
  induction u with
  | zero =>
    intro t kc ks h1 h2 h3 h4
    exact law_step hst hL C0 hk hX0 h2 (by omega) (by omega) (fun h => absurd h (by omega))
  | succ u ih =>
    intro t kc ks h1 h2 h3 h4
    exact law_step hst hL C0 hk hX0 h2 (by omega) (by omega) (fun h => ih (t + 1) (kc + 1) (ks + 6) (by omega) (by omega) (by omega) (by omega))
set_option maxRecDepth 100000 in
set_option maxHeartbeats 4000000 in
theorem whole_start {p : Program} {e : Env} {s : State} {m : MethodId} {below : List Frame} {meth : Method} {c : Code} (l : Launch) (hst : l.stackTraces = false) {b L : Nat} {xs : Nat → Int32} (hL : L ≤ 3072) (C0 : lw_At p s m meth c b L xs) : W p l e room_1 s m #[Value.ref b] below meth c s.heap [] 0 0 (lw_Z below #[Value.ref b] s) (entryFrame m ([Value.ref b] : List Value).toArray 7) := by
  obtain ⟨hx, hb, hrt, hml, hown0, hts0, hX, hbl, hlk, hgv⟩ := id C0
  have hown : s.vm.findClass RL = some m.cls := hown0
  have hts : ∀ w ∈ bg, w.before #[Value.ref b] s = true := fun w hw => hts0 w (List.mem_filter.mp hw).1
  have hz : s.heap.size ≤ s.heap.size := Nat.le_refl _
  obtain ⟨D, hk⟩ := law_K hts0
  obtain ⟨sa, hX0⟩ := law_X hts0 hgv
  obtain ⟨g1, g2, e1, e2, s1, s2, g3, hre, I, s3⟩ := both_made (fun _ => none, s.heap.size)
  replace s1 : g1.2 = s.heap.size + 171 := s1
  replace s3 : g3.2 = s.heap.size + 817 := s3
  replace I : PI s.heap.size (s.heap.size + 171) g3 S0 := I
  have hl0 := lv_entry ([.ref b] : List Value) (n := 7) (Nat.le_of_ble_eq_true rfl)
  rw [lg_entry_eq]
  generalize (lg_sl ([.ref b] : List Value) ++ List.replicate (7 - (lg_sl ([.ref b] : List Value)).length) Slot.unset).toArray = ls at hl0 ⊢
  have hl : lv_has ls 7 [(0, .ref b)] := hl0
  have hS : va_S (hA s.heap.size) s.heap s.heap [] := va_S.rf
  have hr : hR D s.heap.size (fun _ => none, s.heap.size) s.heap := ⟨rfl, fun a e he => nomatch he⟩
  refine hv_new (C := RX9) (T := TX9) (N := 12) (ci := 9) hx hb hts inX9 tyX9 tyX9_ok hown tw_21 tw_22 tw_1 hk hr hz hS rfl [.null, .null, .null, .null, .null, .null, .null, .null, .null, .null, .null, .null] (by decide +kernel) (by show _ ≤ (601024 : Nat); omega) (by show _ ≤ (7293034 : Nat); omega) dL_law_0 (fun H hr hS => ?_)
  refine lv_dup hx hb dL_law_3 rfl ?_
  refine hv_I0 (n := 0) [] [.ref s.heap.size] hx hb hml hown hts hk hr hz hS (zm_X9_init l D s.heap.size e1) tw_23 tw_24 tw_1 tw_25 rfl (by decide +kernel) (by decide) ⟨(by show _ ≤ (601024 : Nat); omega), (by show _ ≤ (7293034 : Nat); omega)⟩ rfl hl.1 (Nat.le_of_ble_eq_true rfl) dL_law_4 rfl (fun H locs hr hS => ?_)
  refine lv_astore_n (lv' := [(1, .ref s.heap.size), (0, .ref b)]) hx hb dL_law_7 rfl hl (by decide) rfl (fun ls hl => ?_)
  refine hv_new (C := RX11) (T := TX11) (N := 23) (ci := 11) hx hb hts inX11 tyX11 tyX11_ok hown tw_849 tw_850 tw_11 hk hr hz hS rfl [.int 0, .null, .int 0, .null, .null, .null, .null, .null, .null, .null, .null, .null, .null, .int 0, .null, .int 0, .null, .null, .null, .null, .null, .int 0, .int 0] (by decide +kernel) (by show _ ≤ (601024 : Nat); omega) (by show _ ≤ (7293034 : Nat); omega) dL_law_8 (fun H hr hS => ?_)
  refine lv_dup hx hb dL_law_11 rfl ?_
  refine hv_I0 (n := 0) [] [.ref g1.2] hx hb hml hown hts hk hr hz hS (zm_X11_init l D s.heap.size e2) tw_851 tw_852 tw_11 tw_853 rfl (by decide +kernel) (by decide) ⟨(by show _ ≤ (601024 : Nat); omega), (by show _ ≤ (7293034 : Nat); omega)⟩ rfl hl.1 (Nat.le_of_ble_eq_true rfl) dL_law_12 rfl (fun H locs hr hS => ?_)
  refine lv_astore_n (lv' := [(2, .ref g1.2), (1, .ref s.heap.size), (0, .ref b)]) hx hb dL_law_15 rfl hl (by decide) rfl (fun ls hl => ?_)
  replace hr := hre D _ H hr
  refine lv_iconst (v := 1) hx hb dL_law_16 (by decide) ?_
  refine hv_newa (at_ := .long) hx hb hts 1 rfl rfl tw_55 hk hr hz hS 1 (1, .inr (.inl (fun _ => 0))) (fun _ => rfl) (by decide) (by decide) (by decide) (by show _ ≤ (601024 : Nat); omega) (by show _ ≤ (7293034 : Nat); omega) dL_law_17 (fun H hr hS => ?_)
  refine lv_astore_n (lv' := [(3, .ref g3.2), (2, .ref g1.2), (1, .ref s.heap.size), (0, .ref b)]) hx hb dL_law_19 rfl hl (by decide) rfl (fun ls hl => ?_)
  refine lv_iconst (v := 0) hx hb dL_law_20 (by decide) ?_
  refine lv_istore (lv' := [(4, .int (0 : Int32)), (3, .ref g3.2), (2, .ref g1.2), (1, .ref s.heap.size), (0, .ref b)]) hx hb dL_law_21 hl (by decide) rfl (fun ls hl => ?_)
  refine W.widen (k := 818) (n := 37161) (by omega) (by omega) ?_
  rw [s1, s3] at hl
  refine law_loop hst hL C0 hk hX0 513 0 818 37161 (by omega) (by omega) (by omega) (by omega) _ H _ ls hr hS hl ⟨S0, fun _ => 0, I.mv (fun a ha => ?_), ?_⟩
  · exact nO_lt (by omega)
  · rw [← s3]
    exact nO_at g3 _
