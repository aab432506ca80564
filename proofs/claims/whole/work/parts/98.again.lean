/-! a row of references told anew beyond its length: the heap holds the one as it holds the other -/
theorem hR.re {D : hG} {z : Nat} {h : AH} {H : Heap} (hr : hR D z h H) {a k N : Nat} {f f' : Nat → Option Nat} (ha : h.1 a = some (.inl (k, N, .inr (.inr (.inr (.inr f)))))) (hf : ∀ i, i < N → f i = f' i) : hR D z (hset h a (.inl (k, N, .inr (.inr (.inr (.inr f')))))) H := by
  refine hr.set ha ?_ rfl (fun _ _ => rfl)
  have h1 : H[a]? = some (arrV (D.2 k) N (fun j => va_rf (f j))) := (hr.2 a _ ha).2
  have e : arrV (D.2 k) N (fun j => va_rf (f j)) = arrV (D.2 k) N (fun j => va_rf (f' j)) := by
    unfold arrV
    congr 2
    funext i
    show va_rf (f i.1) = va_rf (f' i.1)
    rw [hf i.1 i.2]
  show H[a]? = some (arrV (D.2 k) N (fun j => va_rf (f' j)))
  rw [h1, e]
theorem hset_ne {h : AH} {a b : Nat} {e : AE} (hb : b ≠ a) : (hset h a e).1 b = h.1 b := (on_hset _ _ _).2 _ hb
/-- both objects are made: the law's first state -/
theorem both_made (B : AH) : ∃ g1 g2 : AH, zs_X9_init (nO B (.inr (9, [.null, .null, .null, .null, .null, .null, .null, .null, .null, .null, .null, .null]))) B.2 = some g1 ∧ zs_X11_init (nO g1 (.inr (11, rfl0))) g1.2 = some g2 ∧ g1.2 = B.2 + 171 ∧ g2.2 = B.2 + 817 ∧ ∃ g3 : AH, (∀ (D : hG) (z : Nat) (H : Heap), hR D z g2 H → hR D z g3 H) ∧ PI B.2 (B.2 + 171) g3 S0 ∧ g3.2 = B.2 + 817 := by
  obtain ⟨g1, f1, f2, e1, s1, k1, r1, t1, r2, t2, c1⟩ := X9_made B
  obtain ⟨g2, q1, q10, q11, q12, q19, e2, s2, k2, ⟨w1, v1⟩, ⟨w10, v10⟩, ⟨w11, v11⟩, ⟨w12, v12⟩, ⟨w19, v19⟩, c2⟩ := X11_made g1
  rw [s1] at s2 k2 w1 v1 w10 v10 w11 v11 w12 v12 w19 v19 c2
  obtain ⟨n, hn⟩ : ∃ n, n = B.2 := ⟨_, rfl⟩
  rw [← hn] at s1 k1 r1 t1 r2 t2 c1 s2 k2 w1 v1 w10 v10 w11 v11 w12 v12 w19 v19 c2 ⊢
  refine ⟨g1, g2, by rw [hn]; exact e1, e2, s1, by omega, fixR (hset (hset g2 (n + 1) (E1 n)) (n + 50) (E2 n)) (n + 171), fun D z H hr => ?_, ⟨?_, ?_, Nat.le_refl _⟩, by show g2.2 = _; omega⟩
  · have y1 : g2.1 (n + 1) = some (.inl (3, 24, .inr (.inr (.inr (.inr f1))))) := (k2 _ (by omega)).trans r1
    have y2 : g2.1 (n + 50) = some (.inl (4, 12, .inr (.inr (.inr (.inr f2))))) := (k2 _ (by omega)).trans r2
    have a1 := hr.re (f' := fun s => some (aw n s)) y1 t1
    have a2 := a1.re (a := n + 50) (f := f2) (f' := fun r => some (n + (51 + 5 * r))) (by rw [hset_ne (by omega)]; exact y2) t2
    have a3 := a2.re (a := n + 171 + 1) (k := 5) (N := 64) (f := q1) (f' := fun s => some (ar (n + 171) s)) (by rw [hset_ne (by omega), hset_ne (by omega)]; exact w1) v1
    have a4 := a3.re (a := n + 171 + 10) (k := 5) (N := 24) (f := q10) (f' := fun s => some (ar (n + 171) (68 + s))) (by rw [hset_ne (by omega), hset_ne (by omega), hset_ne (by omega)]; exact w10) v10
    have a5 := a4.re (a := n + 171 + 11) (k := 5) (N := 12) (f := q11) (f' := fun s => some (ar (n + 171) (92 + s))) (by rw [hset_ne (by omega), hset_ne (by omega), hset_ne (by omega), hset_ne (by omega)]; exact w11) v11
    have a6 := a5.re (a := n + 171 + 12) (k := 5) (N := 12) (f := q12) (f' := fun s => some (ar (n + 171) (104 + s))) (by rw [hset_ne (by omega), hset_ne (by omega), hset_ne (by omega), hset_ne (by omega), hset_ne (by omega)]; exact w12) v12
    exact a6.re (a := n + 171 + 19) (k := 5) (N := 201) (f := q19) (f' := fun s => some (ar (n + 171) (116 + s))) (by rw [hset_ne (by omega), hset_ne (by omega), hset_ne (by omega), hset_ne (by omega), hset_ne (by omega), hset_ne (by omega)]; exact w19) v19
  · refine c1.mv (fun a h1 h2 => ?_)
    unfold fixR
    rw [hset_ne (by omega), hset_ne (by omega), hset_ne (by omega), hset_ne (by omega), hset_ne (by omega)]
    by_cases x1 : a = n + 50
    · subst x1
      rw [hset_at, hset_at]
    · rw [hset_ne x1, hset_ne x1]
      by_cases x2 : a = n + 1
      · subst x2
        rw [hset_at, hset_at]
      · rw [hset_ne x2, hset_ne x2]
        exact k2 a (by omega)
  · refine c2.mv (fun a h1 h2 => ?_)
    unfold fixR
    by_cases x1 : a = n + 171 + 19
    · subst x1
      rw [hset_at, hset_at]
    · rw [hset_ne x1, hset_ne x1]
      by_cases x2 : a = n + 171 + 12
      · subst x2
        rw [hset_at, hset_at]
      · rw [hset_ne x2, hset_ne x2]
        by_cases x3 : a = n + 171 + 11
        · subst x3
          rw [hset_at, hset_at]
        · rw [hset_ne x3, hset_ne x3]
          by_cases x4 : a = n + 171 + 10
          · subst x4
            rw [hset_at, hset_at]
          · rw [hset_ne x4, hset_ne x4]
            by_cases x5 : a = n + 171 + 1
            · subst x5
              rw [hset_at, hset_at]
            · rw [hset_ne x5, hset_ne x5, hset_ne (by omega), hset_ne (by omega)]
