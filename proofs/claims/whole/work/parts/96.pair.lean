/-! the two objects side by side in one heap -/
section Pr
variable {B h h' h1 : AH} {n m : Nat} {S : AS}
theorem CI.mv (I : CI B n h S) (hk : ∀ a, n ≤ a → a < n + 171 → h'.1 a = h.1 a) : CI h' n h' S := by
  obtain ⟨d, M, ⟨⟨V, ⟨σ, ⟨w1, w2⟩, ok⟩, hV⟩, ob, ka, ⟨x1, ⟨F, x2⟩, ⟨G, x3⟩, x4⟩, m5, -, -⟩, ms⟩ := I
  refine ⟨d, M, ⟨⟨V, ⟨σ, ⟨fun o ho => ?_, w2⟩, ok⟩, hV⟩, fun o e he => ?_, ka, ⟨?_, ⟨F, ?_⟩, ⟨G, ?_⟩, x4⟩, m5, rfl, fun _ _ => rfl⟩, ms⟩
  · obtain ⟨i, hi, e⟩ := id ho
    have hb := (fw_all i hi).1
    have h2 := w1 o ho
    have e2 : o = n + fw i := e
    rw [hk o (by omega) (by omega), show qc o = o + 1 from rfl, hk (o + 1) (by omega) (by omega)]
    exact h2
  · have := (ct_all ka he).2.2.2
    rw [hk _ (by omega) (by omega)]
    exact ob o e he
  · exact (hk (n + 117) (by omega) (by omega)).trans x1
  · exact (hk (n + 124) (by omega) (by omega)).trans x2
  · exact (hk (n + 125) (by omega) (by omega)).trans x3
theorem CI.off (I : CI B n h S) : h.2 = B.2 ∧ ∀ a, a < n ∨ n + 171 ≤ a → h.1 a = B.1 a := by
  obtain ⟨d, M, c, -⟩ := I
  exact ⟨c.2.2.2.2.2.1, c.2.2.2.2.2.2⟩
theorem RI.mv (I : RI B n h S) (hk : ∀ a, n ≤ a → a < n + 646 → h'.1 a = h.1 a) : RI h' n h' S := by
  obtain ⟨d, M, ⟨σ, ⟨w1, w2, -, -⟩, ok⟩, ms⟩ := I
  refine ⟨d, M, ⟨σ, ⟨fun i hi => ?_, fun o e he => ?_, rfl, fun _ _ => rfl⟩, ok⟩, ms⟩
  · have := fx_at hi
    rw [hk _ (by unfold ar; omega) (by unfold ar; omega), hk _ (by unfold ar; omega) (by unfold ar; omega)]
    exact w1 i hi
  · have := crt_all he
    rw [hk _ (by omega) (by omega)]
    exact w2 o e he
theorem RI.off (I : RI B n h S) : h.2 = B.2 ∧ ∀ a, a < n ∨ n + 646 ≤ a → h.1 a = B.1 a := by
  obtain ⟨d, M, ⟨σ, c, -⟩, -⟩ := I
  exact ⟨c.2.2.1, c.2.2.2⟩
theorem CI.ck (I : CI B n h S) : chk h n 9 = some () := by
  obtain ⟨d, M, c, -⟩ := I
  exact chk_go (show h.1 n = _ from c.2.1 0 _ rfl)
theorem RI.ck (I : RI B n h S) : chk h n 11 = some () := by
  obtain ⟨d, M, c, -⟩ := I
  exact c.rm.1
/-- both objects hold S -/
def PI (n m : Nat) (h : AH) (S : AS) : Prop := CI h n h S ∧ RI h m h S ∧ n + 171 ≤ m
/-- nothing but the two objects has changed -/
def KP (n m : Nat) (h h' : AH) : Prop := h'.2 = h.2 ∧ ∀ a, a < n ∨ m + 646 ≤ a → h'.1 a = h.1 a
theorem PI.c (I : PI n m h S) : CI h n h S := I.1
theorem PI.left (I : PI n m h S) {S' : AS} (J : CI h n h1 S') : CI h1 n h1 S' ∧ RI h1 m h1 S ∧ n + 171 ≤ m := by
  have := I.2.2
  exact ⟨J.mv (fun _ _ _ => rfl), I.2.1.mv (fun a h1 h2 => J.off.2 a (Or.inr (by omega))), this⟩
theorem PI.right {S' : AS} (hc : CI h1 n h1 S') (hn : n + 171 ≤ m) (J : RI h1 m h' S') : PI n m h' S' :=
  ⟨hc.mv (fun a h1 h2 => J.off.2 a (Or.inl (by omega))), J.mv (fun _ _ _ => rfl), hn⟩
theorem KP.of {S' S'' : AS} (hn : n + 171 ≤ m) (J : CI h n h1 S') (J' : RI h1 m h' S'') : KP n m h h' :=
  ⟨J'.off.1.trans J.off.1, fun a ha => by
    rw [J'.off.2 a (by omega), J.off.2 a (by omega)]⟩
/-- a call that changes the state -/
theorem pairS {ρ : Type} {fx fm : AH → Option (ρ × AH)} {Sp : ρ → AS → Prop}
    (hx : ∀ {B h : AH}, CI B n h S → ∃ r h' S', fx h = some (r, h') ∧ CI B n h' S' ∧ Sp r S')
    (hm : ∀ {B h : AH}, RI B m h S → ∃ r h', fm h = some (r, h') ∧ ∃ S', RI B m h' S' ∧ Sp r S')
    (hu : ∀ {r r' S1 S2}, Sp r S1 → Sp r' S2 → r = r' ∧ S1 = S2) (I : PI n m h S) :
    ∃ r h1 h2 S', fx h = some (r, h1) ∧ fm h1 = some (r, h2) ∧ PI n m h2 S' ∧ KP n m h h2 ∧ chk h n 9 = some () ∧ chk h1 m 11 = some () := by
  obtain ⟨r, h1, S1, e1, c1, s1⟩ := hx I.1
  obtain ⟨k1, k2, k3⟩ := I.left c1
  obtain ⟨r2, h2, e2, S2, c2, s2⟩ := hm k2
  obtain ⟨rfl, rfl⟩ := hu s1 s2
  exact ⟨r, h1, h2, S1, e1, e2, PI.right k1 k3 c2, KP.of k3 c1 c2, I.1.ck, k2.ck⟩
/-- a question: the class's object stays as it is -/
theorem pairQ {ρ : Type} {fx : AH → Option ρ} {fm : AH → Option (ρ × AH)} {Sp : ρ → Prop}
    (hx : ∀ {B h : AH}, CI B n h S → ∃ r, fx h = some r ∧ Sp r)
    (hm : ∀ {B h : AH}, RI B m h S → ∃ r h', fm h = some (r, h') ∧ RI B m h' S ∧ Sp r)
    (hu : ∀ {r r'}, Sp r → Sp r' → r = r') (I : PI n m h S) :
    ∃ r h2, fx h = some r ∧ fm h = some (r, h2) ∧ PI n m h2 S ∧ KP n m h h2 ∧ chk h n 9 = some () ∧ chk h m 11 = some () := by
  obtain ⟨r, e1, s1⟩ := hx I.1
  obtain ⟨r2, h2, e2, c2, s2⟩ := hm I.2.1
  obtain rfl := hu s1 s2
  exact ⟨r, h2, e1, e2, PI.right I.1 I.2.2 c2, KP.of I.2.2 I.1 c2, I.1.ck, I.2.1.ck⟩
/-- a question: the class's object may change, its state not -/
theorem pairQ2 {ρ : Type} {fx fm : AH → Option (ρ × AH)} {Sp : ρ → Prop}
    (hx : ∀ {B h : AH}, CI B n h S → ∃ r h', fx h = some (r, h') ∧ CI B n h' S ∧ Sp r)
    (hm : ∀ {B h : AH}, RI B m h S → ∃ r h', fm h = some (r, h') ∧ RI B m h' S ∧ Sp r)
    (hu : ∀ {r r'}, Sp r → Sp r' → r = r') (I : PI n m h S) :
    ∃ r h1 h2, fx h = some (r, h1) ∧ fm h1 = some (r, h2) ∧ PI n m h2 S ∧ KP n m h h2 ∧ chk h n 9 = some () ∧ chk h1 m 11 = some () := by
  obtain ⟨r, h1, e1, c1, s1⟩ := hx I.1
  obtain ⟨k1, k2, k3⟩ := I.left c1
  obtain ⟨r2, h2, e2, c2, s2⟩ := hm k2
  obtain rfl := hu s1 s2
  exact ⟨r, h1, h2, e1, e2, PI.right k1 k3 c2, KP.of k3 c1 c2, I.1.ck, k2.ck⟩
end Pr
