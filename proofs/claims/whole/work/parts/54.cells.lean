/-! the object's other cells change -/
def DS.setT (d : DS) (c : Int32) (b : Nat → Int32) : DS := ((c, b), d.2)
def DS.setX (d : DS) (c : Int32) (b : Nat → Int32) : DS := (d.1, (c, b), d.2.2)
def DS.setR (d : DS) (f g : Nat → Int64) : DS := (d.1, d.2.1, (f, g), d.2.2.2)
def DS.setE (d : DS) (a b : Int32) (ka fa : Nat) (ke fr : Nat → Int32) : DS := (d.1, d.2.1, d.2.2.1, (a, b), (ka, fa), (ke, fr))
theorem ite_r {c : Prop} [Decidable c] {x A A' : Option AE} (h : A = A') : (if c then x else A) = (if c then x else A') := by rw [h]
section Cel
variable {B h h' : AH} {n : Nat} {d d' : DS} {M : Nat → Int} {k : Nat}
theorem CW.on (c : CW B n d h M) {o : Nat} {e0 : AE} (h0 : ct n d o = some e0) (O : On (n + o) h h') (hv : ∀ e, ct n d' o = some e → h'.1 (n + o) = some e) (hd : ∀ o', o' ≠ o → ct n d' o' = ct n d o') (hk : kaOk d') : CW B n d' h' M := by
  have h1 := ct_all c.ko h0
  obtain ⟨V, ⟨σ, H, hσ⟩, hV⟩ := c.ws
  have hoff := nw_off H (c.ob o e0 h0) h1.1
  refine ⟨⟨V, ⟨σ, H.off hoff O, hσ⟩, hV⟩, ?_, hk, ?_, c.o1, O.1.trans c.bz, ?_⟩
  · intro o' e' he
    by_cases ho : o' = o
    · subst ho; exact hv e' he
    · rw [O.2 (n + o') (by omega)]
      exact c.ob o' e' (by rw [← hd o' ho]; exact he)
  · obtain ⟨x1, ⟨F, x2⟩, ⟨G, x3⟩, x4⟩ := c.dx
    by_cases h17 : o = 117
    · subst h17
      have h5 : ct n d' 117 = some (.inr (0, [.ref (aw n 49), .ref (aw n 50), .ref (aw n 51), .ref (n + 124), .ref (n + 125)])) := rfl
      exact ⟨hv _ h5, ⟨F, x2.off O (by omega)⟩, ⟨G, x3.off O (by omega)⟩, x4⟩
    · exact ⟨x1.off O (by omega), ⟨F, x2.off O (by omega)⟩, ⟨G, x3.off O (by omega)⟩, x4⟩
  · intro a ha
    rw [O.2 a (by omega)]
    exact c.bg a ha
theorem on_hset (h : AH) (a : Nat) (e : AE) : On a h (hset h a e) := ⟨rfl, fun x hx => by
  show (if x = a then some e else h.1 x) = h.1 x
  rw [if_neg hx]⟩
theorem hset_at (h : AH) (a : Nat) (e : AE) : (hset h a e).1 a = some e := by
  show (if a = a then some e else h.1 a) = some e
  rw [if_pos rfl]
theorem pV_go {h : AH} {a ci k : Nat} {fs : List Value} (ha : h.1 a = some (.inr (ci, fs))) (hk : k < fs.length) (v : Value) : pV h a ci k v = some (hset h a (.inr (ci, fs.set k v))) := by
  unfold pV
  rw [ha]
  show (if ci = ci ∧ k < fs.length then _ else none) = _
  rw [if_pos ⟨rfl, hk⟩]
theorem sI_go {h : AH} {a kd N : Nat} {f : Nat → Int32} (ha : h.1 a = some (.inl (kd, N, .inl f))) {i : Nat} (hi : i < N) (hN : N < 1000) (x : Int32) : sI h a kd (nI i) x = some (hset h a (.inl (kd, N, .inl (upd f i x)))) := by
  show (match h.1 a with | some (.inl (k, n, .inl f)) => if k = kd ∧ 0 ≤ (nI i).toInt ∧ (nI i).toInt < n then some (hset h a (.inl (kd, n, .inl (upd f (nI i).toNatClampNeg x)))) else none | _ => none) = _
  rw [ha]
  have := nI_rg hi (by omega)
  simp only [nI_clamp (show i < 2 ^ 31 by omega)]
  rw [if_pos ⟨trivial, this.1, this.2⟩]
theorem aI_go {h : AH} {a kd N : Nat} {f : Nat → Int32} (ha : h.1 a = some (.inl (kd, N, .inl f))) {i : Nat} (hi : i < N) (hN : N < 1000) : aI h a kd (nI i) = some (f i) := by
  show (match h.1 a with | some (.inl (k, n, .inl f)) => if k = kd ∧ 0 ≤ (nI i).toInt ∧ (nI i).toInt < n then some (f (nI i).toNatClampNeg) else none | _ => none) = _
  rw [ha]
  have := nI_rg hi (by omega)
  simp only [nI_clamp (show i < 2 ^ 31 by omega)]
  rw [if_pos ⟨trivial, this.1, this.2⟩]
theorem sJ_go {h : AH} {a kd N : Nat} {f : Nat → Int64} (ha : h.1 a = some (.inl (kd, N, .inr (.inl f)))) {i : Nat} (hi : i < N) (hN : N < 1000) (x : Int64) : sJ h a kd (nI i) x = some (hset h a (.inl (kd, N, .inr (.inl (vp_updL f i x))))) := by
  show (match h.1 a with | some (.inl (k, n, .inr (.inl f))) => if k = kd ∧ 0 ≤ (nI i).toInt ∧ (nI i).toInt < n then some (hset h a (.inl (kd, n, .inr (.inl (vp_updL f (nI i).toNatClampNeg x))))) else none | _ => none) = _
  rw [ha]
  have := nI_rg hi (by omega)
  simp only [nI_clamp (show i < 2 ^ 31 by omega)]
  rw [if_pos ⟨trivial, this.1, this.2⟩]
theorem aJ_go {h : AH} {a kd N : Nat} {f : Nat → Int64} (ha : h.1 a = some (.inl (kd, N, .inr (.inl f)))) {i : Nat} (hi : i < N) (hN : N < 1000) : aJ h a kd (nI i) = some (f i) := by
  show (match h.1 a with | some (.inl (k, n, .inr (.inl f))) => if k = kd ∧ 0 ≤ (nI i).toInt ∧ (nI i).toInt < n then some (f (nI i).toNatClampNeg) else none | _ => none) = _
  rw [ha]
  have := nI_rg hi (by omega)
  simp only [nI_clamp (show i < 2 ^ 31 by omega)]
  rw [if_pos ⟨trivial, this.1, this.2⟩]
theorem CW.putTc (c : CW B n d h M) (v : Int32) : ∃ h', pV h (n + 111) 5 0 (.int v) = some h' ∧ CW B n (d.setT v d.tb) h' M := by
  refine ⟨_, pV_go (c.ob 111 _ rfl) (by decide : 0 < 2) _, c.on (o := 111) rfl (on_hset _ _ _) (fun e he => ?_) (fun o' ho => ?_) c.ko⟩
  · rw [hset_at]
    exact he
  · unfold ct
    iterate 3 apply ite_r
    rw [if_neg ho, if_neg ho]
    rfl
theorem CW.putTb (c : CW B n d h M) (hk : k < 120) (x : Int32) : ∃ h', sI h (n + 112) 0 (nI k) x = some h' ∧ CW B n (d.setT d.tc (upd d.tb k x)) h' M := by
  refine ⟨_, sI_go (c.ob 112 _ rfl) hk (by decide) _, c.on (o := 112) rfl (on_hset _ _ _) (fun e he => ?_) (fun o' ho => ?_) c.ko⟩
  · rw [hset_at]
    exact he
  · unfold ct
    iterate 4 apply ite_r
    rw [if_neg ho, if_neg ho]
    rfl
theorem CW.getTb (c : CW B n d h M) (hk : k < 120) : aI h (n + 112) 0 (nI k) = some (d.tb k) := aI_go (c.ob 112 _ rfl) hk (by decide)
theorem CW.putXc (c : CW B n d h M) (v : Int32) : ∃ h', pV h (n + 113) 6 0 (.int v) = some h' ∧ CW B n (d.setX v d.xb) h' M := by
  refine ⟨_, pV_go (c.ob 113 _ rfl) (by decide : 0 < 3) _, c.on (o := 113) rfl (on_hset _ _ _) (fun e he => ?_) (fun o' ho => ?_) c.ko⟩
  · rw [hset_at]
    exact he
  · unfold ct
    iterate 5 apply ite_r
    rw [if_neg ho, if_neg ho]
    rfl
theorem CW.putXb (c : CW B n d h M) (hk : k < 385) (x : Int32) : ∃ h', sI h (n + 114) 0 (nI k) x = some h' ∧ CW B n (d.setX d.xc (upd d.xb k x)) h' M := by
  refine ⟨_, sI_go (c.ob 114 _ rfl) hk (by decide) _, c.on (o := 114) rfl (on_hset _ _ _) (fun e he => ?_) (fun o' ho => ?_) c.ko⟩
  · rw [hset_at]
    exact he
  · unfold ct
    iterate 6 apply ite_r
    rw [if_neg ho, if_neg ho]
    rfl
theorem CW.getXb (c : CW B n d h M) (hk : k < 385) : aI h (n + 114) 0 (nI k) = some (d.xb k) := aI_go (c.ob 114 _ rfl) hk (by decide)
theorem CW.putR1 (c : CW B n d h M) (hk : k < 13) (x : Int64) : ∃ h', sJ h (n + 164) 1 (nI k) x = some h' ∧ CW B n (d.setR (vp_updL d.r1 k x) d.r2) h' M := by
  refine ⟨_, sJ_go (c.ob 164 _ rfl) hk (by decide) _, c.on (o := 164) rfl (on_hset _ _ _) (fun e he => ?_) (fun o' ho => ?_) c.ko⟩
  · rw [hset_at]
    exact he
  · unfold ct
    iterate 12 apply ite_r
    rw [if_neg ho, if_neg ho]
    rfl
theorem CW.getR1 (c : CW B n d h M) (hk : k < 13) : aJ h (n + 164) 1 (nI k) = some (d.r1 k) := aJ_go (c.ob 164 _ rfl) hk (by decide)
theorem CW.putR2 (c : CW B n d h M) (hk : k < 13) (x : Int64) : ∃ h', sJ h (n + 166) 1 (nI k) x = some h' ∧ CW B n (d.setR d.r1 (vp_updL d.r2 k x)) h' M := by
  refine ⟨_, sJ_go (c.ob 166 _ rfl) hk (by decide) _, c.on (o := 166) rfl (on_hset _ _ _) (fun e he => ?_) (fun o' ho => ?_) c.ko⟩
  · rw [hset_at]
    exact he
  · unfold ct
    iterate 14 apply ite_r
    rw [if_neg ho, if_neg ho]
    rfl
theorem CW.getR2 (c : CW B n d h M) (hk : k < 13) : aJ h (n + 166) 1 (nI k) = some (d.r2 k) := aJ_go (c.ob 166 _ rfl) hk (by decide)
theorem ct_ka (hk : kaOk d) : ct n d d.ka = some (.inl (0, 200, .inl d.ke)) := by
  unfold ct
  unfold kaOk at hk
  iterate 15 rw [if_neg (by omega)]
  rw [if_pos rfl]
theorem ct_fa (hk : kaOk d) : ct n d d.fa = some (.inl (0, 200, .inl d.fr)) := by
  unfold ct
  unfold kaOk at hk
  iterate 16 rw [if_neg (by omega)]
  rw [if_pos rfl]
theorem CW.putF (c : CW B n d h M) (hk : k < 200) (x : Int32) : ∃ h', sI h (n + d.fa) 0 (nI k) x = some h' ∧ CW B n (d.setE d.hd d.rd d.ka d.fa d.ke (upd d.fr k x)) h' M := by
  refine ⟨_, sI_go (c.ob d.fa _ (ct_fa c.ko)) hk (by decide) _, c.on (o := d.fa) (ct_fa c.ko) (on_hset _ _ _) (fun e he => ?_) (fun o' ho => ?_) c.ko⟩
  · rw [hset_at]
    rw [← he]
    exact (ct_fa (d := d.setE d.hd d.rd d.ka d.fa d.ke (upd d.fr k x)) c.ko).symm
  · unfold ct
    iterate 16 apply ite_r
    rw [if_neg ho]
    show (if o' = d.fa then _ else _) = _
    rw [if_neg ho]
theorem CW.getK (c : CW B n d h M) (hk : k < 200) : aI h (n + d.ka) 0 (nI k) = some (d.ke k) := aI_go (c.ob d.ka _ (ct_ka c.ko)) hk (by decide)
theorem CW.keepFresh (c : CW B n d h M) (a b : Int32) : ∃ h', zs_X1_keepFresh h (n + 154) a b = some h' ∧ CW B n (d.setE a b d.fa d.ka d.fr d.ke) h' M := by
  unfold zs_X1_keepFresh
  simp only [c.rd1, Option.bind_some]
  rw [pV_go (c.ob 154 _ rfl) (by decide : 2 < 8) _]
  simp only [Option.bind_some]
  rw [pV_go (hset_at _ _ _) (by decide : 3 < 8) _]
  simp only [Option.bind_some]
  rw [pV_go (hset_at _ _ _) (by decide : 0 < 8) _]
  simp only [Option.bind_some]
  rw [pV_go (hset_at _ _ _) (by decide : 1 < 8) _]
  simp only [Option.bind_some]
  have hko : kaOk (d.setE a b d.fa d.ka d.fr d.ke) := by
    have := c.ko
    unfold kaOk at this ⊢
    show (d.fa = 155 ∧ d.ka = 156) ∨ (d.fa = 156 ∧ d.ka = 155)
    omega
  refine ⟨_, rfl, c.on (o := 154) rfl (((on_hset _ _ _).tr (on_hset _ _ _)).tr ((on_hset _ _ _).tr (on_hset _ _ _))) (fun e he => ?_) (fun o' ho => ?_) hko⟩
  · rw [hset_at]
    exact he
  · by_cases h1 : o' = d.ka
    · subst h1
      rw [ct_ka c.ko]
      exact ct_fa hko
    · by_cases h2 : o' = d.fa
      · subst h2
        rw [ct_fa c.ko]
        exact ct_ka hko
      · unfold ct
        iterate 10 apply ite_r
        rw [if_neg ho, if_neg ho]
        iterate 4 apply ite_r
        show (if o' = d.fa then _ else if o' = d.ka then _ else _) = _
        rw [if_neg h2, if_neg h1, if_neg h1, if_neg h2]
end Cel
