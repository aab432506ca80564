/-! how many bits differ from the sign -/
def unW (a : Int) : Nat := if a < 0 then a.natAbs - 1 else a.natAbs
section Ons
variable {B h : AH} {n : Nat} {d : DS} {M : Nat → Int} {a : Int}
theorem bI_sg {a : Int} (xa : a.natAbs < B32 ^ 12) : ∀ j, 384 ≤ j → bI a j = decide (a < 0) := by
  intro j hj
  rw [B32_two] at xa
  exact bI_hi (K := 384) (by omega) (fun _ => xa) hj
theorem CW.unlikeSign (c : CW B n d h M) (xa : a.natAbs < B32 ^ 12) (h1 : RB d.r1 (bI a)) : zs_X7_unlikeSign h (n + 163) = some (nI (pcN 416 (unW a))) := by
  unfold zs_X7_unlikeSign
  simp only [c.rd7, Option.bind_some, c.isBelow h1 (bI_sg xa)]
  have key : ∀ sg : Int64, sg = (if a < 0 then 4294967295 else 0) → zj_X7_unlikeSign_14 h (n + 163) sg = some (nI (pcN 416 (unW a))) := by
    intro sg hsg
    unfold zj_X7_unlikeSign_14
    obtain ⟨r, hr, hv⟩ := iter_FU (B := fun q : Int32 × Int32 => zb_X7_unlikeSign_20 h (n + 163) sg q.1 q.2)
      (fun t z => z.2 = nI t ∧ z.1 = nI (pcN (32 * t) (unW a)))
      (fun r => r = nI (pcN 416 (unW a)))
      13 (by omega) (s := ((0 : Int32), (0 : Int32))) ⟨rfl, rfl⟩ (by
      rintro t ⟨w, z⟩ ht ⟨hz, hw⟩
      dsimp only at hz hw ⊢
      subst hz hw
      unfold zb_X7_unlikeSign_20
      by_cases h13 : t = 13
      · subst h13
        rw [if_pos (by decide)]
        refine ⟨_, rfl, fun s' hs => by (cases hs), fun r hr => ?_⟩
        obtain rfl := Sum.inr.inj hr
        rfl
      · rw [if_neg (show ¬ (12 : Int32) < nI t from nI_nlt (a := 12) (by omega) (by decide))]
        simp only [c.rd7, Option.bind_some, c.getR1 (show t < 13 by omega), lt_]
        have hx := h1.1 t (by omega)
        have hb := fun r hr => h1.2 t r (by omega) hr
        have hq : uN (d.r1 t ^^^ sg) < 2 ^ 32 ∧ ∀ r, r < 32 → (uN (d.r1 t ^^^ sg)).testBit r = (unW a).testBit (32 * t + r) := by
          unfold unW
          unfold bI at hb
          by_cases hn : a < 0
          · rw [if_pos hn] at hsg
            subst hsg
            rw [uN_xm hx, if_pos hn]
            unfold B32 at hx ⊢
            refine ⟨by omega, fun r hr => ?_⟩
            have := hb r hr
            rw [if_pos hn] at this
            rw [show 4294967296 - (uN (d.r1 t) + 1) = 2 ^ 32 - (uN (d.r1 t) + 1) from rfl, Nat.testBit_two_pow_sub_succ hx, decide_eq_true hr, this, Bool.true_and, Bool.not_not]
          · rw [if_neg hn] at hsg
            subst hsg
            rw [if_neg hn, uN_xorN, uN_0, Nat.xor_zero]
            refine ⟨hx, fun r hr => ?_⟩
            have := hb r hr
            rw [if_neg hn] at this
            exact this
        have e1 : d.r1 t ^^^ sg = lN (uN (d.r1 t ^^^ sg)) := (lN_uN _).symm
        rw [e1, bcJ h hq.1]
        simp only [Option.bind_some]
        refine ⟨_, rfl, fun s' hs' => ?_, fun r hr => by (cases hr)⟩
        obtain rfl := Sum.inl.inj hs'
        refine ⟨by omega, nI_1 t, ?_⟩
        dsimp only
        rw [nI_add, show 32 * (t + 1) = 32 * t + 32 by omega, pcN_add]
        congr 2
        exact pcN_congr (fun j hj => by rw [hq.2 j hj, Nat.testBit_div_two_pow, Nat.add_comm]))
    rw [hr]
    simp only [Option.bind_some]
    rw [hv]
  by_cases hn : a < 0
  · rw [decide_eq_true hn, if_pos rfl, if_neg (by decide)]
    exact key _ (by rw [if_pos hn])
  · rw [decide_eq_false hn, if_neg (by decide : ¬ (false = true)), if_pos rfl]
    exact key _ (by rw [if_neg hn])
end Ons
