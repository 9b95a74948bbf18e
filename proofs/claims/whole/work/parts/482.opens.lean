/-! PURE 21: the model opens -/
theorem MH.opens {μ : dtM} {A : aH} (H : MH μ 0 0 A) {p d : Nat} (hp : p < hs A 3) (hd : d < hs A 1) : ∃ μ', f_X12_opens 133 (Int32.ofNat p) (Int32.ofNat d) μ = some (bI (hAt A p d && !(hs A 5).testBit d), μ') ∧ Fr P134 μ μ' ∧ MH μ' 0 0 (if (hAt A p d && !(hs A 5).testBit d) = true then hOp A d else A) := by
  have hnd := H.nd
  have g5 := H.g5
  cases q1 : hAt A p d
  · refine ⟨μ, ?_, Fr.rf, H⟩
    simp only [f_X12_opens, f_X12_opens_17, H.rv, H.isBy hp hd, q1, o_bind, o_call, z_lit, b0, o_ret0']
    rw [if_pos trivial]; rfl
  · cases q2 : (hs A 5).testBit d
    · refine ⟨_, ?_, Fr.SI ⟨rfl, by decide⟩, H.setS (j := 5) (v := hs A 5 ||| 2 ^ d) (Or.inr ⟨rfl, z_lt2 H.op hd⟩)⟩
      simp only [f_X12_opens, f_X12_opens_17, H.rv, H.r0, H.isBy hp hd, H.isOpen (show d < 32 by omega), q1, q2, o_bind, o_call, z_lit, b0, g5, z_bit (show d < 32 by omega), z_or, o_SI H.s (show 5 < 2656 by decide) (by decide), o_ret1']
      rw [if_neg (by decide), if_pos trivial]; rfl
    · refine ⟨μ, ?_, Fr.rf, H⟩
      simp only [f_X12_opens, f_X12_opens_17, H.rv, H.isBy hp hd, H.isOpen (show d < 32 by omega), q1, q2, o_bind, o_call, z_lit, b0, o_ret0']
      rw [if_neg (by decide), if_neg (by decide)]; rfl
