/-! PURE 27: the model closes -/
theorem MH.g5i {μ : dtM} {A : aH} (H : MH μ 0 0 A) : opLI 1 μ 134 (Int32.ofNat 5) = some (Int32.ofNat (hs A 5)) := H.g5
/-- what a person's closing leaves -/
def hCl1 (A : aH) (p d s : Nat) : aH := if (hAt A p d && (hs A 5).testBit d) = true then hSn A d s (hSet A d s (Int32.ofNat p)) else A
theorem MH.closes {μ : dtM} {A : aH} (H : MH μ 0 0 A) (L : mLs μ) {p d s : Nat} (hp : p < hs A 3) (hs4 : s < 4) (hd : d < hs A 1) : ∃ μ', f_X12_closes 133 (Int32.ofNat p) (Int32.ofNat d) (Int32.ofNat s) μ = some (if (hAt A p d && (hs A 5).testBit d) = true then Int32.ofNat (hSet A d s (Int32.ofNat p)) else -Int32.ofNat 1, μ') ∧ Fr (fun k j => P134 k j ∨ k = 142) μ μ' ∧ MH μ' 0 0 (hCl1 A p d s) := by
  have hnd := H.nd
  unfold hCl1
  cases q1 : hAt A p d
  · refine ⟨μ, ?_, Fr.rf, H⟩
    simp only [f_X12_closes, f_X12_closes_17, H.rv, H.isBy hp hd, q1, o_bind, o_call, z_lit, b0]
    rw [if_pos trivial]; rfl
  · cases q2 : (hs A 5).testBit d
    · refine ⟨μ, ?_, Fr.rf, H⟩
      simp only [f_X12_closes, f_X12_closes_17, H.rv, H.isBy hp hd, H.isOpen (show d < 32 by omega), q1, q2, o_bind, o_call, z_lit, b0]
      rw [if_neg (by decide), if_pos trivial]; rfl
    · obtain ⟨μ1, e1, F1, H1⟩ := H.sounds L (mk := Int32.ofNat p) hs4 hd
      have h5 := H1.g5i
      simp only [f_X12_closes, f_X12_closes_47, H.rv, H.isBy hp hd, H.isOpen (show d < 32 by omega), q1, q2, o_bind, o_call, z_lit, b0, e1, z_le (show 3 < 2147483648 by decide) (show s < 2147483648 by omega), H1.r0, h5, z_bit (show d < 32 by omega), z_andnot, o_SI H1.s (show 5 < 2656 by decide) (by decide)]
      rw [if_neg (by decide), if_neg (by decide)]
      simp only [Bool.and_true, if_true, hSn]
      by_cases q3 : s = 3
      · rw [if_pos (by omega), if_pos q3]
        exact ⟨μ1, rfl, F1, H1⟩
      · rw [if_neg (by omega), if_neg q3]
        exact ⟨_, rfl, F1.tr (Fr.SI (Or.inl ⟨rfl, by decide⟩)), H1.setS (j := 5) (Or.inr ⟨rfl, xorand_lt H1.op⟩)⟩
