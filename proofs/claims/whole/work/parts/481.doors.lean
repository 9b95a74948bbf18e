/-! PURE 20: through doors, doors opened and shut -/
theorem xorand_lt {s m k : Nat} (h : s < 2 ^ k) : s ^^^ (s &&& m) < 2 ^ k := Nat.xor_lt_two_pow h (Nat.lt_of_le_of_lt Nat.and_le_left h)
def hOp (A : aH) (d : Nat) : aH := hUs A 5 (hs A 5 ||| 2 ^ d)
def hSh (A : aH) (d : Nat) : aH := hUs A 5 (hs A 5 ^^^ (hs A 5 &&& 2 ^ d))
theorem PH.unshut {μ : dtM} {h : Nat} {A : aH} (H : PH μ h A) {d : Nat} (hd : d < hs A 1) : ∃ μ', f_X3_unshut h (Int32.ofNat d) μ = some μ' ∧ Fr (fun k _ => k = h) μ μ' ∧ PH μ' h (hOp A d) := by
  have hnd := H.nd
  refine ⟨_, ?_, Fr.SI rfl, H.setS (j := 5) (v := hs A 5 ||| 2 ^ d) (Or.inr ⟨rfl, z_lt2 H.op hd⟩)⟩
  simp only [f_X3_unshut, H.g5, o_bind, z_lit, z_bit (show d < 32 by omega), z_or, o_PI H.s0]
theorem PH.shutDoor {μ : dtM} {h : Nat} {A : aH} (H : PH μ h A) {d : Nat} (hd : d < hs A 1) : ∃ μ', f_X3_shutDoor h (Int32.ofNat d) μ = some μ' ∧ Fr (fun k _ => k = h) μ μ' ∧ PH μ' h (hSh A d) := by
  have hnd := H.nd
  refine ⟨_, ?_, Fr.SI rfl, H.setS (j := 5) (v := hs A 5 ^^^ (hs A 5 &&& 2 ^ d)) (Or.inr ⟨rfl, xorand_lt H.op⟩)⟩
  simp only [f_X3_shutDoor, H.g5, o_bind, z_lit, z_bit (show d < 32 by omega), z_andnot, o_PI H.s0]
def hGoR (A : aH) (p d : Nat) : Nat := if ht A 8 p = ht A 0 d then ht A 1 d else ht A 0 d
def hPs (A : aH) (p d : Nat) : aH := hUt A 8 p (hGoR A p d)
theorem hPs_W {A : aH} (W : hWF A) {p d : Nat} (hd : d < hs A 1) : hWF (hPs A p d) := by
  have x := W.2.1 d hd
  have hlt : hGoR A p d < hs A 0 := by
    unfold hGoR
    by_cases q : ht A 8 p = ht A 0 d
    · rw [if_pos q]; exact x.2.1
    · rw [if_neg q]; exact x.1
  refine ⟨W.1, fun d' hd' => ?_, fun w hw => ?_, fun p' hp' => ?_, W.2.2.2.2⟩
  · have y := W.2.1 d' hd'
    unfold hPs
    simp only [hUt_t, hUt_s]
    rw [if_neg (by omega), if_neg (by omega), if_neg (by omega)]
    exact y
  · have y := W.2.2.1 w hw
    unfold hPs
    have e3 : ht (hUt A 8 p (hGoR A p d)) 3 w = ht A 3 w := by rw [hUt_t, if_neg (by omega)]
    rw [e3]
    refine ⟨y.1, y.2.1, fun k hk => ?_⟩
    rw [hUt_t, if_neg (by omega)]
    exact y.2.2 k hk
  · have y := W.2.2.2.1 p' hp'
    unfold hPs
    have e9 : ∀ k, ¬ k = 8 → ht (hUt A 8 p (hGoR A p d)) k p' = ht A k p' := fun k hk => by rw [hUt_t, if_neg (fun x => hk x.1)]
    rw [e9 9 (by decide), e9 10 (by decide), e9 11 (by decide)]
    refine ⟨?_, y.2.1, y.2.2.1, y.2.2.2.1, fun k hk => ?_⟩
    · rw [hUt_t, hUt_s]
      by_cases e : p' = p
      · rw [if_pos ⟨rfl, e⟩]; exact hlt
      · rw [if_neg (fun x => e x.2)]; exact y.1
    · rw [e9 (12 + k) (by omega)]
      exact y.2.2.2.2 k hk
theorem PH.passThrough {μ : dtM} {h : Nat} {A : aH} (H : PH μ h A) {p d : Nat} (hp : p < hs A 3) (hd : d < hs A 1) : ∃ μ', f_X3_passThrough h (Int32.ofNat p) (Int32.ofNat d) μ = some μ' ∧ Fr (fun k _ => k = h + 8) μ μ' ∧ PH μ' h (hPs A p d) := by
  have hnr := H.nr
  have hnp := H.np
  have h8 := (H.pers hp).1
  have a7 := (H.door hd).1
  have S := H.setT (t := 8) (i := p) (v := hGoR A p d) (Or.inr (Or.inr (Or.inr (Or.inl ⟨by decide, hp⟩)))) (by decide) (hPs_W H.2.2 hd)
  refine ⟨_, ?_, Fr.SI rfl, S⟩
  simp only [f_X3_passThrough, f_X3_passThrough_35, H.r14, H.r9, H.r10, H.l8 hp, H.l0 hd, H.l1 hd, o_bind, z_eq (show ht A 8 p < 2147483648 by omega) (show ht A 0 d < 2147483648 by omega), o_SI H.s8 (show p < 5 by omega) (by decide)]
  unfold hGoR
  by_cases q : ht A 8 p = ht A 0 d
  · rw [if_pos q, if_pos q]; rfl
  · rw [if_neg q, if_neg q]; rfl
theorem MH.goes {μ : dtM} {A : aH} (H : MH μ 0 0 A) {p d : Nat} (hp : p < hs A 3) (hd : d < hs A 1) : ∃ μ', f_X12_goes 133 (Int32.ofNat p) (Int32.ofNat d) μ = some (bI (hAt A p d && (hs A 5).testBit d), μ') ∧ Fr P134 μ μ' ∧ MH μ' 0 0 (if (hAt A p d && (hs A 5).testBit d) = true then hPs A p d else A) := by
  have hnr := H.nr
  have hnd := H.nd
  have hnp := H.np
  have a7 := (H.door hd).1
  have b7 := (H.door hd).2.1
  have h8 := (H.pers hp).1
  have p0 := H.personOf (k := 0) (by decide) hp
  rw [show 8 + 0 = 8 from rfl] at p0
  by_cases q1 : hAt A p d = true
  · by_cases q2 : (hs A 5).testBit d = true
    · have S := H.setT (t := 8) (i := p) (v := hGoR A p d) (Or.inr (Or.inr (Or.inr (Or.inl ⟨by decide, hp⟩)))) (by decide) (hPs_W H.2.2 hd)
      have em : mIdx 8 p = 75 + 12 * p := by unfold mIdx; rw [if_neg (by omega), if_neg (by omega)]; omega
      rw [em] at S
      have eg : ht A 0 d + ht A 1 d - ht A 8 p = hGoR A p d := by
        unfold hAt at q1
        unfold hGoR
        by_cases x : ht A 8 p = ht A 0 d
        · rw [if_pos x, x]; omega
        · rw [if_neg x]
          have : ht A 8 p = ht A 1 d := by simpa [x] using q1
          omega
      have hle : ht A 8 p ≤ ht A 0 d + ht A 1 d := by
        unfold hAt at q1
        by_cases x : ht A 8 p = ht A 0 d
        · omega
        · have : ht A 8 p = ht A 1 d := by simpa [x] using q1
          omega
      rw [q1, q2]
      refine ⟨_, ?_, Fr.SI ⟨rfl, by omega⟩, S⟩
      simp only [f_X12_goes, f_X12_personRow, H.rv, H.r0, H.isBy hp hd, H.isOpen (show d < 32 by omega), q1, q2, o_bind, o_call, z_lit, b0, H.doorOf (t := 0) (by decide) hd, H.doorOf (t := 1) (by decide) hd, p0, z_mul, z_add, z_sub hle, eg, o_SI H.s (show 75 + 12 * p < 2656 by omega) (by decide), o_ret1']
      rw [if_neg (by decide), if_neg (by decide)]
      rfl
    · have q2' : (hs A 5).testBit d = false := by simpa using q2
      rw [q1, q2']
      refine ⟨μ, ?_, Fr.rf, H⟩
      simp only [f_X12_goes, f_X12_goes_17, H.rv, H.isBy hp hd, H.isOpen (show d < 32 by omega), q1, q2', o_bind, o_call, z_lit, b0, o_ret0']
      rw [if_neg (by decide), if_pos trivial]
      rfl
  · have q1' : hAt A p d = false := by simpa using q1
    rw [q1']
    refine ⟨μ, ?_, Fr.rf, H⟩
    simp only [f_X12_goes, f_X12_goes_17, H.rv, H.isBy hp hd, q1', o_bind, o_call, z_lit, b0, o_ret0']
    rw [if_pos trivial]
    rfl
