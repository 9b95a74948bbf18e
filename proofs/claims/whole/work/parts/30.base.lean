/-! PURE 1: whole numbers as naturals -/
theorem z_lit (n : Nat) : (no_index (OfNat.ofNat n) : Int32) = Int32.ofNat (OfNat.ofNat n) := rfl
theorem z_le {a b : Nat} (ha : a < 2147483648) (hb : b < 2147483648) : (Int32.ofNat a ≤ Int32.ofNat b) = (a ≤ b) := propext (Int32.ofNat_le_iff_le ha hb)
theorem z_lt {a b : Nat} (ha : a < 2147483648) (hb : b < 2147483648) : (Int32.ofNat a < Int32.ofNat b) = (a < b) := propext (Int32.ofNat_lt_iff_lt ha hb)
theorem z_cl {a : Nat} (ha : a < 2147483648) : (Int32.ofNat a).toNatClampNeg = a := Int32.toNatClampNeg_ofNat_of_lt ha
theorem z_inj {a b : Nat} (ha : a < 2147483648) (hb : b < 2147483648) (h : Int32.ofNat a = Int32.ofNat b) : a = b := by
  rw [← z_cl ha, ← z_cl hb, h]
theorem z_eq {a b : Nat} (ha : a < 2147483648) (hb : b < 2147483648) : (Int32.ofNat a = Int32.ofNat b) = (a = b) := propext ⟨z_inj ha hb, fun h => by rw [h]⟩
theorem z_add (a b : Nat) : Int32.ofNat a + Int32.ofNat b = Int32.ofNat (a + b) := (Int32.ofNat_add a b).symm
theorem z_sub {a b : Nat} (h : b ≤ a) : Int32.ofNat a - Int32.ofNat b = Int32.ofNat (a - b) := (Int32.ofNat_sub a b h).symm
theorem z_mul (a b : Nat) : Int32.ofNat a * Int32.ofNat b = Int32.ofNat (a * b) := (Int32.ofNat_mul a b).symm
theorem z_bv (a : Nat) : (Int32.ofNat a).toBitVec = BitVec.ofNat 32 a := rfl
theorem z_or (a b : Nat) : Int32.ofNat a ||| Int32.ofNat b = Int32.ofNat (a ||| b) := by
  apply Int32.toBitVec_inj.mp
  show BitVec.ofNat 32 a ||| BitVec.ofNat 32 b = BitVec.ofNat 32 (a ||| b)
  exact BitVec.ofNat_or.symm
theorem z_and (a b : Nat) : Int32.ofNat a &&& Int32.ofNat b = Int32.ofNat (a &&& b) := by
  apply Int32.toBitVec_inj.mp
  show BitVec.ofNat 32 a &&& BitVec.ofNat 32 b = BitVec.ofNat 32 (a &&& b)
  exact BitVec.ofNat_and.symm
theorem z_xor (a b : Nat) : Int32.ofNat a ^^^ Int32.ofNat b = Int32.ofNat (a ^^^ b) := by
  apply Int32.toBitVec_inj.mp
  show BitVec.ofNat 32 a ^^^ BitVec.ofNat 32 b = BitVec.ofNat 32 (a ^^^ b)
  exact BitVec.ofNat_xor.symm
theorem z_31 {d : Nat} (h : d < 32) : Int32.ofNat d &&& Int32.ofNat 31 = Int32.ofNat d := by
  rw [z_and, show (31 : Nat) = 2 ^ 5 - 1 from rfl, Nat.and_two_pow_sub_one_eq_mod, Nat.mod_eq_of_lt h]
theorem z_smod {d : Nat} (h : d < 32) : (BitVec.ofNat 32 d).smod 32#32 = BitVec.ofNat 32 d := by
  have : ∀ d, d < 32 → (BitVec.ofNat 32 d).smod 32#32 = BitVec.ofNat 32 d := by decide
  exact this d h
theorem z_shl {a d : Nat} (hd : d < 32) : Int32.ofNat a <<< Int32.ofNat d = Int32.ofNat (a * 2 ^ d) := by
  apply Int32.toBitVec_inj.mp
  show BitVec.ofNat 32 a <<< (BitVec.ofNat 32 d).smod 32#32 = BitVec.ofNat 32 (a * 2 ^ d)
  rw [z_smod hd]
  apply BitVec.eq_of_toNat_eq
  rw [BitVec.shiftLeft_eq', BitVec.toNat_shiftLeft, BitVec.toNat_ofNat, BitVec.toNat_ofNat, BitVec.toNat_ofNat, Nat.mod_eq_of_lt (a := d) (by omega), Nat.shiftLeft_eq]
  rw [Nat.mod_mul_mod]
theorem z_shr {a d : Nat} (ha : a < 2147483648) (hd : d < 32) : Int32.ofNat a >>> Int32.ofNat d = Int32.ofNat (a / 2 ^ d) := by
  apply Int32.toBitVec_inj.mp
  show (BitVec.ofNat 32 a).sshiftRight' ((BitVec.ofNat 32 d).smod 32#32) = BitVec.ofNat 32 (a / 2 ^ d)
  rw [z_smod hd]
  have hm : (BitVec.ofNat 32 a).msb = false := by
    rw [BitVec.msb_eq_decide, BitVec.toNat_ofNat, Nat.mod_eq_of_lt (by omega)]
    simpa using ha
  show (BitVec.ofNat 32 a).sshiftRight (BitVec.ofNat 32 d).toNat = _
  rw [BitVec.sshiftRight_eq_of_msb_false hm]
  apply BitVec.eq_of_toNat_eq
  rw [BitVec.toNat_ushiftRight, BitVec.toNat_ofNat, BitVec.toNat_ofNat, BitVec.toNat_ofNat, Nat.mod_eq_of_lt (a := d) (by omega), Nat.mod_eq_of_lt (a := a) (by omega), Nat.shiftRight_eq_div_pow, Nat.mod_eq_of_lt]
  exact Nat.lt_of_le_of_lt (Nat.div_le_self _ _) (by omega)
theorem z_one {a : Nat} : (Int32.ofNat (a % 2) = Int32.ofNat 1) = (a % 2 = 1) := z_eq (by omega) (by omega)
theorem z_and1 (a : Nat) : Int32.ofNat a &&& Int32.ofNat 1 = Int32.ofNat (a % 2) := by rw [z_and, Nat.and_one_is_mod]
/-- is the member in the set -/
theorem z_in {s d : Nat} (hs : s < 2147483648) (hd : d < 32) : ((Int32.ofNat s >>> (Int32.ofNat d &&& Int32.ofNat 31)) &&& Int32.ofNat 1 = Int32.ofNat 1) = (s.testBit d = true) := by
  rw [z_31 hd, z_shr hs hd, z_and1, z_one, Nat.testBit_eq_decide_div_mod_eq, decide_eq_true_iff]
theorem z_bit {d : Nat} (hd : d < 32) : Int32.ofNat 1 <<< (Int32.ofNat d &&& Int32.ofNat 31) = Int32.ofNat (2 ^ d) := by
  rw [z_31 hd, z_shl hd, Nat.one_mul]
theorem z_andnot (s m : Nat) : Int32.ofNat s &&& (Int32.ofNat m ^^^ (-Int32.ofNat 1)) = Int32.ofNat (s ^^^ (s &&& m)) := by
  rw [← z_xor, ← z_and]
  apply Int32.toBitVec_inj.mp
  show BitVec.ofNat 32 s &&& (BitVec.ofNat 32 m ^^^ (-BitVec.ofNat 32 1)) = BitVec.ofNat 32 s ^^^ (BitVec.ofNat 32 s &&& BitVec.ofNat 32 m)
  rw [show -BitVec.ofNat 32 1 = BitVec.allOnes 32 by decide]
  apply BitVec.eq_of_getLsbD_eq
  intro i hi
  simp only [BitVec.getLsbD_and, BitVec.getLsbD_xor, BitVec.getLsbD_allOnes, hi, decide_true]
  cases (BitVec.ofNat 32 s).getLsbD i <;> cases (BitVec.ofNat 32 m).getLsbD i <;> rfl
theorem z_neg {a : Nat} (ha : a < 2147483648) : (Int32.ofNat a = -Int32.ofNat 1) = False := by
  apply propext
  refine ⟨fun h => ?_, fun h => h.elim⟩
  have := congrArg Int32.toInt h
  rw [Int32.toInt_ofNat_of_lt ha, show (-Int32.ofNat 1).toInt = -1 by decide] at this
  omega
theorem z_neg' {a : Nat} (ha : a < 2147483648) : (-Int32.ofNat 1 = Int32.ofNat a) = False := by
  rw [← z_neg ha]; exact propext ⟨Eq.symm, Eq.symm⟩
theorem z_cases (x : Int32) : x < Int32.ofNat 0 ∨ ∃ n, n < 2147483648 ∧ x = Int32.ofNat n := by
  by_cases h : x < 0
  · exact Or.inl h
  · right
    have h0 : 0 ≤ x := Int32.not_lt.mp h
    exact ⟨x.toNatClampNeg, Int32.toNatClampNeg_lt x, (Int32.ofNat_toNatClampNeg x h0).symm⟩
theorem z_small {a b : Nat} (ha : a < 2147483648) : (Int32.ofNat a < -Int32.ofNat b) = False ∨ b = 0 ∨ 2147483648 < b := by
  rcases Nat.eq_zero_or_pos b with h | h
  · exact Or.inr (Or.inl h)
  · by_cases h2 : 2147483648 < b
    · exact Or.inr (Or.inr h2)
    · left
      apply propext
      refine ⟨fun q => ?_, fun q => q.elim⟩
      have q := Int32.lt_iff_toInt_lt.mp q
      rw [Int32.toInt_ofNat_of_lt ha, Int32.neg_ofNat, Int32.toInt_ofInt_of_le (by omega) (by omega)] at q
      omega
/-! sums and sets -/
theorem z_lt2 {a d k : Nat} (ha : a < 2 ^ k) (hd : d < k) : a ||| 2 ^ d < 2 ^ k := Nat.or_lt_two_pow ha (Nat.pow_lt_pow_right (by decide) hd)
/-! the memory's projections -/
theorem m_S_SI {μ : dtM} {k j : Nat} {v : Int32} : dtS (dtSI μ k j v) = dtS μ := rfl
theorem m_S_SJ {μ : dtM} {k j : Nat} {v : Int64} : dtS (dtSJ μ k j v) = dtS μ := rfl
theorem m_S_SR {μ : dtM} {k j : Nat} {v : Option Nat} : dtS (dtSR μ k j v) = dtS μ := rfl
theorem m_S_RI {μ : dtM} {k : Nat} {g : Nat → Int32} : dtS (dtRI μ k g) = dtS μ := rfl
theorem m_S_RJ {μ : dtM} {k : Nat} {g : Nat → Int64} : dtS (dtRJ μ k g) = dtS μ := rfl
theorem m_R_SI {μ : dtM} {k j : Nat} {v : Int32} : dtR (dtSI μ k j v) = dtR μ := rfl
theorem m_R_SJ {μ : dtM} {k j : Nat} {v : Int64} : dtR (dtSJ μ k j v) = dtR μ := rfl
theorem m_R_RI {μ : dtM} {k : Nat} {g : Nat → Int32} : dtR (dtRI μ k g) = dtR μ := rfl
theorem m_R_RJ {μ : dtM} {k : Nat} {g : Nat → Int64} : dtR (dtRJ μ k g) = dtR μ := rfl
theorem m_N_SI {μ : dtM} {k j : Nat} {v : Int32} : dtN (dtSI μ k j v) = dtN μ := rfl
theorem m_N_SJ {μ : dtM} {k j : Nat} {v : Int64} : dtN (dtSJ μ k j v) = dtN μ := rfl
theorem m_N_SR {μ : dtM} {k j : Nat} {v : Option Nat} : dtN (dtSR μ k j v) = dtN μ := rfl
theorem m_Z_SI {μ : dtM} {k j : Nat} {v : Int32} : dtZ (dtSI μ k j v) = dtZ μ := rfl
theorem m_Z_SJ {μ : dtM} {k j : Nat} {v : Int64} : dtZ (dtSJ μ k j v) = dtZ μ := rfl
theorem m_Z_SR {μ : dtM} {k j : Nat} {v : Option Nat} : dtZ (dtSR μ k j v) = dtZ μ := rfl
theorem m_J_SI {μ : dtM} {k j : Nat} {v : Int32} : dtJ (dtSI μ k j v) = dtJ μ := rfl
theorem m_J_SR {μ : dtM} {k j : Nat} {v : Option Nat} : dtJ (dtSR μ k j v) = dtJ μ := rfl
theorem m_J_RI {μ : dtM} {k : Nat} {g : Nat → Int32} : dtJ (dtRI μ k g) = dtJ μ := rfl
theorem m_I_SJ {μ : dtM} {k j : Nat} {v : Int64} : dtI (dtSJ μ k j v) = dtI μ := rfl
theorem m_I_SR {μ : dtM} {k j : Nat} {v : Option Nat} : dtI (dtSR μ k j v) = dtI μ := rfl
theorem m_I_RJ {μ : dtM} {k : Nat} {g : Nat → Int64} : dtI (dtRJ μ k g) = dtI μ := rfl
theorem m_I_SI {μ : dtM} {k j a b : Nat} {v : Int32} : dtI (dtSI μ k j v) a b = if a = k ∧ b = j then v else dtI μ a b := by
  show dtRow (dtI μ) k (dtUp (dtI μ k) j v) a b = _
  unfold dtRow dtUp
  by_cases h : a = k
  · subst h; simp
  · simp [h]
theorem m_J_SJ {μ : dtM} {k j a b : Nat} {v : Int64} : dtJ (dtSJ μ k j v) a b = if a = k ∧ b = j then v else dtJ μ a b := by
  show dtRow (dtJ μ) k (dtUp (dtJ μ k) j v) a b = _
  unfold dtRow dtUp
  by_cases h : a = k
  · subst h; simp
  · simp [h]
theorem m_R_SR {μ : dtM} {k j a b : Nat} {v : Option Nat} : dtR (dtSR μ k j v) a b = if a = k ∧ b = j then v else dtR μ a b := by
  show dtRow (dtR μ) k (dtUp (dtR μ k) j v) a b = _
  unfold dtRow dtUp
  by_cases h : a = k
  · subst h; simp
  · simp [h]
theorem m_I_RI {μ : dtM} {k a : Nat} {g : Nat → Int32} : dtI (dtRI μ k g) a = if a = k then g else dtI μ a := rfl
theorem m_J_RJ {μ : dtM} {k a : Nat} {g : Nat → Int64} : dtJ (dtRJ μ k g) a = if a = k then g else dtJ μ a := rfl
