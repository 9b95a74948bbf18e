/-! PURE 16: longs as naturals; the fraction told -/
theorem j_lit (n : Nat) : (no_index (OfNat.ofNat n) : Int64) = Int64.ofNat (OfNat.ofNat n) := rfl
theorem j_le {a b : Nat} (ha : a < 9223372036854775808) (hb : b < 9223372036854775808) : (Int64.ofNat a ≤ Int64.ofNat b) = (a ≤ b) := propext (Int64.ofNat_le_iff_le ha hb)
theorem j_lt {a b : Nat} (ha : a < 9223372036854775808) (hb : b < 9223372036854775808) : (Int64.ofNat a < Int64.ofNat b) = (a < b) := propext (Int64.ofNat_lt_iff_lt ha hb)
theorem j_eq {a b : Nat} (ha : a < 9223372036854775808) (hb : b < 9223372036854775808) : (Int64.ofNat a = Int64.ofNat b) = (a = b) := propext ⟨fun h => by
  rw [← Int64.toNatClampNeg_ofNat_of_lt ha, ← Int64.toNatClampNeg_ofNat_of_lt hb, h], fun h => by rw [h]⟩
theorem j_add (a b : Nat) : Int64.ofNat a + Int64.ofNat b = Int64.ofNat (a + b) := (Int64.ofNat_add a b).symm
theorem j_mul (a b : Nat) : Int64.ofNat a * Int64.ofNat b = Int64.ofNat (a * b) := (Int64.ofNat_mul a b).symm
theorem j_sub {a b : Nat} (h : b ≤ a) : Int64.ofNat a - Int64.ofNat b = Int64.ofNat (a - b) := (Int64.ofNat_sub a b h).symm
theorem j_of {a : Nat} (h : a < 2147483648) : (Int32.ofNat a).toInt64 = Int64.ofNat a := Int32.toInt64_ofNat' (show (a : Int) ≤ 2147483647 by omega)
theorem j_div {a b : Nat} (ha : a < 9223372036854775808) (hb : 0 < b ∧ b < 9223372036854775808) : opDivJ (Int64.ofNat a) (Int64.ofNat b) = some (Int64.ofNat (a / b)) := by
  have hz : ¬ Int64.ofNat b = 0 := by
    rw [show (0 : Int64) = Int64.ofNat 0 from rfl, j_eq hb.2 (by decide)]; omega
  rw [opDivJ, if_pos hz, ← Int64.ofNat_div ha hb.2]
theorem j_rem {a b : Nat} (ha : a < 9223372036854775808) (hb : 0 < b ∧ b < 9223372036854775808) : opRemJ (Int64.ofNat a) (Int64.ofNat b) = some (Int64.ofNat (a % b)) := by
  have hz : ¬ Int64.ofNat b = 0 := by
    rw [show (0 : Int64) = Int64.ofNat 0 from rfl, j_eq hb.2 (by decide)]; omega
  rw [opRemJ, if_pos hz, ← Int64.ofNat_div ha hb.2, j_mul, j_sub (Nat.div_mul_le_self a b)]
  congr 2
  have := Nat.div_add_mod a b
  rw [Nat.mul_comm] at this
  omega
theorem j_cmp0 {a b : Nat} (ha : a < 9223372036854775808) (hb : b < 9223372036854775808) : (lg_cmp (Int64.ofNat a) (Int64.ofNat b) = 0) = (a = b) := by
  unfold lg_cmp
  simp only [gt_iff_lt, j_lt hb ha, j_eq ha hb]
  by_cases h : b < a
  · rw [if_pos h]; exact propext ⟨fun q => absurd q (by decide), fun q => by omega⟩
  · rw [if_neg h]
    by_cases h2 : a = b
    · rw [if_pos h2]; simp [h2]
    · rw [if_neg h2]; exact propext ⟨fun q => absurd q (by decide), fun q => absurd q h2⟩
theorem j_cmple {a b : Nat} (ha : a < 9223372036854775808) (hb : b < 9223372036854775808) : (lg_cmp (Int64.ofNat a) (Int64.ofNat b) ≤ 0) = (a ≤ b) := by
  unfold lg_cmp
  simp only [gt_iff_lt, j_lt hb ha, j_eq ha hb]
  by_cases h : b < a
  · rw [if_pos h]; exact propext ⟨fun q => absurd q (by decide), fun q => by omega⟩
  · rw [if_neg h]
    by_cases h2 : a = b
    · rw [if_pos h2]; exact propext ⟨fun _ => by omega, fun _ => by decide⟩
    · rw [if_neg h2]; exact propext ⟨fun _ => by omega, fun _ => by decide⟩
/-- how far the division goes: 2 k + 1 rounds do for b below 2 ^ k -/
theorem eu_half {a b : Nat} (hb : 0 < b) (h : 0 < a % b) : 2 * (b % (a % b)) < b := by
  have h1 := Nat.mod_lt a hb
  have h2 := Nat.mod_lt b h
  have h3 := Nat.div_add_mod b (a % b)
  have h4 : 1 ≤ b / (a % b) := Nat.div_pos (by omega) h
  have h5 : a % b ≤ (a % b) * (b / (a % b)) := Nat.le_mul_of_pos_right _ h4
  omega
def tF (μ : dtM) (n d g : Nat) : dtM := dtSJ (dtSJ μ 0 1 (Int64.ofNat (n / g))) 0 2 (Int64.ofNat (d / g))
theorem cd9 {μ : dtM} : ∀ (k f a b i : Nat), a < 9223372036854775808 → b < 9223372036854775808 → b < 2 ^ k → 2 * k + 1 < f → i + 2 * k + 1 < 1000 → f_X11_commonDivisor_9 f (Int64.ofNat a) (Int64.ofNat b) (Int32.ofNat i) μ = some (Int64.ofNat (Nat.gcd b a), μ) := by
  intro k
  induction k with
  | zero =>
    intro f a b i ha hb hk hf hi
    have : b = 0 := by omega
    subst this
    cases f with
    | zero => omega
    | succ f =>
      simp only [f_X11_commonDivisor_9, f_X11_commonDivisor_45, z_lit, z_le (show 1000 < 2147483648 by decide) (show i < 2147483648 by omega)]
      rw [if_neg (by omega), if_pos (by decide), Nat.gcd_zero_left]
  | succ k ih =>
    intro f a b i ha hb hk hf hi
    cases f with
    | zero => omega
    | succ f =>
      have e0 := j_cmp0 hb (show 0 < 9223372036854775808 by decide)
      by_cases h0 : b = 0
      · subst h0
        simp only [f_X11_commonDivisor_9, f_X11_commonDivisor_45, z_lit, z_le (show 1000 < 2147483648 by decide) (show i < 2147483648 by omega)]
        rw [if_neg (by omega), if_pos (by decide), Nat.gcd_zero_left]
      · have hr := Nat.mod_lt a (show 0 < b by omega)
        have st1 : f_X11_commonDivisor_9 (f + 1) (Int64.ofNat a) (Int64.ofNat b) (Int32.ofNat i) μ = f_X11_commonDivisor_9 f (Int64.ofNat b) (Int64.ofNat (a % b)) (Int32.ofNat (i + 1)) μ := by
          rw [f_X11_commonDivisor_9, if_neg (by rw [z_lit, z_le (by decide) (by omega)]; omega), if_neg (by rw [j_lit, e0]; exact h0), j_rem ha ⟨by omega, hb⟩, o_bind, z_lit, z_add]
        rw [st1, Nat.gcd_rec]
        cases f with
        | zero => omega
        | succ f =>
          by_cases h1 : a % b = 0
          · rw [h1]
            have e1 := j_cmp0 (show 0 < 9223372036854775808 by decide) (show 0 < 9223372036854775808 by decide)
            rw [f_X11_commonDivisor_9, if_neg (by rw [z_lit, z_le (by decide) (by omega)]; omega), if_pos (by decide), f_X11_commonDivisor_45, Nat.gcd_zero_left]
          · have e1 := j_cmp0 (show a % b < 9223372036854775808 by omega) (show 0 < 9223372036854775808 by decide)
            have hh := eu_half (a := a) (b := b) (by omega) (by omega)
            rw [f_X11_commonDivisor_9, if_neg (by rw [z_lit, z_le (by decide) (by omega)]; omega), if_neg (by rw [j_lit, e1]; exact h1), j_rem hb ⟨by omega, by omega⟩, o_bind, z_lit, z_add, Nat.gcd_rec]
            exact ih f (a % b) (b % (a % b)) (i + 1 + 1) (by omega) (by omega) (by rw [Nat.pow_succ] at hk; omega) (by omega) (by omega)
theorem f_gcd {μ : dtM} {a b : Nat} (ha : a < 9223372036854775808) (hb : b < 9223372036854775808) : f_X11_commonDivisor (Int64.ofNat a) (Int64.ofNat b) μ = some (Int64.ofNat (Nat.gcd b a), μ) := by
  rw [f_X11_commonDivisor, z_lit]
  exact cd9 63 dtFuel a b 0 ha hb hb (dtFuel_gt (by decide)) (by decide)
theorem f_tell {μ : dtM} {n d : Nat} (h0 : dtS μ 0 = (0, 11)) (hn : n < 9223372036854775808) (hd : 0 < d ∧ d < 9223372036854775808) : f_X11_tellFraction 0 (Int64.ofNat n) (Int64.ofNat d) μ = some (tF μ n d (Nat.gcd d n)) := by
  have hg : 0 < Nat.gcd d n := Nat.gcd_pos_of_pos_left n hd.1
  have hl : Nat.gcd d n ≤ d := Nat.gcd_le_left n hd.1
  have e := j_cmple (show Nat.gcd d n < 9223372036854775808 by omega) (show 0 < 9223372036854775808 by decide)
  have h1 : dtS (dtSJ μ 0 1 (Int64.ofNat (n / Nat.gcd d n))) 0 = (0, 11) := h0
  simp only [f_X11_tellFraction, f_X11_tellFraction_30, f_gcd hn hd.2, o_call, j_lit, j_div hn ⟨hg, by omega⟩, j_div hd.2 ⟨hg, by omega⟩, o_bind, o_PJ h0, o_PJ h1]
  rw [if_neg (by rw [e]; omega)]
  rfl
