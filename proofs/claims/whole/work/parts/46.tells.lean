/-! PURE 17: the fraction on the model's side; the model's answers -/
theorem m_is0 {μ : dtM} (h : dtS μ 133 = (0, 12)) : f_X12_is 133 (Int32.ofNat 0) μ = some (bI true, dtSI μ 133 2 (Int32.ofNat 0)) := by
  simp only [f_X12_is, f_X12_is_14, o_PI h, o_bind, z_lit, o_ret1']
  rw [if_pos trivial]
theorem m_isW {μ : dtM} {w : Nat} (h : dtS μ 133 = (0, 12)) (hw : 0 < w ∧ w < 2147483648) : f_X12_is 133 (Int32.ofNat w) μ = some (bI false, dtSI μ 133 2 (Int32.ofNat w)) := by
  simp only [f_X12_is, f_X12_is_14, o_PI h, o_bind, z_lit, o_ret0', z_eq hw.2 (show 0 < 2147483648 by decide)]
  rw [if_neg (by omega)]
def tM (μ : dtM) (n d g : Nat) : dtM := dtSI (dtSJ (dtSJ μ 133 3 (Int64.ofNat (n / g))) 133 4 (Int64.ofNat (d / g))) 133 2 (Int32.ofNat 0)
theorem tb_end {μ : dtM} {f n d a : Nat} (h : dtS μ 133 = (0, 12)) (hn : n < 9223372036854775808) (hd : d < 9223372036854775808) (ha : 0 < a ∧ a < 9223372036854775808) : f_X12_tellsBy_6 (f + 1) 133 (Int64.ofNat n) (Int64.ofNat d) (Int64.ofNat a) (Int64.ofNat 0) μ = some (bI true, tM μ n d a) := by
  have h1 : dtS (dtSJ μ 133 3 (Int64.ofNat (n / a))) 133 = (0, 12) := h
  have h2 : dtS (dtSJ (dtSJ μ 133 3 (Int64.ofNat (n / a))) 133 4 (Int64.ofNat (d / a))) 133 = (0, 12) := h
  rw [f_X12_tellsBy_6, if_pos (by decide)]
  simp only [j_div hn ha, j_div hd ha, o_bind, o_PJ h, o_PJ h1, o_Rv h2, z_lit, m_is0 h2, o_call, o_bI]
  rfl
theorem tb6 {μ : dtM} {n d : Nat} (h : dtS μ 133 = (0, 12)) (hn : n < 9223372036854775808) (hd : d < 9223372036854775808) : ∀ (k f a b : Nat), a < 9223372036854775808 → b < 9223372036854775808 → 0 < Nat.gcd b a → b < 2 ^ k → 2 * k + 1 < f → f_X12_tellsBy_6 f 133 (Int64.ofNat n) (Int64.ofNat d) (Int64.ofNat a) (Int64.ofNat b) μ = some (bI true, tM μ n d (Nat.gcd b a)) := by
  intro k
  induction k with
  | zero =>
    intro f a b ha hb hg hk hf
    have : b = 0 := by omega
    subst this
    cases f with
    | zero => omega
    | succ f =>
      rw [Nat.gcd_zero_left] at hg ⊢
      exact tb_end h hn hd ⟨hg, ha⟩
  | succ k ih =>
    intro f a b ha hb hg hk hf
    cases f with
    | zero => omega
    | succ f =>
      by_cases h0 : b = 0
      · subst h0
        rw [Nat.gcd_zero_left] at hg ⊢
        exact tb_end h hn hd ⟨hg, ha⟩
      · have e0 := j_cmp0 hb (show 0 < 9223372036854775808 by decide)
        have hr := Nat.mod_lt a (show 0 < b by omega)
        have st1 : f_X12_tellsBy_6 (f + 1) 133 (Int64.ofNat n) (Int64.ofNat d) (Int64.ofNat a) (Int64.ofNat b) μ = f_X12_tellsBy_6 f 133 (Int64.ofNat n) (Int64.ofNat d) (Int64.ofNat b) (Int64.ofNat (a % b)) μ := by
          rw [f_X12_tellsBy_6, if_neg (by rw [j_lit, e0]; exact h0), j_rem ha ⟨by omega, hb⟩, o_bind]
        rw [Nat.gcd_rec] at hg
        rw [st1, Nat.gcd_rec]
        cases f with
        | zero => omega
        | succ f =>
          by_cases h1 : a % b = 0
          · rw [h1, Nat.gcd_zero_left]
            exact tb_end h hn hd ⟨by omega, hb⟩
          · have e1 := j_cmp0 (show a % b < 9223372036854775808 by omega) (show 0 < 9223372036854775808 by decide)
            have hh := eu_half (a := a) (b := b) (by omega) (by omega)
            rw [Nat.gcd_rec] at hg
            rw [f_X12_tellsBy_6, if_neg (by rw [j_lit, e1]; exact h1), j_rem hb ⟨by omega, by omega⟩, o_bind, Nat.gcd_rec]
            exact ih f (a % b) (b % (a % b)) (by omega) (by omega) hg (by rw [Nat.pow_succ] at hk; omega) (by omega)
theorem f_tells {μ : dtM} {n d : Nat} (h : dtS μ 133 = (0, 12)) (hn : n < 9223372036854775808) (hd : 0 < d ∧ d < 9223372036854775808) : f_X12_tellsBy 133 (Int64.ofNat n) (Int64.ofNat d) μ = some (bI true, tM μ n d (Nat.gcd d n)) := by
  rw [f_X12_tellsBy]
  exact tb6 h hn hd.2 63 dtFuel n d hn hd.2 (Nat.gcd_pos_of_pos_left n hd.1) hd.2 (dtFuel_gt (by decide))
/-- isFrom, of an int -/
theorem f_isFrom {x : Int32} {n : Nat} {μ : dtM} (hn : n < 2147483647) : f_X12_isFrom x.toInt64 (Int64.ofNat 0) (Int64.ofNat n) μ = some (bI (inR x (n + 1)), μ) := by
  simp only [f_X12_isFrom, f_X12_isFrom_17, f_X12_isFrom_18, o_ret0, o_ret1]
  rcases z_cases x with q | ⟨k, hk, rfl⟩
  · have hx : x.toInt64 < Int64.ofNat 0 := by
      rw [Int64.lt_iff_toInt_lt]
      have := Int32.lt_iff_toInt_lt.mp q
      rw [Int32.toInt_toInt64]
      exact this
    have hc : lg_cmp x.toInt64 (Int64.ofNat 0) = -1 := by
      unfold lg_cmp
      have h1 : ¬ x.toInt64 > Int64.ofNat 0 := by
        rw [gt_iff_lt, Int64.lt_iff_toInt_lt]
        rw [Int64.lt_iff_toInt_lt] at hx
        omega
      have h2 : ¬ x.toInt64 = Int64.ofNat 0 := by
        intro e
        rw [e, Int64.lt_iff_toInt_lt] at hx
        omega
      rw [if_neg h1, if_neg h2]
    rw [hc, if_pos (by decide), inR_neg q]; rfl
  · rw [j_of hk]
    have e1 : ¬ lg_cmp (Int64.ofNat k) (Int64.ofNat 0) < 0 := by
      unfold lg_cmp
      simp only [gt_iff_lt, j_lt (show 0 < 9223372036854775808 by decide) (show k < 9223372036854775808 by omega), j_eq (show k < 9223372036854775808 by omega) (show 0 < 9223372036854775808 by decide)]
      by_cases h : 0 < k
      · rw [if_pos h]; decide
      · rw [if_neg h, if_pos (by omega)]; decide
    rw [if_neg e1, inR_n (by omega) hk]
    have e2 := j_cmple (show k < 9223372036854775808 by omega) (show n < 9223372036854775808 by omega)
    by_cases h : k < n + 1
    · rw [if_neg (by rw [Int32.not_lt, e2]; omega), decide_eq_true h]; rfl
    · rw [if_pos (by rw [← Int32.not_le, e2]; omega), decide_eq_false h]; rfl
