/-! PURE 28: how far, the program's side -/
def diF (A : aH) (o : Nat) : Nat → Nat → Nat → Option Nat
  | 0, _, _ => none
  | n + 1, i, X => if X.testBit o = true then some i else diF A o n (i + 1) (hStep A (hs A 5) X)
theorem PH.di6 {μ : dtM} {h : Nat} {A : aH} (H : PH μ h A) {o : Nat} (ho : o < hs A 0) : ∀ (n f i X : Nat), i + n = 7 → n < f → X < 128 → f_X10_distance_7 f h (Int32.ofNat o) (Int32.ofNat X) (Int32.ofNat i) μ = some (oN (diF A o n i X), μ) := by
  have hr := H.nr
  have hop := H.op1
  intro n
  induction n with
  | zero =>
    intro f i X e hf hX
    cases f with
    | zero => omega
    | succ f =>
      simp only [f_X10_distance_7, z_lit, z_le (show 7 < 2147483648 by decide) (show i < 2147483648 by omega)]
      rw [if_pos (by omega)]; rfl
  | succ n ih =>
    intro f i X e hf hX
    cases f with
    | zero => omega
    | succ f =>
      have hl := hStep_lt (op := hs A 5) H.2.2 hX
      simp only [f_X10_distance_7, z_lit, z_le (show 7 < 2147483648 by decide) (show i < 2147483648 by omega), f_contains (show X < 2147483648 by omega) (show o < 32 by omega), o_call, o_bind, b0, H.g5, H.stepOnce (show hs A 5 < 2147483648 by omega) hX, z_add]
      rw [if_neg (by omega), diF]
      cases q : X.testBit o
      · rw [if_pos rfl, if_neg (by decide)]
        exact ih f (i + 1) _ (by omega) (by omega) hl
      · rw [if_neg (by decide), if_pos rfl]; rfl
theorem PH.distance {μ : dtM} {h : Nat} {A : aH} (H : PH μ h A) {r o : Nat} (hr : r < hs A 0) (ho : o < hs A 0) : f_X10_distance h (Int32.ofNat r) (Int32.ofNat o) μ = some (oN (diF A o 7 0 (2 ^ r)), μ) := by
  have := H.nr
  simp only [f_X10_distance, z_lit, z_bit (show r < 32 by omega), o_bind]
  exact H.di6 ho 7 dtFuel 0 _ (by omega) (dtFuel_gt (by decide)) (p128 (by omega))
