/-! PURE 14: bits, and changes of a house -/
def pc (s : Nat) : Nat := s % 2 + s / 2 % 2 + s / 4 % 2 + s / 8 % 2 + s / 16 % 2 + s / 32 % 2 + s / 64 % 2 + s / 128 % 2 + s / 256 % 2 + s / 512 % 2
def bcP (p0 : Int32) : Int32 :=
  let x1 := p0 - (((p0.toUInt32 >>> ((1 : Int32).toUInt32 &&& Int32.toUInt32 31)).toInt32) &&& (1431655765 : Int32))
  let x3 := (x1 &&& (858993459 : Int32)) + (((x1.toUInt32 >>> ((2 : Int32).toUInt32 &&& Int32.toUInt32 31)).toInt32) &&& (858993459 : Int32))
  let x5 := (x3 + ((x3.toUInt32 >>> ((4 : Int32).toUInt32 &&& Int32.toUInt32 31)).toInt32)) &&& (252645135 : Int32)
  let x7 := x5 + ((x5.toUInt32 >>> ((8 : Int32).toUInt32 &&& Int32.toUInt32 31)).toInt32)
  let x9 := x7 + ((x7.toUInt32 >>> ((16 : Int32).toUInt32 &&& Int32.toUInt32 31)).toInt32)
  x9 &&& (63 : Int32)
theorem bcP_eq : ∀ s, s < 1024 → bcP (Int32.ofNat s) = Int32.ofNat (pc s) := by decide +kernel
theorem f_bitCount {s : Nat} {μ : dtM} (h : s < 1024) : f_J6_bitCount_0f7a4 (Int32.ofNat s) μ = some (Int32.ofNat (pc s), μ) := by
  rw [← bcP_eq s h]
  rfl
theorem pc_drop : ∀ s, s < 1024 → ¬ s = 0 → s &&& (s - 1) < 1024 ∧ pc (s &&& (s - 1)) + 1 = pc s := by decide +kernel
theorem pc_le {s : Nat} : pc s ≤ 10 := by unfold pc; omega
theorem pc_0 : ∀ s, s < 1024 → pc s = 0 → s = 0 := by decide +kernel
theorem bits4 {μ : dtM} : ∀ (n f s a : Nat), pc s = n → n < f → s < 1024 → f_X12_bits_4 f (Int32.ofNat a) (Int32.ofNat s) μ = some (Int32.ofNat (a + n), μ) := by
  intro n
  induction n with
  | zero =>
    intro f s a hn hf hs'
    cases f with
    | zero => omega
    | succ f =>
      have := pc_0 s hs' hn
      subst this
      simp only [f_X12_bits_4, z_lit]
      rw [if_pos trivial, Nat.add_zero]
  | succ n ih =>
    intro f s a hn hf hs'
    cases f with
    | zero => omega
    | succ f =>
      have h0 : ¬ s = 0 := by
        intro e
        subst e
        have : pc 0 = 0 := by decide
        omega
      have hd := pc_drop s hs' h0
      have hp := pc_le (s := s)
      simp only [f_X12_bits_4, z_lit, z_eq (show s < 2147483648 by omega) (show 0 < 2147483648 by decide), z_sub (show 1 ≤ s by omega), z_and, o_bind, z_add]
      rw [if_neg h0, ih f _ (a + 1) (by omega) (by omega) hd.1, show a + 1 + n = a + (n + 1) by omega]
theorem f_bits {s : Nat} {μ : dtM} (h : s < 1024) : f_X12_bits (Int32.ofNat s) μ = some (Int32.ofNat (pc s), μ) := by
  have hp := pc_le (s := s)
  rw [f_X12_bits, z_lit, bits4 (pc s) dtFuel s 0 rfl (dtFuel_gt (by omega)) h, Nat.zero_add]
def hUs (A : aH) (j v : Nat) : aH := (dtUp A.1 j v, A.2)
def hUt (A : aH) (t i v : Nat) : aH := (A.1, (fun a b => if a = t ∧ b = i then v else A.2.1 a b), A.2.2)
theorem hUs_s {A : aH} {j v k : Nat} : hs (hUs A j v) k = if k = j then v else hs A k := rfl
theorem hUs_t {A : aH} {j v t i : Nat} : ht (hUs A j v) t i = ht A t i := rfl
theorem hUt_s {A : aH} {t i v k : Nat} : hs (hUt A t i v) k = hs A k := rfl
theorem hUt_t {A : aH} {t i v a b : Nat} : ht (hUt A t i v) a b = if a = t ∧ b = i then v else ht A a b := rfl
theorem pRI {h t t' i i' : Nat} (q : t < 20) (q' : t' < 20) (e1 : pRow h t = pRow h t') (e2 : pIdx t i = pIdx t' i') : t = t' ∧ i = i' := by
  have X : ∀ t i, t < 20 → (t < 3 ∧ pRow h t = h + 3 + t ∧ pIdx t i = i) ∨ (t = 3 ∧ pRow h t = h + 6 ∧ pIdx t i = i) ∨ (4 ≤ t ∧ t < 8 ∧ pRow h t = h + 7 ∧ pIdx t i = 4 * i + (t - 4)) ∨ (8 ≤ t ∧ t < 12 ∧ pRow h t = h + t ∧ pIdx t i = i) ∨ (12 ≤ t ∧ t < 20 ∧ pRow h t = h + 12 ∧ pIdx t i = 8 * i + (t - 12)) := by
    intro t i q
    by_cases h1 : t < 3
    · left; exact ⟨h1, if_pos h1, by rw [pIdx, if_neg (by omega), if_neg (by omega)]⟩
    · by_cases h2 : t = 3
      · right; left; exact ⟨h2, by rw [pRow, if_neg h1, if_pos h2], by rw [pIdx, if_neg (by omega), if_neg (by omega)]⟩
      · by_cases h3 : t < 8
        · right; right; left; exact ⟨by omega, h3, by rw [pRow, if_neg h1, if_neg h2, if_pos h3], by rw [pIdx, if_pos (by omega)]⟩
        · by_cases h4 : t < 12
          · right; right; right; left; exact ⟨by omega, h4, by rw [pRow, if_neg h1, if_neg h2, if_neg h3, if_pos h4], by rw [pIdx, if_neg (by omega), if_neg (by omega)]⟩
          · right; right; right; right; exact ⟨by omega, q, by rw [pRow, if_neg h1, if_neg h2, if_neg h3, if_neg h4], by rw [pIdx, if_neg (by omega), if_pos (by omega)]⟩
  rcases X t i q with x | x | x | x | x <;> rcases X t' i' q' with y | y | y | y | y <;> omega
theorem PH.setS {μ : dtM} {h : Nat} {A : aH} (H : PH μ h A) {j v : Nat} (hj : (j = 4 ∧ v ≤ 16) ∨ (j = 5 ∧ v < 2 ^ hs A 1)) : PH (dtSI μ h j (Int32.ofNat v)) h (hUs A j v) := by
  have hne : ∀ k, ¬ k = h → dtI (dtSI μ h j (Int32.ofNat v)) k = dtI μ k := fun k q => dtRow_ne q
  refine ⟨H.1, ⟨fun k hk => ?_, ?_, fun t i q => ?_, fun r hr => H.2.1.2.2.2.1 r (by rw [hUs_s, if_neg (by omega)] at hr; exact hr), fun r hr => H.2.1.2.2.2.2 r (by rw [hUs_s, if_neg (by omega)] at hr; exact hr)⟩, ?_⟩
  · rw [m_I_SI, hUs_s]
    by_cases e : k = j
    · rw [if_pos ⟨rfl, e⟩, if_pos e]
    · rw [if_neg (fun x => e x.2), if_neg e]; exact H.2.1.1 k hk
  · rw [m_I_SI, if_neg (by omega)]; exact H.2.1.2.1
  · have q' : hok A t i := by
      unfold hok at q ⊢
      simp only [hUs_s, hUs_t] at q
      rw [if_neg (by omega), if_neg (by omega), if_neg (by omega)] at q
      exact q
    have := pRow_in (h := h) (hok_t q')
    rw [hne _ (by omega), hUs_t]
    exact H.2.1.2.2.1 t i q'
  · have W := H.2.2
    unfold hWF at W ⊢
    simp only [hUs_s, hUs_t]
    rcases hj with ⟨e, hv⟩ | ⟨e, hv⟩ <;> subst e <;> simp only [show ¬ (0 = 4) by decide, show ¬ (1 = 4) by decide, show ¬ (2 = 4) by decide, show ¬ (3 = 4) by decide, show ¬ (5 = 4) by decide, show ¬ (0 = 5) by decide, show ¬ (1 = 5) by decide, show ¬ (2 = 5) by decide, show ¬ (3 = 5) by decide, show ¬ (4 = 5) by decide, if_true, if_false]
    · exact ⟨⟨W.1.1, W.1.2.1, W.1.2.2.1, W.1.2.2.2.1, hv, W.1.2.2.2.2.2⟩, W.2⟩
    · exact ⟨⟨W.1.1, W.1.2.1, W.1.2.2.1, W.1.2.2.2.1, W.1.2.2.2.2.1, hv⟩, W.2⟩
theorem MH.setS {μ : dtM} {A : aH} (H : MH μ 0 0 A) {j v : Nat} (hj : (j = 4 ∧ v ≤ 16) ∨ (j = 5 ∧ v < 2 ^ hs A 1)) : MH (dtSI μ 134 j (Int32.ofNat v)) 0 0 (hUs A j v) := by
  have hm' : ∀ t i, 10 ≤ mIdx t i := fun t i => by
    unfold mIdx
    by_cases h1 : t < 3
    · rw [if_pos h1]; omega
    · rw [if_neg h1]
      by_cases h2 : t < 8
      · rw [if_pos h2]; omega
      · rw [if_neg h2]; omega
  refine ⟨H.1, ⟨fun k hk => ?_, ?_, fun t i q => ?_, fun w k hw hk h4 => ?_, fun r hr => H.2.1.2.2.2.2.1 r (by rw [hUs_s, if_neg (by omega)] at hr; exact hr), fun r hr => H.2.1.2.2.2.2.2 r (by rw [hUs_s, if_neg (by omega)] at hr; exact hr)⟩, ?_⟩
  · rw [m_I_SI, hUs_s, Nat.zero_add]
    by_cases e : k = j
    · rw [if_pos ⟨rfl, e⟩, if_pos e]
    · rw [if_neg (fun x => e x.2), if_neg e]
      have := H.2.1.1 k hk
      rw [Nat.zero_add] at this
      exact this
  · rw [m_I_SI, if_neg (by omega)]; exact H.2.1.2.1
  · have q' : hok A t i := by
      unfold hok at q ⊢
      simp only [hUs_s, hUs_t] at q
      rw [if_neg (by omega), if_neg (by omega), if_neg (by omega)] at q
      exact q
    have := hm' t i
    rw [m_I_SI, if_neg (by omega), hUs_t]
    exact H.2.1.2.2.1 t i q'
  · have := hm' (4 + k) w
    rw [hUs_s, if_neg (by omega)] at hw
    rw [m_I_SI, if_neg (by omega)]
    exact H.2.1.2.2.2.1 w k hw hk h4
  · have W := H.2.2
    unfold hWF at W ⊢
    simp only [hUs_s, hUs_t]
    rcases hj with ⟨e, hv⟩ | ⟨e, hv⟩ <;> subst e <;> simp only [show ¬ (0 = 4) by decide, show ¬ (1 = 4) by decide, show ¬ (2 = 4) by decide, show ¬ (3 = 4) by decide, show ¬ (5 = 4) by decide, show ¬ (0 = 5) by decide, show ¬ (1 = 5) by decide, show ¬ (2 = 5) by decide, show ¬ (3 = 5) by decide, show ¬ (4 = 5) by decide, if_true, if_false]
    · exact ⟨⟨W.1.1, W.1.2.1, W.1.2.2.1, W.1.2.2.2.1, hv, W.1.2.2.2.2.2⟩, W.2⟩
    · exact ⟨⟨W.1.1, W.1.2.1, W.1.2.2.1, W.1.2.2.2.1, W.1.2.2.2.2.1, hv⟩, W.2⟩
