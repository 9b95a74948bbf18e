/-! PURE 7: what is lost on the way, the program's spreading -/
def hHr (μ : dtM) : Prop := dtS μ 122 = (0, 2) ∧ dtR μ 122 0 = some 123 ∧ dtS μ 123 = (1, 7)
def LV (μ : dtM) (k n : Nat) (g : Nat → Nat) : Prop := ∀ j, j < n → dtI μ k j = Int32.ofNat (g j)
theorem LV.SI {μ : dtM} {k n j v : Nat} {g : Nat → Nat} (h : LV μ k n g) : LV (dtSI μ k j (Int32.ofNat v)) k n (dtUp g j v) := by
  intro i hi
  rw [m_I_SI, dtUp]
  by_cases e : i = j
  · rw [if_pos ⟨rfl, e⟩, if_pos e]
  · rw [if_neg (fun q => e q.2), if_neg e]; exact h i hi
theorem LV.get {μ : dtM} {k n j : Nat} {g : Nat → Nat} (h : LV μ k n g) (hs : dtS μ k = (1, n)) (hn : n < 2147483648) (hj : j < n) : opLI 1 μ k (Int32.ofNat j) = some (Int32.ofNat (g j)) := by
  rw [o_LI hs hj hn, h j hj]
def hC (A : aH) (more d : Nat) : Nat := if (hs A 5).testBit d = true then 1 else 2 + min (ht A 2 d + more) 9
theorem hC_le {A : aH} {more d : Nat} : 1 ≤ hC A more d ∧ hC A more d ≤ 11 := by
  unfold hC
  by_cases h : (hs A 5).testBit d = true
  · rw [if_pos h]; omega
  · rw [if_neg h]; omega
def rxG (g : Nat → Nat) (a b c : Nat) : Nat → Nat := dtUp (dtUp g a (min (g b + c) (g a))) b (min (dtUp g a (min (g b + c) (g a)) a + c) (dtUp g a (min (g b + c) (g a)) b))
def rx (A : aH) (more : Nat) (wo : Int32) (d : Nat) (st : (Nat → Nat) × Bool) : (Nat → Nat) × Bool :=
  if Int32.ofNat d = wo then st else if st.1 (ht A 0 d) - st.1 (ht A 1 d) + (st.1 (ht A 1 d) - st.1 (ht A 0 d)) ≤ hC A more d then st else (rxG st.1 (ht A 0 d) (ht A 1 d) (hC A more d), true)
theorem z_tb {s d : Nat} : (s &&& 2 ^ d = 0) = (s.testBit d = false) := by
  apply propext
  constructor
  · intro h
    have : (s &&& 2 ^ d).testBit d = false := by rw [h, Nat.zero_testBit]
    rw [Nat.testBit_and, Nat.testBit_two_pow, decide_eq_true rfl, Bool.and_true] at this
    exact this
  · intro h
    apply Nat.eq_of_testBit_eq
    intro i
    rw [Nat.testBit_and, Nat.testBit_two_pow, Nat.zero_testBit]
    by_cases e : d = i
    · rw [← e, h]; rfl
    · rw [decide_eq_false e, Bool.and_false]
theorem dtUp_le {g : Nat → Nat} {M j x : Nat} (hg : ∀ v, v < 7 → g v ≤ M) (hx : x ≤ M) : ∀ v, v < 7 → dtUp g j x v ≤ M := by
  intro v hv
  unfold dtUp
  by_cases h : v = j
  · rw [if_pos h]; exact hx
  · rw [if_neg h]; exact hg v hv
def hB (g : Nat → Nat) : Prop := ∀ v, v < 7 → g v ≤ 1000000
theorem rxG_B {g : Nat → Nat} {a b c : Nat} (hg : hB g) (ha : a < 7) (hb : b < 7) : hB (rxG g a b c) := by
  have := hg a ha
  have h1 := dtUp_le (j := a) (x := min (g b + c) (g a)) hg (by omega)
  have h2 := h1 b hb
  exact dtUp_le h1 (by omega)
theorem rx_B {A : aH} (W : hWF A) {more : Nat} {wo : Int32} {d : Nat} (hd : d < hs A 1) {st : (Nat → Nat) × Bool} (h : hB st.1) : hB (rx A more wo d st).1 := by
  have := W.1.1
  have := (W.2.1 d hd).1
  have := (W.2.1 d hd).2.1
  unfold rx
  by_cases h1 : Int32.ofNat d = wo
  · rw [if_pos h1]; exact h
  · rw [if_neg h1]
    by_cases h2 : st.1 (ht A 0 d) - st.1 (ht A 1 d) + (st.1 (ht A 1 d) - st.1 (ht A 0 d)) ≤ hC A more d
    · rw [if_pos h2]; exact h
    · rw [if_neg h2]; exact rxG_B h (by omega) (by omega)
abbrev P123 : Nat → Nat → Prop := fun k _ => k = 123
theorem hHr.kept {μ μ' : dtM} (h : hHr μ) (F : Fr P123 μ μ') : hHr μ' := by
  unfold hHr
  rw [F.S, F.R]
  exact h
theorem sp119 {k47 : Nat → Nat → Int32 → Int32 → Int32 → Int32 → dtM → Option dtM} {k65 : Nat → Nat → Int32 → Int32 → Int32 → Int32 → Int32 → dtM → Option dtM} {μ : dtM} {h : Nat} {A : aH} (H : PH μ h A) (G : hHr μ) (hh : h + 12 < 123) {g : Nat → Nat} (hL : LV μ 123 7 g) (hB' : hB g) {wo l4 l6 : Int32} {ch : Bool} {d more : Nat} (hd : d < hs A 1) :
    ∃ μ', f_X2_spread_119 k47 k65 122 h wo l4 (bI ch) l6 (Int32.ofNat d) (Int32.ofNat (hC A more d)) μ = k65 122 h wo l4 (bI (rx A more wo d (g, ch)).2) l6 (Int32.ofNat (d + 1)) μ' ∧ Fr P123 μ μ' ∧ LV μ' 123 7 (rx A more wo d (g, ch)).1 := by
  have hr := H.nr
  have h0 := (H.door hd).1
  have h1 := (H.door hd).2.1
  have ha := hB' (ht A 0 d) (by omega)
  have hb := hB' (ht A 1 d) (by omega)
  have hc := hC_le (A := A) (more := more) (d := d)
  have e122 : opGR 2 0 μ 122 = some 123 := o_GR G.1 G.2.1
  have ea := hL.get G.2.2 (by decide) (show ht A 0 d < 7 by omega)
  have eb := hL.get G.2.2 (by decide) (show ht A 1 d < 7 by omega)
  simp only [f_X2_spread_119, f_X2_spread_225, H.r9, H.r10, H.l0 hd, H.l1 hd, o_bind, z_lit, e122, ea, eb]
  by_cases hs' : Int32.ofNat d = wo
  · rw [if_pos hs', z_add]
    refine ⟨μ, ?_, Fr.rf, ?_⟩ <;> rw [show rx A more wo d (g, ch) = (g, ch) from if_pos hs']
    exact hL
  · rw [if_neg hs', z_abs (by omega) (by omega)]
    simp only [z_le (show g (ht A 0 d) - g (ht A 1 d) + (g (ht A 1 d) - g (ht A 0 d)) < 2147483648 by omega) (show hC A more d < 2147483648 by omega)]
    by_cases h2 : g (ht A 0 d) - g (ht A 1 d) + (g (ht A 1 d) - g (ht A 0 d)) ≤ hC A more d
    · rw [if_pos h2, z_add]
      have e : rx A more wo d (g, ch) = (g, ch) := by rw [rx, if_neg hs', if_pos h2]
      refine ⟨μ, ?_, Fr.rf, ?_⟩ <;> rw [e]
      exact hL
    · have e : rx A more wo d (g, ch) = (rxG g (ht A 0 d) (ht A 1 d) (hC A more d), true) := by rw [rx, if_neg hs', if_neg h2]
      rw [if_neg h2, e]
      simp only [z_add, z_min (show g (ht A 1 d) + hC A more d < 2147483648 by omega) (show g (ht A 0 d) < 2147483648 by omega), o_SI G.2.2 (show ht A 0 d < 7 by omega) (by decide), o_bind]
      have F1 : Fr P123 μ (dtSI μ 123 (ht A 0 d) (Int32.ofNat (min (g (ht A 1 d) + hC A more d) (g (ht A 0 d))))) := Fr.SI rfl
      have hL1 := hL.SI (j := ht A 0 d) (v := min (g (ht A 1 d) + hC A more d) (g (ht A 0 d)))
      have G1 := G.kept F1
      generalize dtSI μ 123 (ht A 0 d) (Int32.ofNat (min (g (ht A 1 d) + hC A more d) (g (ht A 0 d)))) = μ1 at F1 hL1 G1 ⊢
      have e1 : opGR 2 0 μ1 122 = some 123 := o_GR G1.1 G1.2.1
      have ea1 := hL1.get G1.2.2 (by decide) (show ht A 0 d < 7 by omega)
      have eb1 := hL1.get G1.2.2 (by decide) (show ht A 1 d < 7 by omega)
      have b0 : dtUp g (ht A 0 d) (min (g (ht A 1 d) + hC A more d) (g (ht A 0 d))) (ht A 0 d) ≤ 1000000 := by unfold dtUp; rw [if_pos rfl]; omega
      have b1 : dtUp g (ht A 0 d) (min (g (ht A 1 d) + hC A more d) (g (ht A 0 d))) (ht A 1 d) ≤ 1000000 := by
        unfold dtUp
        by_cases q : ht A 1 d = ht A 0 d
        · rw [if_pos q]; omega
        · rw [if_neg q]; omega
      simp only [e1, ea1, eb1, o_bind, z_add]
      generalize hu : dtUp g (ht A 0 d) (min (g (ht A 1 d) + hC A more d) (g (ht A 0 d))) = u at *
      rw [z_min (by omega) (by omega), o_SI G1.2.2 (show ht A 1 d < 7 by omega) (by decide), o_bind]
      refine ⟨_, rfl, F1.tr (Fr.SI rfl), ?_⟩
      have hx := hL1.SI (j := ht A 1 d) (v := min (u (ht A 0 d) + hC A more d) (u (ht A 1 d)))
      have e3 : rxG g (ht A 0 d) (ht A 1 d) (hC A more d) = dtUp u (ht A 1 d) (min (u (ht A 0 d) + hC A more d) (u (ht A 1 d))) := by rw [rxG, hu]
      rw [e3]
      exact hx
