/-! PURE 8: spreading, its loops -/
theorem rxs_B {A : aH} (W : hWF A) {more : Nat} {wo : Int32} {n i : Nat} {st : (Nat → Nat) × Bool} (e : i + n = hs A 1) (h : hB st.1) : hB (fo (rx A more wo) n i st).1 :=
  fo_ind (P := fun _ s => hB s.1) (fun _ _ hd q => rx_B W hd q) n i st e h
theorem sp65 {k47 : Nat → Nat → Int32 → Int32 → Int32 → Int32 → dtM → Option dtM} {h : Nat} {A : aH} (hh : h + 12 < 123) {wo l6 : Int32} {more : Nat} (hm' : more ≤ 9) : ∀ (n f i : Nat) (st : (Nat → Nat) × Bool) (μ : dtM), i + n = hs A 1 → n < f → PH μ h A → hHr μ → LV μ 123 7 st.1 → hB st.1 →
    ∃ μ', f_X2_spread_65 k47 f 122 h wo (Int32.ofNat more) (bI st.2) l6 (Int32.ofNat i) μ = k47 122 h wo (Int32.ofNat more) (bI (fo (rx A more wo) n i st).2) (l6 + Int32.ofNat 1) μ' ∧ Fr P123 μ μ' ∧ LV μ' 123 7 (fo (rx A more wo) n i st).1 := by
  intro n
  induction n with
  | zero =>
    intro f i st μ e hf H G hL hb
    have hnd := H.nd
    cases f with
    | zero => omega
    | succ f =>
      simp only [f_X2_spread_65, H.g1, o_bind, z_lit, z_le (show hs A 1 < 2147483648 by omega) (show i < 2147483648 by omega)]
      rw [if_pos (by omega)]
      exact ⟨μ, rfl, Fr.rf, hL⟩
  | succ n ih =>
    intro f i st μ e hf H G hL hb
    have hnd := H.nd
    have hop := H.op1
    cases f with
    | zero => omega
    | succ f =>
      have hi : i < hs A 1 := by omega
      obtain ⟨g, ch⟩ := st
      have hx : hs A 5 &&& 2 ^ i < 1024 := Nat.lt_of_le_of_lt Nat.and_le_left hop
      obtain ⟨μ1, e1, F1, hL1⟩ := sp119 (k47 := k47) (k65 := f_X2_spread_65 k47 f) H G hh hL hb (wo := wo) (l4 := Int32.ofNat more) (l6 := l6) (ch := ch) (more := more) hi
      have hbz := (H.door hi).2.2.2
      obtain ⟨μ2, e2, F2, hL2⟩ := ih f (i + 1) (rx A more wo i (g, ch)) μ1 (by omega) (by omega) (H.kept F1 (fun k _ q _ => by show ¬ k = 123; omega)) (G.kept F1) hL1 (rx_B H.2.2 hi hb)
      refine ⟨μ2, ?_, F1.tr F2, hL2⟩
      rw [fo, ← e2, ← e1]
      simp only [f_X2_spread_65, f_X2_spread_91, H.g1, H.g5, H.r11, H.l2 hi, o_bind, z_lit, z_le (show hs A 1 < 2147483648 by omega) (show i < 2147483648 by omega), z_bit (show i < 32 by omega)]
      rw [if_neg (by omega)]
      simp only [z_and, z_eq (show hs A 5 &&& 2 ^ i < 2147483648 by omega) (show 0 < 2147483648 by decide), z_tb, z_add, z_min (show ht A 2 i + more < 2147483648 by omega) (show 9 < 2147483648 by decide), z_eq (show 0 < 2147483648 by decide) (show 0 < 2147483648 by decide), z_eq (show 1 < 2147483648 by decide) (show 0 < 2147483648 by decide)]
      unfold hC
      by_cases hb' : (hs A 5).testBit i = false
      · rw [if_pos hb', if_pos trivial, if_neg (by rw [hb']; decide)]
      · rw [if_neg hb', if_neg (by decide), if_pos (by simpa using hb')]
def rds (A : aH) (more : Nat) (wo : Int32) : Nat → (Nat → Nat) → Nat → Nat
  | 0, g => g
  | n + 1, g => if (fo (rx A more wo) (hs A 1) 0 (g, false)).2 = true then rds A more wo n (fo (rx A more wo) (hs A 1) 0 (g, false)).1 else (fo (rx A more wo) (hs A 1) 0 (g, false)).1
theorem sp47 {h : Nat} {A : aH} (hh : h + 12 < 123) {wo : Int32} {more : Nat} (hm' : more ≤ 9) : ∀ (n f i : Nat) (g : Nat → Nat) (ch : Bool) (μ : dtM), i + n = 7 → n < f → PH μ h A → hHr μ → LV μ 123 7 g → hB g →
    ∃ μ', f_X2_spread_47 f 122 h wo (Int32.ofNat more) (bI ch) (Int32.ofNat i) μ = some μ' ∧ Fr P123 μ μ' ∧ LV μ' 123 7 (if ch = true then rds A more wo n g else g) := by
  intro n
  induction n with
  | zero =>
    intro f i g ch μ e hf H G hL hb
    cases f with
    | zero => omega
    | succ f =>
      simp only [f_X2_spread_47, f_X2_spread_237, z_lit, z_le (show 7 < 2147483648 by decide) (show i < 2147483648 by omega)]
      rw [if_pos (by omega)]
      refine ⟨μ, rfl, Fr.rf, ?_⟩
      cases ch <;> exact hL
  | succ n ih =>
    intro f i g ch μ e hf H G hL hb
    have hnd := H.nd
    cases f with
    | zero => omega
    | succ f =>
      simp only [f_X2_spread_47, f_X2_spread_237, z_lit, z_le (show 7 < 2147483648 by decide) (show i < 2147483648 by omega), b0]
      rw [if_neg (by omega)]
      cases ch with
      | false =>
        rw [if_pos rfl]
        exact ⟨μ, rfl, Fr.rf, hL⟩
      | true =>
        rw [if_neg (by decide)]
        obtain ⟨μ1, e1, F1, hL1⟩ := sp65 (k47 := f_X2_spread_47 f) hh (wo := wo) (l6 := Int32.ofNat i) hm' (hs A 1) dtFuel 0 (g, false) μ (by omega) (dtFuel_gt (by omega)) H G hL hb
        have e1' : f_X2_spread_65 (f_X2_spread_47 f) dtFuel 122 h wo (Int32.ofNat more) (Int32.ofNat 0) (Int32.ofNat i) (Int32.ofNat 0) μ = _ := e1
        rw [e1', z_add]
        obtain ⟨μ2, e2, F2, hL2⟩ := ih f (i + 1) _ (fo (rx A more wo) (hs A 1) 0 (g, false)).2 μ1 (by omega) (by omega) (H.kept F1 (fun k _ q _ => by show ¬ k = 123; omega)) (G.kept F1) hL1 (rxs_B H.2.2 (by omega) hb)
        refine ⟨μ2, e2, F1.tr F2, ?_⟩
        rw [if_pos rfl, rds]
        exact hL2
def ini (X j : Nat) : Nat := if X.testBit j = true then 0 else 1000000
theorem ini_B {X : Nat} : hB (ini X) := by
  intro v _
  unfold ini
  by_cases h : X.testBit v = true
  · rw [if_pos h]; omega
  · rw [if_neg h]; omega
theorem sp3 {h : Nat} {A : aH} (hh : h + 12 < 123) {wo : Int32} {more X : Nat} (hX : X < 128) (hm' : more ≤ 9) : ∀ (n f i : Nat) (μ : dtM), i + n = 7 → n < f → PH μ h A → hHr μ → LV μ 123 i (ini X) →
    ∃ μ', f_X2_spread_3 f 122 h (Int32.ofNat X) wo (Int32.ofNat more) (Int32.ofNat i) μ = some μ' ∧ Fr P123 μ μ' ∧ LV μ' 123 7 (rds A more wo 7 (ini X)) := by
  intro n
  induction n with
  | zero =>
    intro f i μ e hf H G hL
    cases f with
    | zero => omega
    | succ f =>
      have e122 : opGR 2 0 μ 122 = some 123 := o_GR G.1 G.2.1
      have eL : opAL μ 123 = some (Int32.ofNat 7) := o_AL G.2.2 (by decide)
      simp only [f_X2_spread_3, z_lit, e122, eL, o_bind, z_le (show 7 < 2147483648 by decide) (show i < 2147483648 by omega)]
      rw [if_pos (by omega)]
      rw [show i = 7 by omega] at hL
      exact sp47 hh hm' 7 dtFuel 0 (ini X) true μ (by omega) (dtFuel_gt (by decide)) H G hL ini_B
  | succ n ih =>
    intro f i μ e hf H G hL
    cases f with
    | zero => omega
    | succ f =>
      have e122 : opGR 2 0 μ 122 = some 123 := o_GR G.1 G.2.1
      have eL : opAL μ 123 = some (Int32.ofNat 7) := o_AL G.2.2 (by decide)
      have hx : X &&& 2 ^ i < 128 := Nat.lt_of_le_of_lt Nat.and_le_left hX
      have F1 : Fr P123 μ (dtSI μ 123 i (Int32.ofNat (ini X i))) := Fr.SI rfl
      have hL1 : LV (dtSI μ 123 i (Int32.ofNat (ini X i))) 123 (i + 1) (ini X) := by
        intro j hj
        rw [m_I_SI]
        by_cases q : j = i
        · rw [if_pos ⟨rfl, q⟩, q]
        · rw [if_neg (fun q' => q q'.2)]; exact hL j (by omega)
      obtain ⟨μ2, e2, F2, hL2⟩ := ih f (i + 1) _ (by omega) (by omega) (H.kept F1 (fun k _ q _ => by show ¬ k = 123; omega)) (G.kept F1) hL1
      refine ⟨μ2, ?_, F1.tr F2, hL2⟩
      rw [← e2]
      simp only [f_X2_spread_3, f_X2_spread_34, z_lit, e122, eL, o_bind, z_le (show 7 < 2147483648 by decide) (show i < 2147483648 by omega), z_bit (show i < 32 by omega)]
      rw [if_neg (by omega)]
      simp only [z_and, z_eq (show X &&& 2 ^ i < 2147483648 by omega) (show 0 < 2147483648 by decide), z_tb, o_SI G.2.2 (show i < 7 by omega) (by decide), o_bind, z_add]
      unfold ini
      by_cases q : X.testBit i = false
      · rw [if_pos q, if_neg (by rw [q]; decide)]
      · rw [if_neg q, if_pos (by simpa using q)]
theorem PH.spread {μ : dtM} {h : Nat} {A : aH} (H : PH μ h A) (G : hHr μ) (hh : h + 12 < 123) {wo : Int32} {more X : Nat} (hX : X < 128) (hm' : more ≤ 9) : ∃ μ', f_X2_spread 122 h (Int32.ofNat X) wo (Int32.ofNat more) μ = some μ' ∧ Fr P123 μ μ' ∧ LV μ' 123 7 (rds A more wo 7 (ini X)) :=
  sp3 hh hX hm' 7 dtFuel 0 μ (by omega) (dtFuel_gt (by decide)) H G (fun j hj => absurd hj (Nat.not_lt_zero j))
