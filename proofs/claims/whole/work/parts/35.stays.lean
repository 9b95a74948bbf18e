/-! PURE 6: what stays -/
def Fr (P : Nat → Nat → Prop) (μ μ' : dtM) : Prop := dtN μ' = dtN μ ∧ dtZ μ' = dtZ μ ∧ (dtS μ' = dtS μ ∧ dtR μ' = dtR μ) ∧ ∀ k j, ¬ P k j → dtI μ' k j = dtI μ k j ∧ dtJ μ' k j = dtJ μ k j
theorem Fr.rf {P : Nat → Nat → Prop} {μ : dtM} : Fr P μ μ := ⟨rfl, rfl, ⟨rfl, rfl⟩, fun _ _ _ => ⟨rfl, rfl⟩⟩
theorem Fr.tr {P : Nat → Nat → Prop} {μ μ' μ'' : dtM} (h : Fr P μ μ') (g : Fr P μ' μ'') : Fr P μ μ'' :=
  ⟨g.1.trans h.1, g.2.1.trans h.2.1, ⟨g.2.2.1.1.trans h.2.2.1.1, g.2.2.1.2.trans h.2.2.1.2⟩, fun k j q => ⟨(g.2.2.2 k j q).1.trans (h.2.2.2 k j q).1, (g.2.2.2 k j q).2.trans (h.2.2.2 k j q).2⟩⟩
theorem Fr.wide {P Q : Nat → Nat → Prop} {μ μ' : dtM} (h : Fr P μ μ') (hq : ∀ k j, P k j → Q k j) : Fr Q μ μ' := ⟨h.1, h.2.1, h.2.2.1, fun k j q => h.2.2.2 k j (fun p => q (hq k j p))⟩
theorem dtRow_ne {α : Type} {f : Nat → Nat → α} {k a : Nat} {g : Nat → α} (h : ¬ a = k) : dtRow f k g a = f a := if_neg h
theorem Fr.SI {P : Nat → Nat → Prop} {μ : dtM} {k j : Nat} {v : Int32} (hk : P k j) : Fr P μ (dtSI μ k j v) := ⟨rfl, rfl, ⟨rfl, rfl⟩, fun a b q => ⟨m_I_SI.trans (if_neg (fun e => q (by rw [e.1, e.2]; exact hk))), rfl⟩⟩
theorem Fr.SJ {P : Nat → Nat → Prop} {μ : dtM} {k j : Nat} {v : Int64} (hk : P k j) : Fr P μ (dtSJ μ k j v) := ⟨rfl, rfl, ⟨rfl, rfl⟩, fun a b q => ⟨rfl, m_J_SJ.trans (if_neg (fun e => q (by rw [e.1, e.2]; exact hk)))⟩⟩
theorem Fr.RI {P : Nat → Nat → Prop} {μ : dtM} {k : Nat} {g : Nat → Int32} (hk : ∀ j, P k j) : Fr P μ (dtRI μ k g) := ⟨rfl, rfl, ⟨rfl, rfl⟩, fun a b q => ⟨congrFun (dtRow_ne (fun e => q (by rw [e]; exact hk b))) b, rfl⟩⟩
theorem Fr.RJ {P : Nat → Nat → Prop} {μ : dtM} {k : Nat} {g : Nat → Int64} (hk : ∀ j, P k j) : Fr P μ (dtRJ μ k g) := ⟨rfl, rfl, ⟨rfl, rfl⟩, fun a b q => ⟨rfl, congrFun (dtRow_ne (fun e => q (by rw [e]; exact hk b))) b⟩⟩
theorem Fr.S {P : Nat → Nat → Prop} {μ μ' : dtM} (h : Fr P μ μ') : dtS μ' = dtS μ := h.2.2.1.1
theorem Fr.I {P : Nat → Nat → Prop} {μ μ' : dtM} (h : Fr P μ μ') {k : Nat} (q : ∀ j, ¬ P k j) : dtI μ' k = dtI μ k := funext fun j => (h.2.2.2 k j (q j)).1
theorem Fr.J {P : Nat → Nat → Prop} {μ μ' : dtM} (h : Fr P μ μ') {k : Nat} (q : ∀ j, ¬ P k j) : dtJ μ' k = dtJ μ k := funext fun j => (h.2.2.2 k j (q j)).2
theorem Fr.i {P : Nat → Nat → Prop} {μ μ' : dtM} (h : Fr P μ μ') {k j : Nat} (q : ¬ P k j) : dtI μ' k j = dtI μ k j := (h.2.2.2 k j q).1
theorem Fr.j {P : Nat → Nat → Prop} {μ μ' : dtM} (h : Fr P μ μ') {k j : Nat} (q : ¬ P k j) : dtJ μ' k j = dtJ μ k j := (h.2.2.2 k j q).2
theorem Fr.Ra {P : Nat → Nat → Prop} {μ μ' : dtM} (h : Fr P μ μ') : dtR μ' = dtR μ := h.2.2.1.2
theorem Fr.R {P : Nat → Nat → Prop} {μ μ' : dtM} (h : Fr P μ μ') {k : Nat} : dtR μ' k = dtR μ k := by rw [h.2.2.1.2]
theorem pRow_in {h t : Nat} (q : t < 20) : h + 3 ≤ pRow h t ∧ pRow h t ≤ h + 12 := by
  unfold pRow
  by_cases h1 : t < 3
  · rw [if_pos h1]; omega
  · rw [if_neg h1]
    by_cases h2 : t = 3
    · rw [if_pos h2]; omega
    · rw [if_neg h2]
      by_cases h3 : t < 8
      · rw [if_pos h3]; omega
      · rw [if_neg h3]
        by_cases h4 : t < 12
        · rw [if_pos h4]; omega
        · rw [if_neg h4]; omega
theorem hok_t {A : aH} {t i : Nat} (q : hok A t i) : t < 20 := by
  rcases q with q | q | q | q | q <;> omega
theorem PH.kept {P : Nat → Nat → Prop} {μ μ' : dtM} {h : Nat} {A : aH} (H : PH μ h A) (F : Fr P μ μ') (hP : ∀ k, h ≤ k → k ≤ h + 12 → ∀ j, ¬ P k j) : PH μ' h A := by
  have q0 := hP h (by omega) (by omega)
  refine ⟨?_, ⟨fun j hj => ?_, ?_, fun t i q => ?_, fun r hr => ?_, fun p hp => ?_⟩, H.2.2⟩
  · unfold pSh
    rw [F.S, F.R]
    exact H.1
  · rw [F.I q0]; exact H.2.1.1 j hj
  · rw [F.I q0]; exact H.2.1.2.1
  · have := pRow_in (h := h) (hok_t q)
    rw [F.I (hP _ (by omega) (by omega))]; exact H.2.1.2.2.1 t i q
  · rw [F.J (hP _ (by omega) (by omega))]; exact H.2.1.2.2.2.1 r hr
  · rw [F.J (hP _ (by omega) (by omega))]; exact H.2.1.2.2.2.2 p hp
theorem MH.kept {P : Nat → Nat → Prop} {μ μ' : dtM} {b nb : Nat} {A : aH} (H : MH μ b nb A) (F : Fr P μ μ') (hP : (∀ j, ¬ P 133 j) ∧ (∀ j, ¬ P 134 j) ∧ (∀ j, ¬ P 135 j)) : MH μ' b nb A := by
  refine ⟨?_, ?_, H.2.2⟩
  · unfold mSh
    rw [F.S, F.R]
    exact H.1
  · unfold mV
    rw [F.I hP.2.1, F.J hP.2.2]
    exact H.2.1
/-! signed differences -/
theorem z_tI {a : Nat} (h : a < 2147483648) : (Int32.ofNat a).toInt = a := Int32.toInt_ofNat_of_lt h
theorem z_subI {a b : Nat} (ha : a < 1073741824) (hb : b < 1073741824) : (Int32.ofNat a - Int32.ofNat b).toInt = (a : Int) - b := by
  rw [Int32.toInt_sub, z_tI (by omega), z_tI (by omega)]
  rw [Int.bmod_eq_of_le (by omega) (by omega)]
theorem z_sub_le {a b c : Nat} (ha : a < 1073741824) (hb : b < 1073741824) (hc : c < 1073741824) : (Int32.ofNat a - Int32.ofNat b ≤ Int32.ofNat c) = (a ≤ b + c) := by
  apply propext
  rw [Int32.le_iff_toInt_le, z_subI ha hb, z_tI (by omega)]
  omega
theorem z_abs {a b : Nat} (ha : a < 1073741824) (hb : b < 1073741824) : (if Int32.ofNat 0 ≤ Int32.ofNat a - Int32.ofNat b then Int32.ofNat a - Int32.ofNat b else Int32.ofNat 0 - (Int32.ofNat a - Int32.ofNat b)) = Int32.ofNat (a - b + (b - a)) := by
  by_cases h : b ≤ a
  · have e : Int32.ofNat a - Int32.ofNat b = Int32.ofNat (a - b) := z_sub h
    have e2 : Int32.ofNat 0 ≤ Int32.ofNat (a - b) := by rw [z_le (by decide) (by omega)]; omega
    rw [e, if_pos e2, show a - b + (b - a) = a - b by omega]
  · have e2 : ¬ (Int32.ofNat 0 ≤ Int32.ofNat a - Int32.ofNat b) := by
      rw [Int32.le_iff_toInt_le, z_subI ha hb, z_tI (by omega)]
      omega
    rw [if_neg e2, show a - b + (b - a) = b - a by omega]
    apply Int32.toInt_inj.mp
    rw [Int32.toInt_sub, z_subI ha hb, z_tI (show 0 < 2147483648 by omega), z_tI (show b - a < 2147483648 by omega)]
    rw [Int.bmod_eq_of_le (by omega) (by omega)]
    omega
theorem z_min {a b : Nat} (ha : a < 2147483648) (hb : b < 2147483648) : (if Int32.ofNat a < Int32.ofNat b then Int32.ofNat a else Int32.ofNat b) = Int32.ofNat (min a b) := by
  by_cases h : a < b
  · rw [if_pos (by rw [z_lt ha hb]; exact h), Nat.min_eq_left (by omega)]
  · rw [if_neg (by rw [z_lt ha hb]; exact h), Nat.min_eq_right (by omega)]
theorem z_max {a b : Nat} (ha : a < 2147483648) (hb : b < 2147483648) : (if Int32.ofNat a < Int32.ofNat b then Int32.ofNat b else Int32.ofNat a) = Int32.ofNat (max a b) := by
  by_cases h : a < b
  · rw [if_pos (by rw [z_lt ha hb]; exact h), Nat.max_eq_right (by omega)]
  · rw [if_neg (by rw [z_lt ha hb]; exact h), Nat.max_eq_left (by omega)]
