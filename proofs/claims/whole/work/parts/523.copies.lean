/-! PURE 63: the model's copies -/
abbrev Pcp (b : Nat) : Nat → Nat → Prop := fun k j => (k = 134 ∧ 504 * b ≤ j ∧ j < 504 * b + 504) ∨ (k = 135 ∧ 19 * b ≤ j ∧ j < 19 * b + 19)
theorem cp41 {a b : Nat} (ha : a < 4) (hb : b < 4) (hab : ¬ a = b) : ∀ (n f i : Nat) (μ : dtM), i + n = 19 → n < f → CX μ → ∃ μ', f_X12_copies_41 f 133 (Int32.ofNat a) (Int32.ofNat b) (Int32.ofNat i) μ = some μ' ∧ Fr (fun k j => k = 135 ∧ 19 * b + i ≤ j ∧ j < 19 * b + 19) μ μ' ∧ ∀ x, i ≤ x → x < 19 → dtJ μ' 135 (19 * b + x) = dtJ μ 135 (19 * a + x) := by
  intro n
  induction n with
  | zero =>
    intro f i μ e hf C
    cases f with
    | zero => omega
    | succ f =>
      refine ⟨μ, ?_, Fr.rf, fun x h1 h2 => absurd h2 (by omega)⟩
      rw [f_X12_copies_41, if_pos (show (19 : Int32) ≤ Int32.ofNat i by rw [show (19 : Int32) = Int32.ofNat 19 from rfl, z_le (by decide) (by omega)]; omega)]
  | succ n ih =>
    intro f i μ e hf C
    cases f with
    | zero => omega
    | succ f =>
      have F1 : Fr (fun k j => k = 135 ∧ 19 * b + i ≤ j ∧ j < 19 * b + 19) μ (dtSJ μ 135 (19 * b + i) (dtJ μ 135 (19 * a + i))) := Fr.SJ ⟨rfl, by omega, by omega⟩
      obtain ⟨μ2, e2, F2, g2⟩ := ih f (i + 1) _ (by omega) (by omega) (C.kept F1)
      refine ⟨μ2, ?_, F1.tr (F2.wide (fun k j x => ⟨x.1, by omega, by omega⟩)), fun x h1 h2 => ?_⟩
      · rw [← e2, f_X12_copies_41, if_neg (show ¬ (19 : Int32) ≤ Int32.ofNat i by rw [show (19 : Int32) = Int32.ofNat 19 from rfl, z_le (by decide) (by omega)]; omega), C.g133_1, o_bind, o_bind, show (19 : Int32) = Int32.ofNat 19 from rfl, z_mul, z_add, z_mul, z_add, o_LJ C.s135 (show 19 * a + i < 114 by omega) (by decide), o_bind, o_SJ C.s135 (show 19 * b + i < 114 by omega) (by decide), o_bind, show (1 : Int32) = Int32.ofNat 1 from rfl, z_add]
      · by_cases q : x = i
        · subst q
          rw [F2.j (by omega), m_J_SJ, if_pos ⟨rfl, rfl⟩]
        · rw [g2 x (by omega) h2, m_J_SJ, if_neg (by omega)]
theorem cp2 {a b : Nat} (ha : a < 4) (hb : b < 4) (hab : ¬ a = b) : ∀ (n f i : Nat) (μ : dtM), i + n = 504 → n < f → CX μ → ∃ μ', f_X12_copies_2 f 133 (Int32.ofNat a) (Int32.ofNat b) (Int32.ofNat i) μ = f_X12_copies_41 dtFuel 133 (Int32.ofNat a) (Int32.ofNat b) (0 : Int32) μ' ∧ Fr (fun k j => k = 134 ∧ 504 * b + i ≤ j ∧ j < 504 * b + 504) μ μ' ∧ ∀ x, i ≤ x → x < 504 → dtI μ' 134 (504 * b + x) = dtI μ 134 (504 * a + x) := by
  intro n
  induction n with
  | zero =>
    intro f i μ e hf C
    cases f with
    | zero => omega
    | succ f =>
      refine ⟨μ, ?_, Fr.rf, fun x h1 h2 => absurd h2 (by omega)⟩
      rw [f_X12_copies_2, if_pos (show (504 : Int32) ≤ Int32.ofNat i by rw [show (504 : Int32) = Int32.ofNat 504 from rfl, z_le (by decide) (by omega)]; omega)]
  | succ n ih =>
    intro f i μ e hf C
    cases f with
    | zero => omega
    | succ f =>
      have F1 : Fr (fun k j => k = 134 ∧ 504 * b + i ≤ j ∧ j < 504 * b + 504) μ (dtSI μ 134 (504 * b + i) (dtI μ 134 (504 * a + i))) := Fr.SI ⟨rfl, by omega, by omega⟩
      obtain ⟨μ2, e2, F2, g2⟩ := ih f (i + 1) _ (by omega) (by omega) (C.kept F1)
      refine ⟨μ2, ?_, F1.tr (F2.wide (fun k j x => ⟨x.1, by omega, by omega⟩)), fun x h1 h2 => ?_⟩
      · rw [← e2, f_X12_copies_2, if_neg (show ¬ (504 : Int32) ≤ Int32.ofNat i by rw [show (504 : Int32) = Int32.ofNat 504 from rfl, z_le (by decide) (by omega)]; omega), C.g133_0, o_bind, o_bind, show (504 : Int32) = Int32.ofNat 504 from rfl, z_mul, z_add, z_mul, z_add, o_LI C.s134 (show 504 * a + i < 2656 by omega) (by decide), o_bind, o_SI C.s134 (show 504 * b + i < 2656 by omega) (by decide), o_bind, show (1 : Int32) = Int32.ofNat 1 from rfl, z_add]
      · by_cases q : x = i
        · subst q
          rw [F2.i (by omega), m_I_SI, if_pos ⟨rfl, rfl⟩]
        · rw [g2 x (by omega) h2, m_I_SI, if_neg (by omega)]
theorem n_copies {a b : Nat} (ha : a < 4) (hb : b < 4) (hab : ¬ a = b) {μ : dtM} (C : CX μ) : ∃ μ', f_X12_copies 133 (Int32.ofNat a) (Int32.ofNat b) μ = some μ' ∧ Fr (Pcp b) μ μ' ∧ (∀ x, x < 504 → dtI μ' 134 (504 * b + x) = dtI μ 134 (504 * a + x)) ∧ ∀ x, x < 19 → dtJ μ' 135 (19 * b + x) = dtJ μ 135 (19 * a + x) := by
  obtain ⟨μ1, e1, F1, g1⟩ := cp2 ha hb hab 504 dtFuel 0 μ (by omega) (dtFuel_gt (by decide)) C
  obtain ⟨μ2, e2, F2, g2⟩ := cp41 ha hb hab 19 dtFuel 0 μ1 (by omega) (dtFuel_gt (by decide)) (C.kept F1)
  refine ⟨μ2, ?_, (F1.wide (fun k j x => Or.inl ⟨x.1, by omega, by omega⟩)).tr (F2.wide (fun k j x => Or.inr ⟨x.1, by omega, by omega⟩)), fun x hx => ?_, fun x hx => ?_⟩
  · rw [f_X12_copies]
    exact e1.trans e2
  · rw [F2.i (by omega)]; exact g1 x (Nat.zero_le _) hx
  · rw [g2 x (Nat.zero_le _) hx, F1.j (by omega)]
theorem MH.copied {P : Nat → Nat → Prop} {μ μ' : dtM} {A : aH} {a b : Nat} (H : MH μ (504 * a) (19 * a) A) (F : Fr P μ μ') (hI : ∀ x, x < 504 → dtI μ' 134 (504 * b + x) = dtI μ 134 (504 * a + x)) (hJ : ∀ x, x < 19 → dtJ μ' 135 (19 * b + x) = dtJ μ 135 (19 * a + x)) : MH μ' (504 * b) (19 * b) A := by
  obtain ⟨S, ⟨v1, v2, v3, v4, v5, v6⟩, W⟩ := H
  have hnr := W.1.1
  have hnw := W.1.2.2.1
  have hnp := W.1.2.2.2.1
  refine ⟨by unfold mSh; rw [F.S, F.Ra]; exact S, ⟨fun j hj => ?_, ?_, fun t i q => ?_, fun w k hw hk h4 => ?_, fun r hr => ?_, fun p hp => ?_⟩, W⟩
  · rw [hI j (by omega)]; exact v1 j hj
  · rw [hI 6 (by decide)]; exact v2
  · have := mIdx_in (hok_B W q)
    rw [hI _ (by omega)]; exact v3 t i q
  · have := mIdx_in (t := 4 + k) (i := w) ⟨by omega, by omega, by omega, by omega⟩
    rw [hI _ (by omega)]; exact v4 w k hw hk h4
  · rw [hJ r (by omega)]; exact v5 r hr
  · have := v6 p hp
    rw [Nat.add_assoc] at this ⊢
    rw [hJ (14 + p) (by omega)]; exact this
theorem MD.copied {μ μ' : dtM} {A : aH} {D : aD} {a b : Nat} (H : MD μ (504 * a) D) (W : dWF A D) (hI : ∀ x, x < 504 → dtI μ' 134 (504 * b + x) = dtI μ 134 (504 * a + x)) : MD μ' (504 * b) D := by
  have hX : ∀ x p q, x < 504 → p = 504 * b + x → q = 504 * a + x → dtI μ' 134 p = dtI μ 134 q := fun x p q h e1 e2 => by rw [e1, e2]; exact hI x h
  refine ⟨fun h => ?_, fun h => ⟨?_, fun k hk => ?_⟩⟩
  · rw [hI 7 (by decide)]; exact H.1 h
  · rw [hI 7 (by decide)]; exact (H.2 h).1
  · have hl := (W.2 h).1
    obtain ⟨m0, m1, m2, m3, m4, m5, m6⟩ := (H.2 h).2 k hk
    have hk60 : k < 60 := by omega
    refine ⟨?_, fun y => ?_, fun y => ?_, fun y => ?_, fun y => ?_, fun y => ?_, fun y => ?_⟩
    · exact (hX (136 + 6 * k) _ _ (by omega) (by omega) (by omega)).trans m0
    · exact (hX (136 + 6 * k + 1) _ _ (by omega) (by omega) (by omega)).trans (m1 y)
    · exact (hX (136 + 6 * k + 2) _ _ (by omega) (by omega) (by omega)).trans (m2 y)
    · exact (hX (136 + 6 * k + 1) _ _ (by omega) (by omega) (by omega)).trans (m3 y)
    · exact (hX (136 + 6 * k + 3) _ _ (by omega) (by omega) (by omega)).trans (m4 y)
    · exact (hX (136 + 6 * k + 5) _ _ (by omega) (by omega) (by omega)).trans (m5 y)
    · exact (hX (136 + 6 * k + 4) _ _ (by omega) (by omega) (by omega)).trans (m6 y)
