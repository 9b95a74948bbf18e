/-! PURE 63: the model's copies -/
abbrev Pcp (b : Nat) : Nat → Nat → Prop := fun k j => (k = 134 ∧ 504 * b ≤ j ∧ j < 504 * b + 504) ∨ (k = 135 ∧ 19 * b ≤ j ∧ j < 19 * b + 19)
theorem cp41 {a b : Nat} (ha : a < 4) (hb : b < 4) (hab : ¬ a = b) : ∀ (n f i : Nat) (μ : dtM), i + n = 19 → n < f → CX μ → ∃ μ', f_X12_copies_41 f 133 (Int32.ofNat a) (Int32.ofNat b) (Int32.ofNat i) μ = some μ' ∧ Fr (fun k j => k = 135 ∧ 19 * b + i ≤ j ∧ j < 19 * b + 19) μ μ' ∧ ∀ x, i ≤ x → x < 19 → dtJ μ' 135 (19 * b + x) = dtJ μ 135 (19 * a + x) := by
  intro n
  induction n with
  | zero =>
    intro f i μ e hf C
    cases f with
    | zero => omega
    | succ f =>
      refine ⟨μ, ?_, Fr.rf, fun x h1 h2 => absurd h2 (by omega)⟩
      rw [f_X12_copies_41, if_pos (show (19 : Int32) ≤ Int32.ofNat i by rw [show (19 : Int32) = Int32.ofNat 19 from rfl, z_le (by decide) (by omega)]; omega)]
  | succ n ih =>
    intro f i μ e hf C
    cases f with
    | zero => omega
    | succ f =>
      have F1 : Fr (fun k j => k = 135 ∧ 19 * b + i ≤ j ∧ j < 19 * b + 19) μ (dtSJ μ 135 (19 * b + i) (dtJ μ 135 (19 * a + i))) := Fr.SJ ⟨rfl, by omega, by omega⟩
      obtain ⟨μ2, e2, F2, g2⟩ := ih f (i + 1) _ (by omega) (by omega) (C.kept F1)
      refine ⟨μ2, ?_, F1.tr (F2.wide (fun k j x => ⟨x.1, by omega, by omega⟩)), fun x h1 h2 => ?_⟩
      · rw [← e2, f_X12_copies_41, if_neg (show ¬ (19 : Int32) ≤ Int32.ofNat i by rw [show (19 : Int32) = Int32.ofNat 19 from rfl, z_le (by decide) (by omega)]; omega), C.g133_1, o_bind, o_bind, show (19 : Int32) = Int32.ofNat 19 from rfl, z_mul, z_add, z_mul, z_add, o_LJ C.s135 (show 19 * a + i < 114 by omega) (by decide), o_bind, o_SJ C.s135 (show 19 * b + i < 114 by omega) (by decide), o_bind, show (1 : Int32) = Int32.ofNat 1 from rfl, z_add]
      · by_cases q : x = i
        · subst q
          rw [F2.j (by omega), m_J_SJ, if_pos ⟨rfl, rfl⟩]
        · rw [g2 x (by omega) h2, m_J_SJ, if_neg (by omega)]
theorem cp2 {a b : Nat} (ha : a < 4) (hb : b < 4) (hab : ¬ a = b) : ∀ (n f i : Nat) (μ : dtM), i + n = 504 → n < f → CX μ → ∃ μ', f_X12_copies_2 f 133 (Int32.ofNat a) (Int32.ofNat b) (Int32.ofNat i) μ = f_X12_copies_41 dtFuel 133 (Int32.ofNat a) (Int32.ofNat b) (0 : Int32) μ' ∧ Fr (fun k j => k = 134 ∧ 504 * b + i ≤ j ∧ j < 504 * b + 504) μ μ' ∧ ∀ x, i ≤ x → x < 504 → dtI μ' 134 (504 * b + x) = dtI μ 134 (504 * a + x) := by
  intro n
  induction n with
  | zero =>
    intro f i μ e hf C
    cases f with
    | zero => omega
    | succ f =>
      refine ⟨μ, ?_, Fr.rf, fun x h1 h2 => absurd h2 (by omega)⟩
      rw [f_X12_copies_2, if_pos (show (504 : Int32) ≤ Int32.ofNat i by rw [show (504 : Int32) = Int32.ofNat 504 from rfl, z_le (by decide) (by omega)]; omega)]
  | succ n ih =>
    intro f i μ e hf C
    cases f with
    | zero => omega
    | succ f =>
      have F1 : Fr (fun k j => k = 134 ∧ 504 * b + i ≤ j ∧ j < 504 * b + 504) μ (dtSI μ 134 (504 * b + i) (dtI μ 134 (504 * a + i))) := Fr.SI ⟨rfl, by omega, by omega⟩
      obtain ⟨μ2, e2, F2, g2⟩ := ih f (i + 1) _ (by omega) (by omega) (C.kept F1)
      refine ⟨μ2, ?_, F1.tr (F2.wide (fun k j x => ⟨x.1, by omega, by omega⟩)), fun x h1 h2 => ?_⟩
      · rw [← e2, f_X12_copies_2, if_neg (show ¬ (504 : Int32) ≤ Int32.ofNat i by rw [show (504 : Int32) = Int32.ofNat 504 from rfl, z_le (by decide) (by omega)]; omega), C.g133_0, o_bind, o_bind, show (504 : Int32) = Int32.ofNat 504 from rfl, z_mul, z_add, z_mul, z_add, o_LI C.s134 (show 504 * a + i < 2656 by omega) (by decide), o_bind, o_SI C.s134 (show 504 * b + i < 2656 by omega) (by decide), o_bind, show (1 : Int32) = Int32.ofNat 1 from rfl, z_add]
      · by_cases q : x = i
        · subst q
          rw [F2.i (by omega), m_I_SI, if_pos ⟨rfl, rfl⟩]
        · rw [g2 x (by omega) h2, m_I_SI, if_neg (by omega)]
theorem n_copies {a b : Nat} (ha : a < 4) (hb : b < 4) (hab : ¬ a = b) {μ : dtM} (C : CX μ) : ∃ μ', f_X12_copies 133 (Int32.ofNat a) (Int32.ofNat b) μ = some μ' ∧ Fr (Pcp b) μ μ' ∧ (∀ x, x < 504 → dtI μ' 134 (504 * b + x) = dtI μ 134 (504 * a + x)) ∧ ∀ x, x < 19 → dtJ μ' 135 (19 * b + x) = dtJ μ 135 (19 * a + x) := by
  obtain ⟨μ1, e1, F1, g1⟩ := cp2 ha hb hab 504 dtFuel 0 μ (by omega) (dtFuel_gt (by decide)) C
  obtain ⟨μ2, e2, F2, g2⟩ := cp41 ha hb hab 19 dtFuel 0 μ1 (by omega) (dtFuel_gt (by decide)) (C.kept F1)
  refine ⟨μ2, ?_, (F1.wide (fun k j x => Or.inl ⟨x.1, by omega, by omega⟩)).tr (F2.wide (fun k j x => Or.inr ⟨x.1, by omega, by omega⟩)), fun x hx => ?_, fun x hx => ?_⟩
  · rw [f_X12_copies]
    exact e1.trans e2
  · rw [F2.i (by omega)]; exact g1 x (Nat.zero_le _) hx
  · rw [g2 x (Nat.zero_le _) hx, F1.j (by omega)]
