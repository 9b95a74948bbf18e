/-! PURE 999: a text taken -/
def toB (u : Nat → Int32) (k p : Int32) : aB := (0, u, k, p)
def tlM (μ : dtM) (k p : Int32) : dtM := dtSI (dtSI (dtSI μ 10 1 (Int32.ofNat 0)) 10 2 k) 10 3 p
theorem toB_W {u : Nat → Int32} {k p : Int32} : bWF (toB u k p) := ⟨Nat.zero_le _, fun j hj => absurd hj (Nat.not_lt_zero _)⟩
theorem tlM_F {μ : dtM} {k p : Int32} : Fr (fun k j => k = 10 ∧ 1 ≤ j ∧ j ≤ 3) μ (tlM μ k p) := ((Fr.SI ⟨rfl, by decide, by decide⟩).tr (Fr.SI ⟨rfl, by decide, by decide⟩)).tr (Fr.SI ⟨rfl, by decide, by decide⟩)
theorem tlM_B {μ : dtM} {k p : Int32} {u : Nat → Int32} : PB (tlM μ k p) (toB u k p) := by
  refine ⟨toB_W, ?_, fun j hj => absurd hj (Nat.not_lt_zero _), ?_, ?_⟩
  · unfold tlM
    rw [m_I_SI, if_neg (by omega), m_I_SI, if_neg (by omega), m_I_SI, if_pos ⟨rfl, rfl⟩]; rfl
  · unfold tlM
    rw [m_I_SI, if_neg (by omega), m_I_SI, if_pos ⟨rfl, rfl⟩]; rfl
  · unfold tlM
    rw [m_I_SI, if_pos ⟨rfl, rfl⟩]; rfl
theorem p_tell {μ : dtM} {c : Nat} {k p : Int32} (C : CX μ) (hc : c = 115 ∨ c = 119) (h8 : dtI μ c 8 = k) (h9 : dtI μ c 9 = p) : f_X7_tellFault 10 c (dtSI μ 10 1 (Int32.ofNat 0)) = some (tlM μ k p) := by
  have Ca : CX (dtSI μ 10 1 (Int32.ofNat 0)) := C.SI
  have Cb : CX (dtSI (dtSI μ 10 1 (Int32.ofNat 0)) 10 2 k) := Ca.SI
  have sa : dtS (dtSI μ 10 1 (Int32.ofNat 0)) c = (0, 8) := by
    rcases hc with rfl | rfl
    · exact Ca.s115
    · exact Ca.s119
  have sb : dtS (dtSI (dtSI μ 10 1 (Int32.ofNat 0)) 10 2 k) c = (0, 8) := sa
  rw [f_X7_tellFault, o_GI sa, m_I_SI, if_neg (by omega), h8, o_bind, o_PI Ca.s10, o_bind, o_GI sb, m_I_SI, if_neg (by omega), m_I_SI, if_neg (by omega), h9, o_bind, o_PI Cb.s10, o_bind]
  rfl
theorem p_clearD {μ : dtM} {g : Nat} (s : dtS μ g = (0, 0)) : ∃ μ', f_X0_clear g μ = some μ' ∧ Fr (fun k j => k = g ∧ j ≤ 2) μ μ' ∧ dtI μ' g 0 = Int32.ofNat 0 ∧ dtI μ' g 1 = Int32.ofNat 0 ∧ dtI μ' g 2 = Int32.ofNat 0 := by
  have s1 : dtS (dtSI μ g 0 (0 : Int32)) g = (0, 0) := s
  have s2 : dtS (dtSI (dtSI μ g 0 (0 : Int32)) g 1 (0 : Int32)) g = (0, 0) := s
  refine ⟨dtSI (dtSI (dtSI μ g 0 (0 : Int32)) g 1 (0 : Int32)) g 2 (0 : Int32), ?_, ((Fr.SI ⟨rfl, by decide⟩).tr (Fr.SI ⟨rfl, by decide⟩)).tr (Fr.SI ⟨rfl, by decide⟩), ?_, ?_, ?_⟩
  · rw [f_X0_clear, o_PZ0 s, o_bind, o_PI s1, o_bind, o_PI s2, o_bind]
  · rw [m_I_SI, if_neg (by omega), m_I_SI, if_neg (by omega), m_I_SI, if_pos ⟨rfl, rfl⟩]; rfl
  · rw [m_I_SI, if_neg (by omega), m_I_SI, if_pos ⟨rfl, rfl⟩]; rfl
  · rw [m_I_SI, if_pos ⟨rfl, rfl⟩]; rfl
theorem n_taken0 {μ : dtM} {v : Int32} (C : CX μ) (h : dtI μ 133 18 = Int32.ofNat 0) : f_X12_taken 133 v μ = some (v, dtSI (dtSI μ 133 16 (Int32.ofNat 0)) 133 2 (Int32.ofNat 0)) := by
  have Ca : CX (dtSI μ 133 16 (Int32.ofNat 0)) := C.SI
  rw [f_X12_taken, o_GI C.s133, h, o_bind, o_PI C.s133, o_bind, o_GI Ca.s133, m_I_SI, if_neg (by omega), h, o_bind, if_pos (show Int32.ofNat 0 ≤ (0 : Int32) by decide), Ca.v133, o_bind, n_gives Ca, o_call, f_X12_taken_29]
theorem n_taken9 {μ : dtM} {v : Int32} {w : Nat} (C : CX μ) (h : dtI μ 133 18 = Int32.ofNat w) (hw : 1 ≤ w ∧ w < 100) : f_X12_taken 133 v μ = some (-Int32.ofNat 1, dtSI (dtSI μ 133 16 (Int32.ofNat w)) 133 2 (Int32.ofNat 9)) := by
  have Ca : CX (dtSI μ 133 16 (Int32.ofNat w)) := C.SI
  rw [f_X12_taken, o_GI C.s133, h, o_bind, o_PI C.s133, o_bind, o_GI Ca.s133, m_I_SI, if_neg (by omega), h, o_bind, if_neg (show ¬ Int32.ofNat w ≤ (0 : Int32) by rw [show (0 : Int32) = Int32.ofNat 0 from rfl, z_le (by omega) (by decide)]; omega), Ca.v133, o_bind, show (9 : Int32) = Int32.ofNat 9 from rfl, n_refuse Ca, o_call, f_X12_taken_29]
/-! the model's house copied into its place -/
theorem ho90 : ∀ (n f i : Nat) (μ : dtM), i + n = 19 → n < f → CX μ → ∃ μ', f_X12_house_90 f 133 (Int32.ofNat i) μ = f_X12_house_117 133 μ' ∧ Fr (fun k j => k = 135 ∧ i ≤ j ∧ j < 19) μ μ' ∧ ∀ x, i ≤ x → x < 19 → dtJ μ' 135 x = dtJ μ 135 (76 + x) := by
  intro n
  induction n with
  | zero =>
    intro f i μ e hf C
    cases f with
    | zero => omega
    | succ f =>
      refine ⟨μ, ?_, Fr.rf, fun x h1 h2 => absurd h2 (by omega)⟩
      rw [f_X12_house_90, if_pos (show (19 : Int32) ≤ Int32.ofNat i by rw [show (19 : Int32) = Int32.ofNat 19 from rfl, z_le (by decide) (by omega)]; omega)]
  | succ n ih =>
    intro f i μ e hf C
    cases f with
    | zero => omega
    | succ f =>
      have F1 : Fr (fun k j => k = 135 ∧ i ≤ j ∧ j < 19) μ (dtSJ μ 135 i (dtJ μ 135 (76 + i))) := Fr.SJ ⟨rfl, Nat.le_refl _, by omega⟩
      obtain ⟨μ2, e2, F2, g2⟩ := ih f (i + 1) _ (by omega) (by omega) (C.kept F1)
      refine ⟨μ2, ?_, F1.tr (F2.wide (fun k j x => ⟨x.1, by omega, by omega⟩)), fun x h1 h2 => ?_⟩
      · rw [← e2, f_X12_house_90, if_neg (show ¬ (19 : Int32) ≤ Int32.ofNat i by rw [show (19 : Int32) = Int32.ofNat 19 from rfl, z_le (by decide) (by omega)]; omega), C.g133_1, o_bind, o_bind, show (76 : Int32) = Int32.ofNat 76 from rfl, z_add, o_LJ C.s135 (show 76 + i < 114 by omega) (by decide), o_bind, o_SJ C.s135 (show i < 114 by omega) (by decide), o_bind, show (1 : Int32) = Int32.ofNat 1 from rfl, z_add]
      · by_cases q : x = i
        · subst q
          rw [F2.j (by omega), m_J_SJ, if_pos ⟨rfl, rfl⟩]
        · rw [g2 x (by omega) h2, m_J_SJ, if_neg (by omega)]
theorem ho59 : ∀ (n f i : Nat) (μ : dtM), i + n = 504 → n < f → CX μ → ∃ μ', f_X12_house_59 f 133 (Int32.ofNat i) μ = f_X12_house_90 dtFuel 133 (0 : Int32) μ' ∧ Fr (fun k j => k = 134 ∧ i ≤ j ∧ j < 504) μ μ' ∧ ∀ x, i ≤ x → x < 504 → dtI μ' 134 x = dtI μ 134 (2016 + x) := by
  intro n
  induction n with
  | zero =>
    intro f i μ e hf C
    cases f with
    | zero => omega
    | succ f =>
      refine ⟨μ, ?_, Fr.rf, fun x h1 h2 => absurd h2 (by omega)⟩
      rw [f_X12_house_59, if_pos (show (504 : Int32) ≤ Int32.ofNat i by rw [show (504 : Int32) = Int32.ofNat 504 from rfl, z_le (by decide) (by omega)]; omega)]
  | succ n ih =>
    intro f i μ e hf C
    cases f with
    | zero => omega
    | succ f =>
      have F1 : Fr (fun k j => k = 134 ∧ i ≤ j ∧ j < 504) μ (dtSI μ 134 i (dtI μ 134 (2016 + i))) := Fr.SI ⟨rfl, Nat.le_refl _, by omega⟩
      obtain ⟨μ2, e2, F2, g2⟩ := ih f (i + 1) _ (by omega) (by omega) (C.kept F1)
      refine ⟨μ2, ?_, F1.tr (F2.wide (fun k j x => ⟨x.1, by omega, by omega⟩)), fun x h1 h2 => ?_⟩
      · rw [← e2, f_X12_house_59, if_neg (show ¬ (504 : Int32) ≤ Int32.ofNat i by rw [show (504 : Int32) = Int32.ofNat 504 from rfl, z_le (by decide) (by omega)]; omega), C.g133_0, o_bind, o_bind, show (2016 : Int32) = Int32.ofNat 2016 from rfl, z_add, o_LI C.s134 (show 2016 + i < 2656 by omega) (by decide), o_bind, o_SI C.s134 (show i < 2656 by omega) (by decide), o_bind, show (1 : Int32) = Int32.ofNat 1 from rfl, z_add]
      · by_cases q : x = i
        · subst q
          rw [F2.i (by omega), m_I_SI, if_pos ⟨rfl, rfl⟩]
        · rw [g2 x (by omega) h2, m_I_SI, if_neg (by omega)]
theorem n_puts {μ : dtM} {A : aH} (C : CX μ) (H : MH μ 2016 76 A) (h7 : dtI μ 134 2023 = -Int32.ofNat 1) (h0 : dtI μ 133 18 = Int32.ofNat 0) : ∃ μ', f_X12_house_50 133 μ = some (Int32.ofNat (hs A 3), dtSI (dtSI μ' 133 16 (Int32.ofNat 0)) 133 2 (Int32.ofNat 0)) ∧ Fr (fun k j => (k = 134 ∧ j < 504) ∨ (k = 135 ∧ j < 19)) μ μ' ∧ MH μ' 0 0 A ∧ dtI μ' 134 7 = -Int32.ofNat 1 := by
  obtain ⟨m1, e1, F1, g1⟩ := ho59 504 dtFuel 0 μ (by omega) (dtFuel_gt (by decide)) C
  have C1 := C.kept F1
  obtain ⟨m2, e2, F2, g2⟩ := ho90 19 dtFuel 0 m1 (by omega) (dtFuel_gt (by decide)) C1
  have C2 := C1.kept F2
  have FF : Fr (fun k j => (k = 134 ∧ j < 504) ∨ (k = 135 ∧ j < 19)) μ m2 := (F1.wide (fun k j x => Or.inl ⟨x.1, x.2.2⟩)).tr (F2.wide (fun k j x => Or.inr ⟨x.1, x.2.2⟩))
  have gI : ∀ x, x < 504 → dtI m2 134 (504 * 0 + x) = dtI μ 134 (504 * 4 + x) := fun x hx => by
    rw [show 504 * 0 + x = x by omega, show 504 * 4 + x = 2016 + x by omega, F2.i (by omega)]; exact g1 x (Nat.zero_le _) hx
  have gJ : ∀ x, x < 19 → dtJ m2 135 (19 * 0 + x) = dtJ μ 135 (19 * 4 + x) := fun x hx => by
    rw [show 19 * 0 + x = x by omega, show 19 * 4 + x = 76 + x by omega, g2 x (Nat.zero_le _) hx, F1.j (by omega)]
  have M2 : MH m2 0 0 A := MH.copied (a := 4) (b := 0) H FF gI gJ
  have e1' : f_X12_house_59 dtFuel 133 (0 : Int32) μ = f_X12_house_90 dtFuel 133 (0 : Int32) m1 := e1
  have e2' : f_X12_house_90 dtFuel 133 (0 : Int32) m1 = f_X12_house_117 133 m2 := e2
  refine ⟨m2, ?_, FF, M2, ?_⟩
  · rw [f_X12_house_50, o_GI C.s133, h0, o_bind, if_pos (by decide), e1', e2', f_X12_house_117, C2.g133_0, o_bind, show (3 : Int32) = Int32.ofNat 3 from rfl, M2.g3, o_bind, C2.v133, o_bind, n_taken0 C2 (by rw [FF.i (by omega)]; exact h0), o_call]
  · rw [F2.i (by omega), g1 7 (by decide) (by decide)]; exact h7
theorem n_putsNo {μ : dtM} {w : Nat} (C : CX μ) (h : dtI μ 133 18 = Int32.ofNat w) (hw : 1 ≤ w ∧ w < 100) : f_X12_house_50 133 μ = some (-Int32.ofNat 1, dtSI (dtSI μ 133 16 (Int32.ofNat w)) 133 2 (Int32.ofNat 9)) := by
  rw [f_X12_house_50, o_GI C.s133, h, o_bind, if_neg (show ¬ Int32.ofNat w = (0 : Int32) by rw [show (0 : Int32) = Int32.ofNat 0 from rfl, z_eq (by omega) (by decide)]; omega), f_X12_house_117, C.g133_0, o_bind, show (3 : Int32) = Int32.ofNat 3 from rfl, o_LI C.s134 (by decide) (by decide), o_bind, C.v133, o_bind, n_taken9 C h hw, o_call]
