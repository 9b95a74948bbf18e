/-! PURE 998: a text begun, the model -/
def bgT (μ : dtM) : Option (Int32 × dtM) := (opPI 12 10 μ 133 (0 : Int32)).bind fun μ4 => (opPI 12 18 μ4 133 (0 : Int32)).bind fun μ6 => (opPI 12 17 μ6 133 (-1 : Int32)).bind fun μ8 => (opPI 12 14 μ8 133 (0 : Int32)).bind fun μ10 => (opPI 12 19 μ10 133 (0 : Int32)).bind fun μ12 => (opRv 12 μ12 133).bind fun _ => (f_X12_ahead 133 μ12).bind fun μ15 => opRet (1 : Int32) μ15
theorem bg26 {n : Nat} (n9 : n ≤ 900) : ∀ (m f i : Nat) (μ : dtM), i + m = n → m < f → CX μ → (∀ j, j < n → isB (dtI μ 139 j)) → ∃ μ', f_X12_begins_26 f 133 (Int32.ofNat n) (Int32.ofNat i) μ = bgT μ' ∧ Fr (fun k j => k = 140 ∧ i ≤ j) μ μ' ∧ ∀ j, i ≤ j → j < n → dtI μ' 140 j = dtI μ 139 j := by
  intro m
  induction m with
  | zero =>
    intro f i μ e hf C hb
    cases f with
    | zero => omega
    | succ f =>
      refine ⟨μ, ?_, Fr.rf, fun j h1 h2 => absurd h2 (by omega)⟩
      rw [f_X12_begins_26, if_pos (show Int32.ofNat n ≤ Int32.ofNat i by rw [z_le (by omega) (by omega)]; omega)]; rfl
  | succ m ih =>
    intro f i μ e hf C hb
    cases f with
    | zero => omega
    | succ f =>
      have F1 : Fr (fun k j => k = 140 ∧ i ≤ j) μ (dtSI μ 140 i (dtI μ 139 i)) := Fr.SI ⟨rfl, Nat.le_refl _⟩
      have g : ∀ j, dtI (dtSI μ 140 i (dtI μ 139 i)) 139 j = dtI μ 139 j := fun j => by rw [m_I_SI, if_neg (by omega)]
      obtain ⟨μ2, e2, F2, g2⟩ := ih f (i + 1) _ (by omega) (by omega) (C.kept F1) (fun j hj => by rw [g]; exact hb j hj)
      refine ⟨μ2, ?_, F1.tr (F2.wide (fun k j x => ⟨x.1, by omega⟩)), fun j h1 h2 => ?_⟩
      · rw [← e2, f_X12_begins_26, if_neg (show ¬ Int32.ofNat n ≤ Int32.ofNat i by rw [z_le (by omega) (by omega)]; omega), C.g133_9, o_bind, C.g133_8, o_bind, o_LI C.s139 (show i < 900 by omega) (by decide), o_bind, o_SB C.s140 (show i < 900 by omega) (by decide), o_bind, isB_nar (hb i (by omega)), show (1 : Int32) = Int32.ofNat 1 from rfl, z_add]
      · by_cases q : j = i
        · subst q
          rw [F2.i (by omega), m_I_SI, if_pos ⟨rfl, rfl⟩]
        · rw [g2 j (by omega) h2, g]
abbrev Mbg : Nat → Nat → Prop := fun k j => (k = 133 ∧ 10 ≤ j ∧ j ≤ 19 ∧ ¬ j = 16) ∨ k = 140
theorem n_begin {μ : dtM} {B : aB} {n most : Nat} (C : CX μ) (H : MB μ B) (hn : n ≤ B.1) (hm : n ≤ most ∧ most ≤ 900) : ∃ μ', f_X12_begins 133 (Int32.ofNat n) (Int32.ofNat most) μ = some (bI true, μ') ∧ Fr Mbg μ μ' ∧ dtI μ' 133 10 = Int32.ofNat 0 ∧ MTk μ' n B.2.1 0 ∧ M0f μ' := by
  have n9 := H.1.1
  have F0 : Fr Mbg μ (dtSI μ 133 11 (Int32.ofNat n)) := Fr.SI (Or.inl ⟨rfl, by decide, by decide, by decide⟩)
  have C0 := C.kept F0
  have g0 : ∀ j, dtI (dtSI μ 133 11 (Int32.ofNat n)) 139 j = dtI μ 139 j := fun j => by rw [m_I_SI, if_neg (by omega)]
  obtain ⟨m0, e0, F1, g1⟩ := bg26 (n := n) (by omega) n dtFuel 0 _ (by omega) (dtFuel_gt (by omega)) C0 (fun j hj => by rw [g0, H.2.2.1 j (by omega)]; exact H.1.2 j (by omega))
  have F1' : Fr Mbg (dtSI μ 133 11 (Int32.ofNat n)) m0 := F1.wide (fun k j x => Or.inr x.1)
  have C1 := C0.kept F1
  obtain ⟨m1, hm1⟩ : ∃ m, m = dtSI m0 133 10 (Int32.ofNat 0) := ⟨_, rfl⟩
  obtain ⟨m2, hm2⟩ : ∃ m, m = dtSI m1 133 18 (Int32.ofNat 0) := ⟨_, rfl⟩
  obtain ⟨m3, hm3⟩ : ∃ m, m = dtSI m2 133 17 (-Int32.ofNat 1) := ⟨_, rfl⟩
  obtain ⟨m4, hm4⟩ : ∃ m, m = dtSI m3 133 14 (Int32.ofNat 0) := ⟨_, rfl⟩
  obtain ⟨m5, hm5⟩ : ∃ m, m = dtSI m4 133 19 (Int32.ofNat 0) := ⟨_, rfl⟩
  have G1 : Fr (fun k j => k = 133 ∧ (j = 10 ∨ j = 18 ∨ j = 17 ∨ j = 14 ∨ j = 19)) m0 m1 := by rw [hm1]; exact Fr.SI ⟨rfl, by decide⟩
  have G2 : Fr (fun k j => k = 133 ∧ (j = 10 ∨ j = 18 ∨ j = 17 ∨ j = 14 ∨ j = 19)) m1 m2 := by rw [hm2]; exact Fr.SI ⟨rfl, by decide⟩
  have G3 : Fr (fun k j => k = 133 ∧ (j = 10 ∨ j = 18 ∨ j = 17 ∨ j = 14 ∨ j = 19)) m2 m3 := by rw [hm3]; exact Fr.SI ⟨rfl, by decide⟩
  have G4 : Fr (fun k j => k = 133 ∧ (j = 10 ∨ j = 18 ∨ j = 17 ∨ j = 14 ∨ j = 19)) m3 m4 := by rw [hm4]; exact Fr.SI ⟨rfl, by decide⟩
  have G5 : Fr (fun k j => k = 133 ∧ (j = 10 ∨ j = 18 ∨ j = 17 ∨ j = 14 ∨ j = 19)) m4 m5 := by rw [hm5]; exact Fr.SI ⟨rfl, by decide⟩
  have D1 := C1.kept G1
  have D2 := D1.kept G2
  have D3 := D2.kept G3
  have D4 := D3.kept G4
  have D5 := D4.kept G5
  have GG := (((G1.tr G2).tr G3).tr G4).tr G5
  have T : TXM m5 n B.2.1 := by
    refine ⟨D5, by omega, fun j hj => ⟨?_, H.1.2 j (by omega)⟩, ?_⟩
    · rw [GG.i (by omega), g1 j (Nat.zero_le _) hj, g0, H.2.2.1 j (by omega)]
    · rw [GG.i (by omega), F1.i (by omega), m_I_SI, if_pos ⟨rfl, rfl⟩]
  obtain ⟨μ', e6, F6, K⟩ := n_ahead T (Nat.zero_le n) (show dtI m5 133 14 = Int32.ofNat 0 by rw [hm5, m_I_SI, if_neg (by omega), hm4, m_I_SI, if_pos ⟨rfl, rfl⟩])
  refine ⟨μ', ?_, ((F0.tr F1').tr (GG.wide (fun k j x => by omega))).tr (F6.wide (fun k j x => Or.inl ⟨x.1, by omega, by omega, by omega⟩)), ?_, K, ?_⟩
  · have b1 : f_X12_begins_26 dtFuel 133 (Int32.ofNat n) (0 : Int32) (dtSI μ 133 11 (Int32.ofNat n)) = bgT m0 := e0
    have g10 : opGI 12 10 μ 133 = some (Int32.ofNat B.1) := by rw [o_GI C.s133, H.2.1]
    rw [f_X12_begins, if_neg (show ¬ Int32.ofNat n < 0 by rw [show (0 : Int32) = Int32.ofNat 0 from rfl, z_lt0 (by omega)]; exact id), g10, o_bind, if_neg (show ¬ Int32.ofNat B.1 < Int32.ofNat n by rw [z_lt (by omega) (by omega)]; omega), if_pos (show Int32.ofNat n ≤ Int32.ofNat most by rw [z_le (by omega) (by omega)]; omega), o_PI C.s133, o_bind, b1, bgT, show (0 : Int32) = Int32.ofNat 0 from rfl, show (-1 : Int32) = -Int32.ofNat 1 from rfl, o_PI C1.s133, o_bind, ← hm1, o_PI D1.s133, o_bind, ← hm2, o_PI D2.s133, o_bind, ← hm3, o_PI D3.s133, o_bind, ← hm4, o_PI D4.s133, o_bind, ← hm5, D5.v133, o_bind, e6, o_bind, show (1 : Int32) = Int32.ofNat 1 from rfl, o_ret1']
  · rw [F6.i (fun x => by have : 133 = 133 ∧ 12 ≤ 10 ∧ 10 ≤ 15 := x; omega), hm5, m_I_SI, if_neg (by omega), hm4, m_I_SI, if_neg (by omega), hm3, m_I_SI, if_neg (by omega), hm2, m_I_SI, if_neg (by omega), hm1, m_I_SI, if_pos ⟨rfl, rfl⟩]
  · have h0 : M0f m5 := by
      refine ⟨?_, ?_⟩
      · rw [hm5, m_I_SI, if_neg (by omega), hm4, m_I_SI, if_neg (by omega), hm3, m_I_SI, if_neg (by omega), hm2, m_I_SI, if_pos ⟨rfl, rfl⟩]
      · rw [hm5, m_I_SI, if_neg (by omega), hm4, m_I_SI, if_neg (by omega), hm3, m_I_SI, if_pos ⟨rfl, rfl⟩]
    exact h0.tk F6
theorem n_beginX {μ : dtM} {B : aB} {most : Nat} {x : Int32} (C : CX μ) (H : MB μ B) (hm : most ≤ 900) (h : x < 0 ∨ ∃ n, n < 2147483648 ∧ x = Int32.ofNat n ∧ (B.1 < n ∨ most < n)) : f_X12_begins 133 x (Int32.ofNat most) μ = some (bI false, μ) := by
  have n9 := H.1.1
  have e17 : f_X12_begins_17 μ = some (bI false, μ) := by rw [f_X12_begins_17, show (0 : Int32) = Int32.ofNat 0 from rfl, o_ret0']
  rcases h with h | ⟨n, hn, rfl, h⟩
  · rw [f_X12_begins, if_pos h, e17]
  · have g10 : opGI 12 10 μ 133 = some (Int32.ofNat B.1) := by rw [o_GI C.s133, H.2.1]
    rw [f_X12_begins, if_neg (show ¬ Int32.ofNat n < 0 by rw [show (0 : Int32) = Int32.ofNat 0 from rfl, z_lt0 (by omega)]; exact id), g10, o_bind]
    by_cases q : B.1 < n
    · rw [if_pos (show Int32.ofNat B.1 < Int32.ofNat n by rw [z_lt (by omega) (by omega)]; omega), e17]
    · rw [if_neg (show ¬ Int32.ofNat B.1 < Int32.ofNat n by rw [z_lt (by omega) (by omega)]; omega), if_neg (show ¬ Int32.ofNat n ≤ Int32.ofNat most by rw [z_le (by omega) (by omega)]; omega), e17]
/-! a plain row -/
def plT (b : Nat) (μ : dtM) : Option dtM := (opGR 12 0 μ 133).bind fun x4 => (opSI μ x4 (Int32.ofNat b + (4 : Int32)) (4 : Int32)).bind fun μ6 => (opGR 12 0 μ6 133).bind fun x8 => (opSI μ6 x8 (Int32.ofNat b + (7 : Int32)) (-1 : Int32)).bind fun μ10 => some μ10
theorem pl2 {b : Nat} (hb : b + 504 ≤ 2656) : ∀ (m f i : Nat) (μ : dtM), i + m = 504 → m < f → CX μ → ∃ μ', f_X12_plain_2 f 133 (Int32.ofNat b) (Int32.ofNat i) μ = plT b μ' ∧ Fr (fun k j => k = 134 ∧ b + i ≤ j ∧ j < b + 504) μ μ' ∧ ∀ j, i ≤ j → j < 504 → dtI μ' 134 (b + j) = Int32.ofNat 0 := by
  intro m
  induction m with
  | zero =>
    intro f i μ e hf C
    cases f with
    | zero => omega
    | succ f =>
      refine ⟨μ, ?_, Fr.rf, fun j h1 h2 => absurd h2 (by omega)⟩
      rw [f_X12_plain_2, if_pos (show (504 : Int32) ≤ Int32.ofNat i by rw [show (504 : Int32) = Int32.ofNat 504 from rfl, z_le (by decide) (by omega)]; omega)]; rfl
  | succ m ih =>
    intro f i μ e hf C
    cases f with
    | zero => omega
    | succ f =>
      have F1 : Fr (fun k j => k = 134 ∧ b + i ≤ j ∧ j < b + 504) μ (dtSI μ 134 (b + i) (Int32.ofNat 0)) := Fr.SI ⟨rfl, by omega, by omega⟩
      obtain ⟨μ2, e2, F2, g2⟩ := ih f (i + 1) _ (by omega) (by omega) (C.kept F1)
      refine ⟨μ2, ?_, F1.tr (F2.wide (fun k j x => ⟨x.1, by omega, by omega⟩)), fun j h1 h2 => ?_⟩
      · rw [← e2, f_X12_plain_2, if_neg (show ¬ (504 : Int32) ≤ Int32.ofNat i by rw [show (504 : Int32) = Int32.ofNat 504 from rfl, z_le (by decide) (by omega)]; omega), C.g133_0, o_bind, z_add, show (0 : Int32) = Int32.ofNat 0 from rfl, o_SI C.s134 (show b + i < 2656 by omega) (by decide), o_bind, show (1 : Int32) = Int32.ofNat 1 from rfl, z_add]
      · by_cases q : j = i
        · subst q
          rw [F2.i (by omega), m_I_SI, if_pos ⟨rfl, rfl⟩]
        · exact g2 j (by omega) h2
theorem n_plain {μ : dtM} {b : Nat} (hb : b + 504 ≤ 2656) (C : CX μ) : ∃ μ', f_X12_plain 133 (Int32.ofNat b) μ = some μ' ∧ Fr (fun k j => k = 134 ∧ b ≤ j ∧ j < b + 504) μ μ' ∧ dtI μ' 134 (b + 4) = Int32.ofNat 4 ∧ dtI μ' 134 (b + 7) = -Int32.ofNat 1 ∧ ∀ j, j < 504 → ¬ j = 4 → ¬ j = 7 → dtI μ' 134 (b + j) = Int32.ofNat 0 := by
  obtain ⟨m1, e1, F1, g1⟩ := pl2 hb 504 dtFuel 0 μ (by omega) (dtFuel_gt (by decide)) C
  have C1 := C.kept F1
  have F2 : Fr (fun k j => k = 134 ∧ b ≤ j ∧ j < b + 504) m1 (dtSI m1 134 (b + 4) (Int32.ofNat 4)) := Fr.SI ⟨rfl, by omega, by omega⟩
  have C2 := C1.kept F2
  refine ⟨dtSI (dtSI m1 134 (b + 4) (Int32.ofNat 4)) 134 (b + 7) (-Int32.ofNat 1), ?_, ((F1.wide (fun k j x => ⟨x.1, by omega, by omega⟩)).tr F2).tr (Fr.SI ⟨rfl, by omega, by omega⟩), ?_, ?_, fun j hj h4 h7 => ?_⟩
  · have e1' : f_X12_plain_2 dtFuel 133 (Int32.ofNat b) (0 : Int32) μ = plT b m1 := e1
    rw [f_X12_plain, e1', plT, C1.g133_0, o_bind, show (4 : Int32) = Int32.ofNat 4 from rfl, z_add, o_SI C1.s134 (show b + 4 < 2656 by omega) (by decide), o_bind, C2.g133_0, o_bind, show (7 : Int32) = Int32.ofNat 7 from rfl, z_add, show (-1 : Int32) = -Int32.ofNat 1 from rfl, o_SI C2.s134 (show b + 7 < 2656 by omega) (by decide), o_bind]
  · rw [m_I_SI, if_neg (by omega), m_I_SI, if_pos ⟨rfl, rfl⟩]
  · rw [m_I_SI, if_pos ⟨rfl, rfl⟩]
  · rw [m_I_SI, if_neg (by omega), m_I_SI, if_neg (by omega)]; exact g1 j (Nat.zero_le _) hj
/-- a plain row is an empty house -/
theorem MH.plain {μ : dtM} {b nb : Nat} (C : CX μ) (h4 : dtI μ 134 (b + 4) = Int32.ofNat 4) (h : ∀ j, j < 504 → ¬ j = 4 → ¬ j = 7 → dtI μ 134 (b + j) = Int32.ofNat 0) : MH μ b nb hE := by
  refine ⟨C.mSh, ⟨fun j hj => ?_, h 6 (by decide) (by decide) (by decide), fun t i q => (hE_ok q).elim, fun w k hw => absurd hw (Nat.not_lt_zero _), fun r hr => absurd hr (Nat.not_lt_zero _), fun p hp => absurd hp (Nat.not_lt_zero _)⟩, hE_W⟩
  by_cases e : j = 4
  · subst e; exact h4
  · rw [hE_s e]; exact h j (by omega) e (by omega)
