/-! PURE 24: a sound is kept, the model's side -/
theorem mSh.r0 {μ : dtM} (S : mSh μ) : opGR 12 0 μ 133 = some 134 := o_GR S.1 S.2.1
theorem mSh.s {μ : dtM} (S : mSh μ) : dtS μ 134 = (1, 2656) := S.2.2.1
theorem mSh.SI {μ : dtM} {j : Nat} {v : Int32} (S : mSh μ) : mSh (dtSI μ 134 j v) := by
  unfold mSh
  rw [m_S_SI, m_R_SI]; exact S
theorem ks70 {μ : dtM} {row n s : Nat} (S : mSh μ) (hr : row + 12 < 136) (hn : n < 8) (hv : dtI μ 134 (row + 3) = Int32.ofNat n) : f_X12_keepsSound_70 133 (Int32.ofNat s) (Int32.ofNat row) μ = some (dtSI (dtSI μ 134 (row + 4 + n) (Int32.ofNat s)) 134 (row + 3) (Int32.ofNat (n + 1))) := by
  have S1 : mSh (dtSI μ 134 (row + 4 + n) (Int32.ofNat s)) := S.SI
  have e1 : opLI 1 μ 134 (Int32.ofNat (row + 3)) = some (Int32.ofNat n) := by rw [o_LI S.s (by omega) (by decide), hv]
  have e2 : opLI 1 (dtSI μ 134 (row + 4 + n) (Int32.ofNat s)) 134 (Int32.ofNat (row + 3)) = some (Int32.ofNat n) := by
    rw [o_LI S1.s (by omega) (by decide), m_I_SI, if_neg (by omega), hv]
  simp only [f_X12_keepsSound_70, S.r0, o_bind, z_lit, z_add, e1, o_SI S.s (show row + 4 + n < 2656 by omega) (by decide), S1.r0, e2, o_SI S1.s (show row + 3 < 2656 by omega) (by decide)]
theorem ks21 {row s : Nat} (hr : 75 ≤ row ∧ row + 12 < 136) : ∀ (n f i : Nat) (μ : dtM), i + n = 8 → 1 ≤ i → n < f → mSh μ → dtI μ 134 (row + 3) = Int32.ofNat 8 → ∃ μ', f_X12_keepsSound_21 f 133 (Int32.ofNat s) (Int32.ofNat row) (Int32.ofNat i) μ = f_X12_keepsSound_70 133 (Int32.ofNat s) (Int32.ofNat row) (dtSI μ' 134 (row + 3) (Int32.ofNat 7)) ∧ Fr P134 μ μ' ∧ ∀ j, dtI μ' 134 j = if row + 4 + i - 1 ≤ j ∧ j < row + 11 then dtI μ 134 (j + 1) else dtI μ 134 j := by
  intro n
  induction n with
  | zero =>
    intro f i μ e h1 hf S hv
    cases f with
    | zero => omega
    | succ f =>
      have e1 : opLI 1 μ 134 (Int32.ofNat (row + 3)) = some (Int32.ofNat 8) := by rw [o_LI S.s (by omega) (by decide), hv]
      simp only [f_X12_keepsSound_21, z_lit, z_le (show 8 < 2147483648 by decide) (show i < 2147483648 by omega), S.r0, o_bind, z_add, e1, z_sub (show 1 ≤ 8 by decide), o_SI S.s (show row + 3 < 2656 by omega) (by decide)]
      rw [if_pos (by omega)]
      exact ⟨μ, rfl, Fr.rf, fun j => by rw [if_neg (by omega)]⟩
  | succ n ih =>
    intro f i μ e h1 hf S hv
    cases f with
    | zero => omega
    | succ f =>
      have F1 : Fr P134 μ (dtSI μ 134 (row + 4 + i - 1) (dtI μ 134 (row + 4 + i))) := Fr.SI ⟨rfl, by omega⟩
      have S1 : mSh (dtSI μ 134 (row + 4 + i - 1) (dtI μ 134 (row + 4 + i))) := S.SI
      obtain ⟨μ', e', F', g'⟩ := ih f (i + 1) _ (by omega) (by omega) (by omega) S1 (by rw [m_I_SI, if_neg (by omega), hv])
      refine ⟨μ', ?_, F1.tr F', fun j => ?_⟩
      · rw [← e']
        simp only [f_X12_keepsSound_21, z_lit, z_le (show 8 < 2147483648 by decide) (show i < 2147483648 by omega), S.r0, o_bind, z_add, o_LI S.s (show row + 4 + i < 2656 by omega) (by decide), z_sub (show 1 ≤ row + 4 + i by omega), o_SI S.s (show row + 4 + i - 1 < 2656 by omega) (by decide)]
        rw [if_neg (by omega)]
      · rw [g' j, m_I_SI, m_I_SI]
        by_cases q : row + 4 + (i + 1) - 1 ≤ j ∧ j < row + 11
        · rw [if_pos q, if_neg (by omega), if_pos (by omega)]
        · rw [if_neg q]
          by_cases q2 : j = row + 4 + i - 1
          · rw [if_pos ⟨rfl, q2⟩, if_pos (by omega), q2]
            congr 1; omega
          · rw [if_neg (fun x => q2 x.2), if_neg (by omega)]
theorem MH.heardN {μ : dtM} {A : aH} (H : MH μ 0 0 A) {p : Nat} (hp : p < hs A 3) : dtI μ 134 (75 + 12 * p + 3) = Int32.ofNat (ht A 11 p) := by
  have e := H.tab (t := 11) (i := p) (Or.inr (Or.inr (Or.inr (Or.inl ⟨by decide, hp⟩))))
  rw [mIdx, if_neg (by omega), if_neg (by omega)] at e
  exact e
theorem MH.heardRow {μ : dtM} {A : aH} (H : MH μ 0 0 A) {p k : Nat} (hp : p < hs A 3) (hk : k < ht A 11 p) : dtI μ 134 (75 + 12 * p + 4 + k) = Int32.ofNat (ht A (12 + k) p) := by
  have := (H.pers hp).2.2.2.1
  have e := H.tab (t := 12 + k) (i := p) (Or.inr (Or.inr (Or.inr (Or.inr ⟨by omega, hp, by omega⟩))))
  rw [mIdx, if_neg (by omega), if_neg (by omega), show 75 + 12 * p + (12 + k - 8) = 75 + 12 * p + 4 + k by omega] at e
  exact e
theorem MH.keepsSound {μ : dtM} {A : aH} (H : MH μ 0 0 A) {p s : Nat} (hp : p < hs A 3) (hs4 : s < 4) : ∃ μ', f_X12_keepsSound 133 (Int32.ofNat p) (Int32.ofNat s) μ = some μ' ∧ Fr P134 μ μ' ∧ MH μ' 0 0 (hCt A p s) := by
  have hnp := H.np
  have hN := (H.pers hp).2.2.2.1
  have h4 := (H.pers hp).2.2.2.2
  have e11 := H.heardN hp
  have l11 : opLI 1 μ 134 (Int32.ofNat (75 + 12 * p + 3)) = some (Int32.ofNat (ht A 11 p)) := by rw [o_LI H.s (by omega) (by decide), e11]
  by_cases q : ht A 11 p = 8
  · obtain ⟨μ1, e1, F1, g1⟩ := ks21 (row := 75 + 12 * p) (s := s) (by omega) 7 dtFuel 1 μ (by omega) (by decide) (dtFuel_gt (by decide)) H.1 (by rw [e11, q])
    have S1 : mSh (dtSI μ1 134 (75 + 12 * p + 3) (Int32.ofNat 7)) := (H.sh134 F1).SI
    have e2 := ks70 (s := s) S1 (show 75 + 12 * p + 12 < 136 by omega) (show 7 < 8 by decide) (by rw [m_I_SI, if_pos ⟨rfl, rfl⟩])
    have F2 : Fr P134 μ (dtSI (dtSI (dtSI μ1 134 (75 + 12 * p + 3) (Int32.ofNat 7)) 134 (75 + 12 * p + 4 + 7) (Int32.ofNat s)) 134 (75 + 12 * p + 3) (Int32.ofNat (7 + 1))) := F1.tr ((Fr.SI (P := P134) ⟨rfl, by omega⟩).tr ((Fr.SI (P := P134) ⟨rfl, by omega⟩).tr (Fr.SI (P := P134) ⟨rfl, by omega⟩)))
    refine ⟨_, ?_, F2, ?_⟩
    · rw [← e2, ← e1]
      simp only [f_X12_keepsSound, f_X12_personRow, o_call, o_bind, z_lit, z_mul, z_add, H.r0, l11, q, z_eq (show 8 < 2147483648 by decide) (show 8 < 2147483648 by decide)]
      rw [if_pos trivial]
    · rw [hCt, if_pos q]
      refine H.setHt F2 (by omega) (by decide) (fun k hk => ?_) ?_ (fun j hj => ?_) (fun k hk => ?_)
      · by_cases x : k = 7
        · rw [if_pos x]; exact hs4
        · rw [if_neg x, show 13 + k = 12 + (k + 1) by omega]; exact h4 (k + 1) (by omega)
      · rw [m_I_SI, if_pos ⟨rfl, rfl⟩]
      · rw [m_I_SI, if_neg (by omega), m_I_SI, if_neg (by omega), m_I_SI, if_neg (by omega), g1, if_neg (by omega)]
      · rw [m_I_SI, if_neg (by omega), m_I_SI]
        by_cases x : k = 7
        · rw [if_pos ⟨rfl, by omega⟩, if_pos x]
        · rw [if_neg (by omega), if_neg x, m_I_SI, if_neg (by omega), g1, if_pos (by omega), show 75 + 12 * p + 4 + k + 1 = 75 + 12 * p + 4 + (k + 1) by omega, H.heardRow hp (by omega), show 12 + (k + 1) = 13 + k by omega]
  · have e2 := ks70 (s := s) H.1 (show 75 + 12 * p + 12 < 136 by omega) (show ht A 11 p < 8 by omega) e11
    have F2 : Fr P134 μ (dtSI (dtSI μ 134 (75 + 12 * p + 4 + ht A 11 p) (Int32.ofNat s)) 134 (75 + 12 * p + 3) (Int32.ofNat (ht A 11 p + 1))) := (Fr.SI (P := P134) ⟨rfl, by omega⟩).tr (Fr.SI (P := P134) ⟨rfl, by omega⟩)
    refine ⟨_, ?_, F2, ?_⟩
    · rw [← e2]
      simp only [f_X12_keepsSound, f_X12_personRow, o_call, o_bind, z_lit, z_mul, z_add, H.r0, l11, z_eq (show ht A 11 p < 2147483648 by omega) (show 8 < 2147483648 by decide)]
      rw [if_neg q]
    · rw [hCt, if_neg q]
      refine H.setHt F2 (by omega) (by omega) (fun k hk => ?_) ?_ (fun j hj => ?_) (fun k hk => ?_)
      · by_cases x : k = ht A 11 p
        · rw [if_pos x]; exact hs4
        · rw [if_neg x]; exact h4 k (by omega)
      · rw [m_I_SI, if_pos ⟨rfl, rfl⟩]
      · rw [m_I_SI, if_neg (by omega), m_I_SI, if_neg (by omega)]
      · rw [m_I_SI, if_neg (by omega), m_I_SI]
        by_cases x : k = ht A 11 p
        · rw [if_pos ⟨rfl, by omega⟩, if_pos x]
        · rw [if_neg (by omega), if_neg x]; exact H.heardRow hp (by omega)
