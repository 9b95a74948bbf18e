/-! PURE 23: a sound is caught, the program's side -/
theorem pSh.s11 {μ : dtM} {h : Nat} (S : pSh μ h) : dtS μ (h + 11) = (1, 5) := S.2.2.2.1.2.2.2
theorem pSh.s12 {μ : dtM} {h : Nat} (S : pSh μ h) : dtS μ (h + 12) = (1, 40) := S.2.2.2.2.1
theorem pSh.r17 {μ : dtM} {h : Nat} (S : pSh μ h) : opGR 3 17 μ h = some (h + 11) := o_GR S.1.1 S.2.2.2.2.2.2.2.2.2.2.2.2.2.2.2.1
theorem pSh.r18 {μ : dtM} {h : Nat} (S : pSh μ h) : opGR 3 18 μ h = some (h + 12) := o_GR S.1.1 S.2.2.2.2.2.2.2.2.2.2.2.2.2.2.2.2
theorem cs60 {μ : dtM} {h p n s : Nat} (S : pSh μ h) (hp : p < 5) (hn : n < 8) (hv : dtI μ (h + 11) p = Int32.ofNat n) : f_X3_catchSound_60 h (Int32.ofNat p) (Int32.ofNat s) (Int32.ofNat (8 * p)) μ = some (dtSI (dtSI μ (h + 12) (8 * p + n) (Int32.ofNat s)) (h + 11) p (Int32.ofNat (n + 1))) := by
  have S1 : pSh (dtSI μ (h + 12) (8 * p + n) (Int32.ofNat s)) h := by
    unfold pSh
    rw [m_S_SI, m_R_SI]; exact S
  have e1 : opLI 1 μ (h + 11) (Int32.ofNat p) = some (Int32.ofNat n) := by rw [o_LI S.s11 hp (by decide), hv]
  have e2 : opLI 1 (dtSI μ (h + 12) (8 * p + n) (Int32.ofNat s)) (h + 11) (Int32.ofNat p) = some (Int32.ofNat n) := by
    rw [o_LI S1.s11 hp (by decide), m_I_SI, if_neg (by omega), hv]
  simp only [f_X3_catchSound_60, S.r17, S.r18, e1, o_bind, z_lit, z_add, o_SI S.s12 (show 8 * p + n < 40 by omega) (by decide), S1.r17, e2, o_SI S1.s11 hp (by decide)]
theorem cs19 {h p s : Nat} (hp : p < 5) : ∀ (n f i : Nat) (μ : dtM), i + n = 8 → 1 ≤ i → n < f → pSh μ h → ∃ μ', f_X3_catchSound_19 f h (Int32.ofNat p) (Int32.ofNat s) (Int32.ofNat (8 * p)) (Int32.ofNat i) μ = f_X3_catchSound_60 h (Int32.ofNat p) (Int32.ofNat s) (Int32.ofNat (8 * p)) (dtSI μ' (h + 11) p (Int32.ofNat 7)) ∧ Fr (fun k _ => k = h + 12) μ μ' ∧ ∀ j, dtI μ' (h + 12) j = if 8 * p + i - 1 ≤ j ∧ j < 8 * p + 7 then dtI μ (h + 12) (j + 1) else dtI μ (h + 12) j := by
  intro n
  induction n with
  | zero =>
    intro f i μ e h1 hf S
    cases f with
    | zero => omega
    | succ f =>
      simp only [f_X3_catchSound_19, z_lit, z_le (show 8 < 2147483648 by decide) (show i < 2147483648 by omega), S.r17, o_bind, o_SI S.s11 hp (by decide)]
      rw [if_pos (by omega)]
      exact ⟨μ, rfl, Fr.rf, fun j => by rw [if_neg (by omega)]⟩
  | succ n ih =>
    intro f i μ e h1 hf S
    cases f with
    | zero => omega
    | succ f =>
      have hi : 8 * p + i < 40 := by omega
      have F1 : Fr (fun k _ => k = h + 12) μ (dtSI μ (h + 12) (8 * p + i - 1) (dtI μ (h + 12) (8 * p + i))) := Fr.SI rfl
      have S1 : pSh (dtSI μ (h + 12) (8 * p + i - 1) (dtI μ (h + 12) (8 * p + i))) h := by
        unfold pSh
        rw [m_S_SI, m_R_SI]; exact S
      obtain ⟨μ', e', F', g'⟩ := ih f (i + 1) _ (by omega) (by omega) (by omega) S1
      refine ⟨μ', ?_, F1.tr F', fun j => ?_⟩
      · rw [← e']
        simp only [f_X3_catchSound_19, z_lit, z_le (show 8 < 2147483648 by decide) (show i < 2147483648 by omega), S.r18, o_bind, z_add, o_LI S.s12 hi (by decide), z_sub (show 1 ≤ 8 * p + i by omega), o_SI S.s12 (show 8 * p + i - 1 < 40 by omega) (by decide)]
        rw [if_neg (by omega)]
      · rw [g' j, m_I_SI, m_I_SI]
        by_cases q : 8 * p + (i + 1) - 1 ≤ j ∧ j < 8 * p + 7
        · rw [if_pos q, if_neg (by omega), if_pos (by omega)]
        · rw [if_neg q]
          by_cases q2 : j = 8 * p + i - 1
          · rw [if_pos ⟨rfl, q2⟩, if_pos (by omega), q2]
            congr 1; omega
          · rw [if_neg (fun x => q2 x.2), if_neg (by omega)]
def hCt (A : aH) (p s : Nat) : aH := if ht A 11 p = 8 then hHt A p 8 (fun k => if k = 7 then s else ht A (13 + k) p) else hHt A p (ht A 11 p + 1) (fun k => if k = ht A 11 p then s else ht A (12 + k) p)
theorem PH.heardRow {μ : dtM} {h : Nat} {A : aH} (H : PH μ h A) {p k : Nat} (hp : p < hs A 3) (hk : k < ht A 11 p) : dtI μ (h + 12) (8 * p + k) = Int32.ofNat (ht A (12 + k) p) := by
  have := (H.pers hp).2.2.2.1
  have e := H.tab (t := 12 + k) (i := p) (Or.inr (Or.inr (Or.inr (Or.inr ⟨by omega, hp, by omega⟩))))
  rw [pRow, if_neg (by omega), if_neg (by omega), if_neg (by omega), if_neg (by omega), pIdx, if_neg (by omega), if_pos (by omega), show 8 * p + (12 + k - 12) = 8 * p + k by omega] at e
  exact e
theorem PH.heardN {μ : dtM} {h : Nat} {A : aH} (H : PH μ h A) {p : Nat} (hp : p < hs A 3) : dtI μ (h + 11) p = Int32.ofNat (ht A 11 p) := H.tab (t := 11) (i := p) (Or.inr (Or.inr (Or.inr (Or.inl ⟨by decide, hp⟩))))
theorem PH.catchSound {μ : dtM} {h : Nat} {A : aH} (H : PH μ h A) {p s : Nat} (hp : p < hs A 3) (hs4 : s < 4) : ∃ μ', f_X3_catchSound h (Int32.ofNat p) (Int32.ofNat s) μ = some μ' ∧ Fr (fun k _ => k = h + 11 ∨ k = h + 12) μ μ' ∧ PH μ' h (hCt A p s) := by
  have hnp := H.np
  have hN := (H.pers hp).2.2.2.1
  have h4 := (H.pers hp).2.2.2.2
  have e11 := H.heardN hp
  by_cases q : ht A 11 p = 8
  · obtain ⟨μ1, e1, F1, g1⟩ := cs19 (h := h) (p := p) (s := s) (by omega) 7 dtFuel 1 μ (by omega) (by decide) (dtFuel_gt (by decide)) H.1
    have S1 : pSh (dtSI μ1 (h + 11) p (Int32.ofNat 7)) h := by
      unfold pSh
      rw [m_S_SI, m_R_SI, F1.S, F1.R]; exact H.1
    have e2 := cs60 (s := s) S1 (show p < 5 by omega) (show 7 < 8 by decide) (by rw [m_I_SI, if_pos ⟨rfl, rfl⟩])
    have F2 : Fr (fun k _ => k = h + 11 ∨ k = h + 12) μ (dtSI (dtSI (dtSI μ1 (h + 11) p (Int32.ofNat 7)) (h + 12) (8 * p + 7) (Int32.ofNat s)) (h + 11) p (Int32.ofNat (7 + 1))) := (F1.wide (fun k _ x => Or.inr x)).tr ((Fr.SI (Or.inl rfl)).tr ((Fr.SI (Or.inr rfl)).tr (Fr.SI (Or.inl rfl))))
    refine ⟨_, ?_, F2, ?_⟩
    · rw [← e2, ← e1]
      simp only [f_X3_catchSound, o_bind, z_lit, z_mul, H.r17, H.l11 hp, q, z_lt (show 8 < 2147483648 by decide) (show 8 < 2147483648 by decide)]
      rw [if_neg (by omega), Nat.mul_comm p 8]
    · rw [hCt, if_pos q]
      refine H.setHt F2 (by decide) (fun k hk => ?_) (fun j hj => ?_) (fun j hj => ?_) (fun k hk => ?_)
      · by_cases x : k = 7
        · rw [if_pos x]; exact hs4
        · rw [if_neg x, show 13 + k = 12 + (k + 1) by omega]; exact h4 (k + 1) (by omega)
      · rw [m_I_SI]
        by_cases x : j = p
        · rw [if_pos ⟨rfl, x⟩, if_pos x]
        · rw [if_neg (fun y => x y.2), if_neg x, m_I_SI, if_neg (by omega), m_I_SI, if_neg (fun y => x y.2), F1.I (fun _ => show ¬ h + 11 = h + 12 by omega)]
      · rw [m_I_SI, if_neg (by omega), m_I_SI, if_neg (by omega), m_I_SI, if_neg (by omega), g1, if_neg (by omega)]
      · rw [m_I_SI, if_neg (by omega), m_I_SI]
        by_cases x : k = 7
        · rw [if_pos ⟨rfl, by omega⟩, if_pos x]
        · rw [if_neg (by omega), if_neg x, m_I_SI, if_neg (by omega), g1, if_pos (by omega), show 8 * p + k + 1 = 8 * p + (k + 1) by omega, H.heardRow hp (by omega), show 12 + (k + 1) = 13 + k by omega]
  · have e2 := cs60 (s := s) H.1 (show p < 5 by omega) (show ht A 11 p < 8 by omega) e11
    have F2 : Fr (fun k _ => k = h + 11 ∨ k = h + 12) μ (dtSI (dtSI μ (h + 12) (8 * p + ht A 11 p) (Int32.ofNat s)) (h + 11) p (Int32.ofNat (ht A 11 p + 1))) := (Fr.SI (Or.inr rfl)).tr (Fr.SI (Or.inl rfl))
    refine ⟨_, ?_, F2, ?_⟩
    · rw [← e2]
      simp only [f_X3_catchSound, o_bind, z_lit, z_mul, H.r17, H.l11 hp, z_lt (show ht A 11 p < 2147483648 by omega) (show 8 < 2147483648 by decide)]
      rw [if_pos (by omega), Nat.mul_comm p 8]
    · rw [hCt, if_neg q]
      refine H.setHt F2 (by omega) (fun k hk => ?_) (fun j hj => ?_) (fun j hj => ?_) (fun k hk => ?_)
      · by_cases x : k = ht A 11 p
        · rw [if_pos x]; exact hs4
        · rw [if_neg x]; exact h4 k (by omega)
      · rw [m_I_SI]
        by_cases x : j = p
        · rw [if_pos ⟨rfl, x⟩, if_pos x]
        · rw [if_neg (fun y => x y.2), if_neg x, m_I_SI, if_neg (by omega)]
      · rw [m_I_SI, if_neg (by omega), m_I_SI, if_neg (by omega)]
      · rw [m_I_SI, if_neg (by omega), m_I_SI]
        by_cases x : k = ht A 11 p
        · rw [if_pos ⟨rfl, by omega⟩, if_pos x]
        · rw [if_neg (by omega), if_neg x]; exact H.heardRow hp (by omega)
