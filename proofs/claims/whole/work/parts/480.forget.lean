/-! PURE 19: the model forgets -/
abbrev P134 : Nat → Nat → Prop := fun k j => k = 134 ∧ (j < 136 ∧ ¬ j = 7)
theorem MH.sh134 {μ μ' : dtM} {A : aH} (H : MH μ 0 0 A) (F : Fr P134 μ μ') : mSh μ' := by
  unfold mSh
  rw [F.S, F.R]
  exact H.1
theorem hok_H {A : aH} {p v : Nat} (hv : v ≤ ht A 11 p) {t i : Nat} (q : hok (hUt A 11 p v) t i) : hok A t i ∧ (12 ≤ t → i = p → t - 12 < v) := by
  unfold hok at q ⊢
  simp only [hUt_s, hUt_t] at q
  rw [if_neg (show ¬ (3 = 11 ∧ i = p) by omega)] at q
  by_cases e : i = p
  · subst e
    rw [if_pos ⟨trivial, rfl⟩] at q
    omega
  · rw [if_neg (fun x => e x.2)] at q
    exact ⟨q, fun _ x => absurd x e⟩
theorem hWF_H {A : aH} (W : hWF A) {p v : Nat} (hv : v ≤ ht A 11 p) : hWF (hUt A 11 p v) := by
  refine ⟨W.1, W.2.1, fun w hw => ?_, fun p' hp' => ?_, W.2.2.2.2⟩
  · have x := W.2.2.1 w hw
    have e3 : ht (hUt A 11 p v) 3 w = ht A 3 w := by rw [hUt_t, if_neg (by omega)]
    rw [e3]
    refine ⟨x.1, x.2.1, fun k hk => ?_⟩
    rw [hUt_t, if_neg (by omega)]
    exact x.2.2 k hk
  · have x := W.2.2.2.1 p' hp'
    have e9 : ∀ k, ¬ k = 11 → ht (hUt A 11 p v) k p' = ht A k p' := fun k hk => by rw [hUt_t, if_neg (fun x => hk x.1)]
    rw [e9 8 (by decide), e9 9 (by decide), e9 10 (by decide)]
    have e11 : ht (hUt A 11 p v) 11 p' ≤ ht A 11 p' := by
      rw [hUt_t]
      by_cases e : p' = p
      · subst e
        rw [if_pos ⟨rfl, rfl⟩]; exact hv
      · rw [if_neg (fun x => e x.2)]; exact Nat.le_refl _
    refine ⟨x.1, x.2.1, x.2.2.1, by omega, fun k hk => ?_⟩
    rw [e9 (12 + k) (by omega)]
    exact x.2.2.2.2 k (by omega)
theorem fg17 {row : Nat} {v : Int32} (hrow : 75 ≤ row ∧ row + 12 < 136) : ∀ (n f i : Nat) (μ : dtM), i + n = 12 → n < f → mSh μ → ∃ μ', f_X12_forgets_17 f 133 (Int32.ofNat row) v (Int32.ofNat i) μ = some (v, μ') ∧ Fr P134 μ μ' ∧ ∀ j, dtI μ' 134 j = if row + i ≤ j ∧ j < row + 12 then Int32.ofNat 0 else dtI μ 134 j := by
  intro n
  induction n with
  | zero =>
    intro f i μ e hf S
    cases f with
    | zero => omega
    | succ f =>
      simp only [f_X12_forgets_17, z_lit, z_le (show 12 < 2147483648 by decide) (show i < 2147483648 by omega)]
      rw [if_pos (by omega)]
      exact ⟨μ, rfl, Fr.rf, fun j => by rw [if_neg (by omega)]⟩
  | succ n ih =>
    intro f i μ e hf S
    cases f with
    | zero => omega
    | succ f =>
      have er : opGR 12 0 μ 133 = some 134 := o_GR S.1 S.2.1
      have F1 : Fr P134 μ (dtSI μ 134 (row + i) (Int32.ofNat 0)) := Fr.SI ⟨rfl, by omega⟩
      obtain ⟨μ', e', F', g'⟩ := ih f (i + 1) (dtSI μ 134 (row + i) (Int32.ofNat 0)) (by omega) (by omega) S
      refine ⟨μ', ?_, F1.tr F', fun j => ?_⟩
      · rw [← e']
        simp only [f_X12_forgets_17, z_lit, z_le (show 12 < 2147483648 by decide) (show i < 2147483648 by omega), er, o_bind, z_add, o_SI S.2.2.1 (show row + i < 2656 by omega) (by decide)]
        rw [if_neg (by omega)]
      · rw [g' j, m_I_SI]
        by_cases q : row + (i + 1) ≤ j ∧ j < row + 12
        · rw [if_pos q, if_pos (by omega)]
        · rw [if_neg q]
          by_cases q2 : j = row + i
          · rw [if_pos ⟨rfl, q2⟩, if_pos (by omega)]
          · rw [if_neg (fun x => q2 x.2), if_neg (by omega)]
theorem MH.forgets {μ : dtM} {A : aH} (H : MH μ 0 0 A) {p : Nat} (hp : p < hs A 3) : ∃ μ', f_X12_forgets 133 (Int32.ofNat p) μ = some (Int32.ofNat (ht A 11 p), μ') ∧ Fr P134 μ μ' ∧ MH μ' 0 0 (hUt A 11 p 0) := by
  have hnp := H.np
  have e11 := H.pl (t := 11) (by decide) hp
  rw [show 75 + 12 * p + (11 - 8) = 75 + 12 * p + 3 by omega] at e11
  obtain ⟨μ', e, F, g⟩ := fg17 (row := 75 + 12 * p) (v := Int32.ofNat (ht A 11 p)) (by omega) 9 dtFuel 3 μ (by omega) (dtFuel_gt (by decide)) H.1
  refine ⟨μ', ?_, F, H.sh134 F, ⟨fun k hk => ?_, ?_, fun t i q => ?_, fun w k hw hk h4 => ?_, ?_, ?_⟩, hWF_H H.2.2 (Nat.zero_le _)⟩
  · rw [← e]
    simp only [f_X12_forgets, f_X12_personRow, o_call, H.r0, o_bind, z_lit, z_mul, z_add, e11]
  · rw [g, if_neg (by omega)]; exact H.2.1.1 k hk
  · rw [g, if_neg (by omega)]; exact H.2.1.2.1
  · obtain ⟨q1, q2⟩ := hok_H (Nat.zero_le _) q
    have hB := hok_B H.2.2 q1
    rw [g, hUt_t, Nat.zero_add]
    by_cases e : t = 11 ∧ i = p
    · obtain ⟨e1, e2⟩ := e
      subst e1 e2
      rw [if_pos (by unfold mIdx; rw [if_neg (by omega), if_neg (by omega)]; omega), if_pos ⟨rfl, rfl⟩]
    · rw [if_neg e]
      have hn : ¬ (75 + 12 * p + 3 ≤ mIdx t i ∧ mIdx t i < 75 + 12 * p + 12) := by
        intro x
        unfold mIdx at x
        by_cases h1 : t < 3
        · rw [if_pos h1] at x; have := hB.2.1 h1; omega
        · rw [if_neg h1] at x
          by_cases h2 : t < 8
          · rw [if_pos h2] at x; have := hB.2.2.1 (by omega) h2; omega
          · rw [if_neg h2] at x
            have := hB.1
            have ei : i = p := by omega
            have : ¬ t = 11 := fun y => e ⟨y, ei⟩
            have := q2 (by omega) ei
            omega
      rw [if_neg hn]
      exact H.tab q1
  · rw [hUt_s] at hw
    rw [hUt_t, if_neg (by omega)] at hk
    have hnw := H.nw
    rw [g, Nat.zero_add, if_neg (by unfold mIdx; rw [if_neg (by omega), if_pos (by omega)]; omega)]
    have x := H.2.1.2.2.2.1 w k hw hk h4
    rw [Nat.zero_add] at x
    exact x
  · rw [F.J (fun _ e => absurd e.1 (by decide))]; exact H.2.1.2.2.2.2.1
  · rw [F.J (fun _ e => absurd e.1 (by decide))]; exact H.2.1.2.2.2.2.2
