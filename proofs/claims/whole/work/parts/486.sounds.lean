/-! PURE 25: heard by all who hear -/
def hMd (A : aH) : aH := (A.1, A.2.1, A.2.2.1 + 1, A.2.2.2)
def hC1 (set s p : Nat) (A : aH) : aH := if set.testBit p = true then hCt A p s else A
theorem hCt_s {A : aH} {p s k : Nat} : hs (hCt A p s) k = hs A k := by
  unfold hCt
  by_cases q : ht A 11 p = 8
  · rw [if_pos q]; rfl
  · rw [if_neg q]; rfl
theorem hC1_s {A : aH} {set s p k : Nat} : hs (hC1 set s p A) k = hs A k := by
  unfold hC1
  by_cases q : set.testBit p = true
  · rw [if_pos q]; exact hCt_s
  · rw [if_neg q]
theorem PH.made {μ : dtM} {h : Nat} {A : aH} (H : PH μ h A) : PH (dtSI μ h 6 (hm A + Int32.ofNat 1)) h (hMd A) := by
  refine ⟨H.1, ⟨fun k hk => ?_, ?_, fun t i q => ?_, H.2.1.2.2.2.1, H.2.1.2.2.2.2⟩, H.2.2⟩
  · rw [m_I_SI, if_neg (by omega)]; exact H.2.1.1 k hk
  · rw [m_I_SI, if_pos ⟨rfl, rfl⟩]; rfl
  · have hr := pRow_in (h := h) (hok_t q)
    rw [m_I_SI, if_neg (by omega)]; exact H.2.1.2.2.1 t i q
theorem MH.made {μ : dtM} {A : aH} (H : MH μ 0 0 A) : MH (dtSI μ 134 6 (hm A + Int32.ofNat 1)) 0 0 (hMd A) := by
  refine ⟨H.1, ⟨fun k hk => ?_, ?_, fun t i q => ?_, fun w k hw hk h4 => ?_, H.2.1.2.2.2.2.1, H.2.1.2.2.2.2.2⟩, H.2.2⟩
  · rw [m_I_SI, if_neg (by omega)]; exact H.2.1.1 k hk
  · rw [m_I_SI, if_pos ⟨rfl, rfl⟩]; rfl
  · have q' : hok A t i := q
    have hr := mIdx_in (hok_B H.2.2 q')
    rw [m_I_SI, if_neg (by omega)]; exact H.2.1.2.2.1 t i q'
  · have hw' : w < hs A 2 := hw
    have hnw := H.nw
    have hr := mIdx_in (t := 4 + k) (i := w) ⟨by omega, by omega, by omega, by omega⟩
    rw [m_I_SI, if_neg (by omega)]; exact H.2.1.2.2.2.1 w k hw' hk h4
theorem MH.g6 {μ : dtM} {A : aH} (H : MH μ 0 0 A) : opLI 1 μ 134 (Int32.ofNat 6) = some (hm A) := by
  rw [o_LI H.s (by decide) (by decide)]
  exact congrArg some H.2.1.2.1
theorem MH.so12 {set s : Nat} (hset : set < 32) (hs4 : s < 4) : ∀ (n f i : Nat) (μ : dtM) (A : aH), i + n = hs A 3 → n < f → MH μ 0 0 A → ∃ μ', f_X12_sounds_12 f 133 (Int32.ofNat s) (Int32.ofNat set) (Int32.ofNat i) μ = some (Int32.ofNat set, μ') ∧ Fr P134 μ μ' ∧ MH μ' 0 0 (hMd (fo (hC1 set s) n i A)) := by
  intro n
  induction n with
  | zero =>
    intro f i μ A e hf H
    have hnp := H.np
    have g3 := H.g3
    have g6 := H.g6
    cases f with
    | zero => omega
    | succ f =>
      simp only [f_X12_sounds_12, H.r0, g3, g6, o_bind, z_lit, z_le (show hs A 3 < 2147483648 by omega) (show i < 2147483648 by omega), o_SI H.s (show 6 < 2656 by decide) (by decide)]
      rw [if_pos (by omega)]
      exact ⟨_, rfl, Fr.SI ⟨rfl, by decide⟩, H.made⟩
  | succ n ih =>
    intro f i μ A e hf H
    have hnp := H.np
    have g3 := H.g3
    cases f with
    | zero => omega
    | succ f =>
      have hi : i < hs A 3 := by omega
      rw [fo]
      simp only [f_X12_sounds_12, f_X12_sounds_41, H.r0, H.rv, g3, o_bind, o_call, z_lit, z_le (show hs A 3 < 2147483648 by omega) (show i < 2147483648 by omega), f_isIn (show set < 2147483648 by omega) (show i < 32 by omega), b0, z_add]
      rw [if_neg (by omega)]
      cases q : set.testBit i
      · have e1 : hC1 set s i A = A := if_neg (by rw [q]; decide)
        rw [if_pos rfl, e1]
        exact ih f (i + 1) μ A (by omega) (by omega) H
      · have e1 : hC1 set s i A = hCt A i s := if_pos q
        rw [if_neg (by decide), e1]
        obtain ⟨μ1, x1, F1, H1⟩ := H.keepsSound hi hs4
        obtain ⟨μ2, x2, F2, H2⟩ := ih f (i + 1) μ1 (hCt A i s) (by rw [hCt_s]; omega) (by omega) H1
        rw [x1]
        exact ⟨μ2, x2, F1.tr F2, H2⟩
