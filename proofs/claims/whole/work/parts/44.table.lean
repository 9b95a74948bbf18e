/-! PURE 15: changes of a house's table -/
theorem hok_Ut {A : aH} {t i v a b : Nat} (h3 : ¬ t = 3 ∧ ¬ t = 11) : hok (hUt A t i v) a b = hok A a b := by
  unfold hok
  simp only [hUt_s, hUt_t]
  rw [if_neg (fun x => h3.1 x.1.symm), if_neg (fun x => h3.2 x.1.symm)]
theorem PH.setT {μ : dtM} {h : Nat} {A : aH} (H : PH μ h A) {t i v : Nat} (q : hok A t i) (h3 : ¬ t = 3 ∧ ¬ t = 11) (W : hWF (hUt A t i v)) : PH (dtSI μ (pRow h t) (pIdx t i) (Int32.ofNat v)) h (hUt A t i v) := by
  have hr := pRow_in (h := h) (hok_t q)
  refine ⟨H.1, ⟨fun k hk => ?_, ?_, fun t' i' q' => ?_, H.2.1.2.2.2.1, H.2.1.2.2.2.2⟩, W⟩
  · rw [m_I_SI, if_neg (by omega)]; exact H.2.1.1 k hk
  · rw [m_I_SI, if_neg (by omega)]; exact H.2.1.2.1
  · rw [hok_Ut h3] at q'
    rw [m_I_SI, hUt_t]
    by_cases e : t' = t ∧ i' = i
    · obtain ⟨e1, e2⟩ := e
      subst e1 e2
      rw [if_pos ⟨rfl, rfl⟩, if_pos ⟨rfl, rfl⟩]
    · rw [if_neg (fun x => e (pRI (hok_t q') (hok_t q) x.1 x.2)), if_neg e]
      exact H.2.1.2.2.1 t' i' q'
def mB (t i : Nat) : Prop := t < 20 ∧ (t < 3 → i < 10) ∧ (3 ≤ t → t < 8 → i < 7) ∧ (8 ≤ t → i < 5)
theorem hok_B {A : aH} (W : hWF A) {t i : Nat} (q : hok A t i) : mB t i := by
  have h1 := W.1.2.1
  have h2 := W.1.2.2.1
  have h3 := W.1.2.2.2.1
  refine ⟨hok_t q, fun a => ?_, fun a b => ?_, fun a => ?_⟩ <;> rcases q with q | q | q | q | q <;> omega
theorem mRI {t t' i i' : Nat} (q : mB t i) (q' : mB t' i') (e : mIdx t i = mIdx t' i') : t = t' ∧ i = i' := by
  have X : ∀ t i, mB t i → (t < 3 ∧ i < 10 ∧ mIdx t i = 10 + 3 * i + t) ∨ (3 ≤ t ∧ t < 8 ∧ i < 7 ∧ mIdx t i = 40 + 5 * i + (t - 3)) ∨ (8 ≤ t ∧ t < 20 ∧ i < 5 ∧ mIdx t i = 75 + 12 * i + (t - 8)) := by
    intro t i q
    by_cases h1 : t < 3
    · left; exact ⟨h1, q.2.1 h1, if_pos h1⟩
    · by_cases h2 : t < 8
      · right; left; exact ⟨by omega, h2, q.2.2.1 (by omega) h2, by rw [mIdx, if_neg h1, if_pos h2]⟩
      · right; right; exact ⟨by omega, q.1, q.2.2.2 (by omega), by rw [mIdx, if_neg h1, if_neg h2]⟩
  rcases X t i q with x | x | x <;> rcases X t' i' q' with y | y | y <;> omega
theorem mIdx_in {t i : Nat} (q : mB t i) : 10 ≤ mIdx t i ∧ mIdx t i < 135 := by
  unfold mIdx
  have := q.1
  by_cases h1 : t < 3
  · rw [if_pos h1]; have := q.2.1 h1; omega
  · rw [if_neg h1]
    by_cases h2 : t < 8
    · rw [if_pos h2]; have := q.2.2.1 (by omega) h2; omega
    · rw [if_neg h2]; have := q.2.2.2 (by omega); omega
theorem MH.setT {μ : dtM} {A : aH} (H : MH μ 0 0 A) {t i v : Nat} (q : hok A t i) (h3 : ¬ t = 3 ∧ ¬ t = 11) (W : hWF (hUt A t i v)) : MH (dtSI μ 134 (mIdx t i) (Int32.ofNat v)) 0 0 (hUt A t i v) := by
  have hB := hok_B H.2.2 q
  have hr := mIdx_in hB
  refine ⟨H.1, ⟨fun k hk => ?_, ?_, fun t' i' q' => ?_, fun w k hw hk h4 => ?_, H.2.1.2.2.2.2.1, H.2.1.2.2.2.2.2⟩, W⟩
  · rw [m_I_SI, if_neg (by omega)]; exact H.2.1.1 k hk
  · rw [m_I_SI, if_neg (by omega)]; exact H.2.1.2.1
  · rw [hok_Ut h3] at q'
    rw [m_I_SI, hUt_t, Nat.zero_add]
    have hB' := hok_B H.2.2 q'
    by_cases e : t' = t ∧ i' = i
    · obtain ⟨e1, e2⟩ := e
      subst e1 e2
      rw [if_pos ⟨rfl, rfl⟩, if_pos ⟨rfl, rfl⟩]
    · rw [if_neg (fun x => e (mRI hB' hB x.2)), if_neg e]
      exact H.tab q'
  · rw [hUt_s] at hw
    rw [hUt_t, if_neg (fun x => h3.1 x.1.symm)] at hk
    have hnw := H.nw
    have hB' : mB (4 + k) w := ⟨by omega, by omega, by omega, by omega⟩
    have hne : ¬ (0 + mIdx (4 + k) w = mIdx t i) := by
      intro e
      rw [Nat.zero_add] at e
      obtain ⟨e1, e2⟩ := mRI hB' hB e
      subst e1 e2
      rcases q with q | q | q | q | q <;> omega
    rw [m_I_SI, if_neg (fun x => hne x.2)]
    exact H.2.1.2.2.2.1 w k hw hk h4
/-- how many were heard goes down (or stays) -/
theorem PH.setH {μ : dtM} {h : Nat} {A : aH} (H : PH μ h A) {p v : Nat} (hp : p < hs A 3) (hv : v ≤ ht A 11 p) : PH (dtSI μ (h + 11) p (Int32.ofNat v)) h (hUt A 11 p v) := by
  have hok' : ∀ t i, hok (hUt A 11 p v) t i → hok A t i := by
    intro t i q
    unfold hok at q ⊢
    simp only [hUt_s, hUt_t] at q
    rw [if_neg (show ¬ (3 = 11 ∧ i = p) by omega)] at q
    by_cases e : i = p
    · subst e
      rw [if_pos ⟨trivial, rfl⟩] at q
      omega
    · rw [if_neg (fun x => e x.2)] at q
      exact q
  refine ⟨H.1, ⟨fun k hk => ?_, ?_, fun t' i' q' => ?_, H.2.1.2.2.2.1, H.2.1.2.2.2.2⟩, ?_⟩
  · rw [m_I_SI, if_neg (by omega)]; exact H.2.1.1 k hk
  · rw [m_I_SI, if_neg (by omega)]; exact H.2.1.2.1
  · have q2 := hok' t' i' q'
    rw [m_I_SI, hUt_t]
    have eR : pRow h 11 = h + 11 := rfl
    have eI : pIdx 11 p = p := rfl
    by_cases e : t' = 11 ∧ i' = p
    · obtain ⟨e1, e2⟩ := e
      subst e1 e2
      rw [if_pos ⟨rfl, rfl⟩, if_pos ⟨rfl, rfl⟩]
    · rw [if_neg (fun x => e (pRI (h := h) (hok_t q2) (by decide) (x.1.trans eR.symm) (x.2.trans eI.symm))), if_neg e]
      exact H.2.1.2.2.1 t' i' q2
  · have W := H.2.2
    refine ⟨W.1, W.2.1, fun w hw => ?_, fun p' hp' => ?_, W.2.2.2.2⟩
    · have x := W.2.2.1 w hw
      have e3 : ht (hUt A 11 p v) 3 w = ht A 3 w := by rw [hUt_t, if_neg (by omega)]
      rw [e3]
      refine ⟨x.1, x.2.1, fun k hk => ?_⟩
      rw [hUt_t, if_neg (by omega)]
      exact x.2.2 k hk
    have x := W.2.2.2.1 p' hp'
    have e9 : ∀ k, ¬ k = 11 → ht (hUt A 11 p v) k p' = ht A k p' := fun k hk => by rw [hUt_t, if_neg (fun x => hk x.1)]
    rw [e9 8 (by decide), e9 9 (by decide), e9 10 (by decide)]
    have e11 : ht (hUt A 11 p v) 11 p' ≤ ht A 11 p' := by
      rw [hUt_t]
      by_cases e : p' = p
      · subst e
        rw [if_pos ⟨rfl, rfl⟩]; exact hv
      · rw [if_neg (fun x => e x.2)]; exact Nat.le_refl _
    refine ⟨x.1, x.2.1, x.2.2.1, by omega, fun k hk => ?_⟩
    rw [e9 (12 + k) (by omega)]
    exact x.2.2.2.2 k (by omega)
