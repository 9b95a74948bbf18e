/-! PURE 22: what a person heard, anew -/
def hHt (A : aH) (p N : Nat) (f : Nat → Nat) : aH := (A.1, (fun t i => if i = p ∧ 11 ≤ t then (if t = 11 then N else f (t - 12)) else A.2.1 t i), A.2.2)
theorem hHt_s {A : aH} {p N k : Nat} {f : Nat → Nat} : hs (hHt A p N f) k = hs A k := rfl
theorem hHt_t {A : aH} {p N t i : Nat} {f : Nat → Nat} : ht (hHt A p N f) t i = if i = p ∧ 11 ≤ t then (if t = 11 then N else f (t - 12)) else ht A t i := rfl
theorem hHt_o {A : aH} {p N t i : Nat} {f : Nat → Nat} (h : ¬ (i = p ∧ 11 ≤ t)) : ht (hHt A p N f) t i = ht A t i := if_neg h
theorem hHt_11 {A : aH} {p N : Nat} {f : Nat → Nat} : ht (hHt A p N f) 11 p = N := by rw [hHt_t, if_pos ⟨rfl, by decide⟩, if_pos rfl]
theorem hHt_k {A : aH} {p N k : Nat} {f : Nat → Nat} : ht (hHt A p N f) (12 + k) p = f k := by rw [hHt_t, if_pos ⟨rfl, by omega⟩, if_neg (by omega), show 12 + k - 12 = k by omega]
theorem hHt_ok {A : aH} {p N t i : Nat} {f : Nat → Nat} (q : hok (hHt A p N f) t i) : (i = p ∧ 12 ≤ t ∧ t - 12 < N ∧ t < 20 ∧ p < hs A 3) ∨ (¬ (i = p ∧ 12 ≤ t) ∧ hok A t i) := by
  unfold hok at q
  simp only [hHt_s] at q
  rw [hHt_o (show ¬ (i = p ∧ 11 ≤ 3) by omega)] at q
  by_cases e : i = p ∧ 12 ≤ t
  · left
    obtain ⟨e1, e2⟩ := e
    subst e1
    rw [hHt_11] at q
    omega
  · right
    refine ⟨e, ?_⟩
    unfold hok
    by_cases e1 : i = p
    · subst e1
      rw [hHt_11] at q
      omega
    · rw [hHt_o (show ¬ (i = p ∧ 11 ≤ 11) by omega)] at q
      exact q
theorem hHt_W {A : aH} (W : hWF A) {p N : Nat} {f : Nat → Nat} (hN : N ≤ 8) (hf : ∀ k, k < N → f k < 4) : hWF (hHt A p N f) := by
  refine ⟨W.1, fun d hd => ?_, fun w hw => ?_, fun p' hp' => ?_, W.2.2.2.2⟩
  · have x := W.2.1 d hd
    rw [hHt_o (t := 0) (by omega), hHt_o (t := 1) (by omega), hHt_o (t := 2) (by omega)]
    exact x
  · have x := W.2.2.1 w hw
    rw [hHt_o (t := 3) (by omega)]
    refine ⟨x.1, x.2.1, fun k hk => ?_⟩
    rw [hHt_o (by omega)]
    exact x.2.2 k hk
  · have x := W.2.2.2.1 p' hp'
    rw [hHt_o (t := 8) (by omega), hHt_o (t := 9) (by omega), hHt_o (t := 10) (by omega)]
    by_cases e : p' = p
    · subst e
      rw [hHt_11]
      exact ⟨x.1, x.2.1, x.2.2.1, hN, fun k hk => by rw [hHt_k]; exact hf k hk⟩
    · rw [hHt_o (t := 11) (by omega)]
      refine ⟨x.1, x.2.1, x.2.2.1, x.2.2.2.1, fun k hk => ?_⟩
      rw [hHt_o (by omega)]
      exact x.2.2.2.2 k hk
theorem PH.setHt {μ μ' : dtM} {h : Nat} {A : aH} (H : PH μ h A) (F : Fr (fun k _ => k = h + 11 ∨ k = h + 12) μ μ') {p N : Nat} {f : Nat → Nat} (hN : N ≤ 8) (hf : ∀ k, k < N → f k < 4) (h11 : ∀ j, j < 5 → dtI μ' (h + 11) j = if j = p then Int32.ofNat N else dtI μ (h + 11) j) (ho : ∀ j, ¬ (8 * p ≤ j ∧ j < 8 * p + 8) → dtI μ' (h + 12) j = dtI μ (h + 12) j) (hk : ∀ k, k < N → dtI μ' (h + 12) (8 * p + k) = Int32.ofNat (f k)) : PH μ' h (hHt A p N f) := by
  have q0 : ∀ k, h ≤ k → k ≤ h + 10 → Nat → ¬ (k = h + 11 ∨ k = h + 12) := fun k _ _ _ => by omega
  refine ⟨?_, ⟨fun j hj => ?_, ?_, fun t i q => ?_, fun r hr => ?_, fun p hp => ?_⟩, hHt_W H.2.2 hN hf⟩
  · unfold pSh
    rw [F.S, F.R]
    exact H.1
  · rw [F.I (q0 h (by omega) (by omega))]; exact H.2.1.1 j hj
  · rw [F.I (q0 h (by omega) (by omega))]; exact H.2.1.2.1
  · rcases hHt_ok q with ⟨e1, e2, e3, e4, e5⟩ | ⟨e, q'⟩
    · subst e1
      obtain ⟨k, rfl⟩ : ∃ k, t = 12 + k := ⟨t - 12, by omega⟩
      rw [hHt_k]
      have eR : pRow h (12 + k) = h + 12 := by rw [pRow, if_neg (by omega), if_neg (by omega), if_neg (by omega), if_neg (by omega)]
      have eI : pIdx (12 + k) i = 8 * i + k := by rw [pIdx, if_neg (by omega), if_pos (by omega)]; omega
      rw [eR, eI]
      exact hk k (by omega)
    · have hB := hok_B H.2.2 q'
      have old := H.2.1.2.2.1 t i q'
      by_cases t11 : t = 11
      · subst t11
        have eR : pRow h 11 = h + 11 := rfl
        have eI : pIdx 11 i = i := rfl
        rw [eR, eI] at old ⊢
        rw [h11 i (hB.2.2.2 (by decide))]
        by_cases e1 : i = p
        · subst e1
          rw [if_pos rfl, hHt_11]
        · rw [if_neg e1, hHt_o (by omega)]; exact old
      · rw [hHt_o (by omega)]
        by_cases t12 : 12 ≤ t
        · have := hB.1
          have eR : pRow h t = h + 12 := by rw [pRow, if_neg (by omega), if_neg (by omega), if_neg (by omega), if_neg (by omega)]
          have eI : pIdx t i = 8 * i + (t - 12) := by rw [pIdx, if_neg (by omega), if_pos (by omega)]
          rw [eR, eI] at old ⊢
          rw [ho _ (by omega)]; exact old
        · have hr : h + 3 ≤ pRow h t ∧ pRow h t ≤ h + 10 := by
            unfold pRow
            by_cases h1 : t < 3
            · rw [if_pos h1]; omega
            · rw [if_neg h1]
              by_cases h2 : t = 3
              · rw [if_pos h2]; omega
              · rw [if_neg h2]
                by_cases h3 : t < 8
                · rw [if_pos h3]; omega
                · rw [if_neg h3, if_pos (by omega)]; omega
          rw [F.I (q0 _ (by omega) (by omega))]; exact old
  · rw [F.J (q0 _ (by omega) (by omega))]; exact H.2.1.2.2.2.1 r hr
  · rw [F.J (q0 _ (by omega) (by omega))]; exact H.2.1.2.2.2.2 p hp
theorem MH.setHt {μ μ' : dtM} {A : aH} (H : MH μ 0 0 A) (F : Fr P134 μ μ') {p N : Nat} {f : Nat → Nat} (hp : p < 5) (hN : N ≤ 8) (hf : ∀ k, k < N → f k < 4) (h11 : dtI μ' 134 (75 + 12 * p + 3) = Int32.ofNat N) (ho : ∀ j, ¬ (75 + 12 * p + 3 ≤ j ∧ j < 75 + 12 * p + 12) → dtI μ' 134 j = dtI μ 134 j) (hk : ∀ k, k < N → dtI μ' 134 (75 + 12 * p + 4 + k) = Int32.ofNat (f k)) : MH μ' 0 0 (hHt A p N f) := by
  refine ⟨H.sh134 F, ⟨fun k hk => ?_, ?_, fun t i q => ?_, fun w k hw hk h4 => ?_, ?_, ?_⟩, hHt_W H.2.2 hN hf⟩
  · rw [ho _ (by omega)]; exact H.2.1.1 k hk
  · rw [ho _ (by omega)]; exact H.2.1.2.1
  · rw [Nat.zero_add]
    rcases hHt_ok q with ⟨e1, e2, e3, e4, e5⟩ | ⟨e, q'⟩
    · subst e1
      obtain ⟨k, rfl⟩ : ∃ k, t = 12 + k := ⟨t - 12, by omega⟩
      rw [hHt_k]
      have eI : mIdx (12 + k) i = 75 + 12 * i + 4 + k := by rw [mIdx, if_neg (by omega), if_neg (by omega)]; omega
      rw [eI]
      exact hk k (by omega)
    · have hB := hok_B H.2.2 q'
      by_cases e11 : t = 11 ∧ i = p
      · obtain ⟨x1, x2⟩ := e11
        subst x1 x2
        have eI : mIdx 11 i = 75 + 12 * i + 3 := by rw [mIdx, if_neg (by omega), if_neg (by omega)]
        rw [eI, hHt_11]; exact h11
      · rw [hHt_o (by omega), ho _ (by
          intro x
          unfold mIdx at x
          by_cases h1 : t < 3
          · rw [if_pos h1] at x; have := hB.2.1 h1; omega
          · rw [if_neg h1] at x
            by_cases h2 : t < 8
            · rw [if_pos h2] at x; have := hB.2.2.1 (by omega) h2; omega
            · rw [if_neg h2] at x
              have := hB.1
              omega)]
        exact H.tab q'
  · rw [hHt_s] at hw
    rw [hHt_o (t := 3) (by omega)] at hk
    have hnw := H.nw
    rw [Nat.zero_add, ho _ (by unfold mIdx; rw [if_neg (by omega), if_pos (by omega)]; omega)]
    have x := H.2.1.2.2.2.1 w k hw hk h4
    rw [Nat.zero_add] at x
    exact x
  · rw [F.J (fun _ e => absurd e.1 (by decide))]; exact H.2.1.2.2.2.2.1
  · rw [F.J (fun _ e => absurd e.1 (by decide))]; exact H.2.1.2.2.2.2.2
