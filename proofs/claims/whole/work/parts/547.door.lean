/-! PURE 87: a door told: the houses -/
def dOp (A : aH) (op : Bool) : Nat := if op = true then hs A 5 ||| 2 ^ hs A 1 else hs A 5
def hDr (A : aH) (a b z : Nat) (op : Bool) : aH := ((fun j => if j = 1 then hs A 1 + 1 else if j = 5 then dOp A op else hs A j), (fun t i => if i = hs A 1 ∧ t < 3 then (if t = 0 then a else if t = 1 then b else z) else ht A t i), hm A, hrn A, hpn A)
theorem hDr_s {A : aH} {a b z j : Nat} {op : Bool} (h : ¬ j = 1 ∧ ¬ j = 5) : hs (hDr A a b z op) j = hs A j := (if_neg h.1).trans (if_neg h.2)
theorem hDr_1 {A : aH} {a b z : Nat} {op : Bool} : hs (hDr A a b z op) 1 = hs A 1 + 1 := rfl
theorem hDr_5 {A : aH} {a b z : Nat} {op : Bool} : hs (hDr A a b z op) 5 = dOp A op := rfl
theorem hDr_o {A : aH} {a b z t i : Nat} {op : Bool} (h : ¬ (i = hs A 1 ∧ t < 3)) : ht (hDr A a b z op) t i = ht A t i := if_neg h
theorem hDr_n {A : aH} {a b z t : Nat} {op : Bool} (h : t < 3) : ht (hDr A a b z op) t (hs A 1) = if t = 0 then a else if t = 1 then b else z := if_pos ⟨rfl, h⟩
theorem hDr_ok {A : aH} {a b z t i : Nat} {op : Bool} (e : ¬ (i = hs A 1 ∧ t < 3)) (q : hok (hDr A a b z op) t i) : hok A t i := by
  unfold hok at q ⊢
  rw [hDr_1, hDr_s (by decide), hDr_s (by decide), hDr_o (show ¬ (i = hs A 1 ∧ 3 < 3) by omega), hDr_o (show ¬ (i = hs A 1 ∧ 11 < 3) by omega)] at q
  rcases q with q | q
  · exact Or.inl ⟨q.1, by omega⟩
  · exact Or.inr q
theorem dOp_lt {A : aH} {op : Bool} (W : hWF A) : dOp A op < 2 ^ (hs A 1 + 1) := by
  have h5 : hs A 5 < 2 ^ (hs A 1 + 1) := Nat.lt_of_lt_of_le W.1.2.2.2.2.2 (Nat.pow_le_pow_right (by decide) (Nat.le_succ _))
  unfold dOp
  by_cases x : op = true
  · rw [if_pos x]; exact z_lt2 h5 (Nat.lt_succ_self _)
  · rw [if_neg x]; exact h5
theorem hDr_W {A : aH} {a b z : Nat} {op : Bool} (W : hWF A) (h : hs A 1 < 10) (ha : a < hs A 0) (hb : b < hs A 0) (hab : ¬ a = b) (hz : z ≤ 9) : hWF (hDr A a b z op) := by
  have d5 := dOp_lt (op := op) W
  obtain ⟨⟨a0, a1, a2, a3, a4, a5⟩, k1, k2, k3, k4, k5⟩ := W
  unfold hWF
  rw [hDr_1, hDr_5, hDr_s (by decide), hDr_s (by decide), hDr_s (by decide), hDr_s (by decide)]
  refine ⟨⟨a0, by omega, a2, a3, a4, d5⟩, fun d hd => ?_, fun w hw => ?_, fun p hp => ?_, fun r hr => k4 r hr, fun p hp => k5 p hp⟩
  · by_cases x : d = hs A 1
    · rw [x, hDr_n (by decide), hDr_n (by decide), hDr_n (by decide), if_pos rfl, if_neg (by decide), if_pos rfl, if_neg (by decide), if_neg (by decide)]
      exact ⟨ha, hb, hab, hz⟩
    · rw [hDr_o (fun y => x y.1), hDr_o (fun y => x y.1), hDr_o (fun y => x y.1)]
      exact k1 d (by omega)
  · rw [hDr_o (by omega)]
    have y := k2 w hw
    refine ⟨y.1, y.2.1, fun k hk => ?_⟩
    rw [hDr_o (by omega)]; exact y.2.2 k hk
  · rw [hDr_o (by omega), hDr_o (by omega), hDr_o (by omega), hDr_o (by omega)]
    have y := k3 p hp
    refine ⟨y.1, y.2.1, y.2.2.1, y.2.2.2.1, fun k hk => ?_⟩
    rw [hDr_o (by omega)]; exact y.2.2.2.2 k hk
theorem PH.doored {P : Nat → Nat → Prop} {μ μ' : dtM} {h a b z : Nat} {op : Bool} {A : aH} (H : PH μ h A) (h10 : hs A 1 < 10) (ha : a < hs A 0) (hb : b < hs A 0) (hab : ¬ a = b) (hz : z ≤ 9) (F : Fr P μ μ') (hP : ∀ k j, P k j → k < h ∨ h + 12 < k ∨ (k = h ∧ (j = 1 ∨ j = 5)) ∨ ((k = h + 3 ∨ k = h + 4 ∨ k = h + 5) ∧ j = hs A 1)) (e1 : dtI μ' h 1 = Int32.ofNat (hs A 1 + 1)) (e5 : dtI μ' h 5 = Int32.ofNat (dOp A op)) (ea : dtI μ' (h + 3) (hs A 1) = Int32.ofNat a) (eb : dtI μ' (h + 4) (hs A 1) = Int32.ofNat b) (ez : dtI μ' (h + 5) (hs A 1) = Int32.ofNat z) : PH μ' h (hDr A a b z op) := by
  obtain ⟨S, V, W⟩ := H
  have no : ∀ k j, h ≤ k → k ≤ h + 12 → ¬ ((k = h ∧ (j = 1 ∨ j = 5)) ∨ ((k = h + 3 ∨ k = h + 4 ∨ k = h + 5) ∧ j = hs A 1)) → ¬ P k j := fun k j x y q p => by
    rcases hP k j p with r | r | r
    · omega
    · omega
    · exact q r
  refine ⟨?_, ⟨fun j hj => ?_, ?_, fun t i q => ?_, fun r hr => ?_, fun p hp => ?_⟩, hDr_W W h10 ha hb hab hz⟩
  · unfold pSh
    rw [F.S, F.Ra]; exact S
  · by_cases x1 : j = 1
    · subst x1; rw [e1, hDr_1]
    · by_cases x5 : j = 5
      · subst x5; rw [e5, hDr_5]
      · rw [F.i (no _ _ (by omega) (by omega) (by omega)), hDr_s ⟨x1, x5⟩]; exact V.1 j hj
  · rw [F.i (no _ _ (by omega) (by omega) (by omega))]; exact V.2.1
  · have t20 := hok_t q
    have pr := pRow_in (h := h) t20
    by_cases x : i = hs A 1 ∧ t < 3
    · obtain ⟨x1, x2⟩ := x
      subst x1
      rw [hDr_n x2, show pRow h t = h + 3 + t from if_pos x2, show pIdx t (hs A 1) = hs A 1 by unfold pIdx; rw [if_neg (by omega), if_neg (by omega)]]
      by_cases y0 : t = 0
      · subst y0; rw [if_pos rfl]; exact ea
      · by_cases y1 : t = 1
        · subst y1; rw [if_neg (by decide), if_pos rfl]; exact eb
        · have y2 : t = 2 := by omega
          subst y2; rw [if_neg (by decide), if_neg (by decide)]; exact ez
    · rw [hDr_o x]
      have q' := hDr_ok x q
      have e : dtI μ' (pRow h t) (pIdx t i) = dtI μ (pRow h t) (pIdx t i) := by
        refine F.i (no _ _ (by omega) (by omega) (fun y => ?_))
        unfold pRow pIdx at y
        by_cases t3 : t < 3
        · rw [if_pos t3, if_neg (by omega), if_neg (by omega)] at y
          omega
        · rw [if_neg t3] at y
          by_cases t4 : t = 3
          · rw [if_pos t4] at y; omega
          · rw [if_neg t4] at y
            by_cases t8 : t < 8
            · rw [if_pos t8] at y; omega
            · rw [if_neg t8] at y
              by_cases t12 : t < 12
              · rw [if_pos t12] at y; omega
              · rw [if_neg t12] at y; omega
      rw [e]; exact V.2.2.1 t i q'
  · rw [F.j (no _ _ (by omega) (by omega) (by omega))]; exact V.2.2.2.1 r hr
  · rw [F.j (no _ _ (by omega) (by omega) (by omega))]; exact V.2.2.2.2 p hp
theorem MH.doored {P : Nat → Nat → Prop} {μ μ' : dtM} {B nb a b z : Nat} {op : Bool} {A : aH} (H : MH μ B nb A) (h10 : hs A 1 < 10) (ha : a < hs A 0) (hb : b < hs A 0) (hab : ¬ a = b) (hz : z ≤ 9) (F : Fr P μ μ') (hP : ∀ k j, P k j → k = 133 ∨ (k = 134 ∧ (j = B + 1 ∨ j = B + 5 ∨ (B + 10 + 3 * hs A 1 ≤ j ∧ j < B + 13 + 3 * hs A 1)))) (e1 : dtI μ' 134 (B + 1) = Int32.ofNat (hs A 1 + 1)) (e5 : dtI μ' 134 (B + 5) = Int32.ofNat (dOp A op)) (ea : dtI μ' 134 (B + 10 + 3 * hs A 1) = Int32.ofNat a) (eb : dtI μ' 134 (B + 10 + 3 * hs A 1 + 1) = Int32.ofNat b) (ez : dtI μ' 134 (B + 10 + 3 * hs A 1 + 2) = Int32.ofNat z) : MH μ' B nb (hDr A a b z op) := by
  obtain ⟨S, V, W⟩ := H
  have no : ∀ j, ¬ (j = B + 1 ∨ j = B + 5 ∨ (B + 10 + 3 * hs A 1 ≤ j ∧ j < B + 13 + 3 * hs A 1)) → ¬ P 134 j := fun j q p => by
    rcases hP _ _ p with r | r
    · omega
    · exact q r.2
  have no5 : ∀ j, ¬ P 135 j := fun j p => by
    have := hP _ _ p
    omega
  refine ⟨?_, ⟨fun j hj => ?_, ?_, fun t i x => ?_, fun wd k hw h1 h2 => ?_, fun r hr => ?_, fun p hp => ?_⟩, hDr_W W h10 ha hb hab hz⟩
  · unfold mSh
    rw [F.S, F.Ra]; exact S
  · by_cases x1 : j = 1
    · subst x1; rw [e1, hDr_1]
    · by_cases x5 : j = 5
      · subst x5; rw [e5, hDr_5]
      · rw [F.i (no _ (by omega)), hDr_s ⟨x1, x5⟩]; exact V.1 j hj
  · rw [F.i (no _ (by omega))]; exact V.2.1
  · by_cases y : i = hs A 1 ∧ t < 3
    · obtain ⟨x1, x2⟩ := y
      subst x1
      rw [hDr_n x2, show mIdx t (hs A 1) = 10 + 3 * hs A 1 + t from if_pos x2, show B + (10 + 3 * hs A 1 + t) = B + 10 + 3 * hs A 1 + t by omega]
      by_cases y0 : t = 0
      · subst y0; rw [if_pos rfl]; exact ea
      · by_cases y1 : t = 1
        · subst y1; rw [if_neg (by decide), if_pos rfl]; exact eb
        · have y2 : t = 2 := by omega
          subst y2; rw [if_neg (by decide), if_neg (by decide)]; exact ez
    · rw [hDr_o y]
      have q' := hDr_ok y x
      have m10 := mIdx_hok W q'
      have e : ¬ (10 + 3 * hs A 1 ≤ mIdx t i ∧ mIdx t i < 13 + 3 * hs A 1) := by
        unfold mIdx
        by_cases t3 : t < 3
        · rw [if_pos t3]
          unfold hok at q'
          omega
        · rw [if_neg t3]
          by_cases t8 : t < 8
          · rw [if_pos t8]; omega
          · rw [if_neg t8]; omega
      rw [F.i (no _ (by omega))]; exact V.2.2.1 t i q'
  · rw [hDr_s (by decide)] at hw
    rw [hDr_o (by omega)] at h1
    have y : mIdx (4 + k) wd = 40 + 5 * wd + (1 + k) := by
      unfold mIdx
      rw [if_neg (by omega), if_pos (by omega)]; omega
    rw [F.i (no _ (by rw [y]; omega))]; exact V.2.2.2.1 wd k hw h1 h2
  · rw [F.j (no5 _)]; exact V.2.2.2.2.1 r hr
  · rw [F.j (no5 _)]; exact V.2.2.2.2.2 p hp
