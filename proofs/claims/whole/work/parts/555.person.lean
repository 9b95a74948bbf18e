/-! PURE 95: a person told: the houses -/
def hPe (A : aH) (l : List Nat) (rm df kn : Nat) : aH := ((fun j => if j = 3 then hs A 3 + 1 else hs A j), (fun t i => if i = hs A 3 ∧ 8 ≤ t ∧ t < 12 then (if t = 8 then rm else if t = 9 then df else if t = 10 then kn else 0) else ht A t i), hm A, hrn A, (fun p => if p = hs A 3 then l else hpn A p))
theorem hPe_s {A : aH} {l : List Nat} {rm df kn j : Nat} (h : ¬ j = 3) : hs (hPe A l rm df kn) j = hs A j := if_neg h
theorem hPe_3 {A : aH} {l : List Nat} {rm df kn : Nat} : hs (hPe A l rm df kn) 3 = hs A 3 + 1 := rfl
theorem hPe_o {A : aH} {l : List Nat} {rm df kn t i : Nat} (h : ¬ (i = hs A 3 ∧ 8 ≤ t ∧ t < 12)) : ht (hPe A l rm df kn) t i = ht A t i := if_neg h
theorem hPe_n {A : aH} {l : List Nat} {rm df kn t : Nat} (h : 8 ≤ t ∧ t < 12) : ht (hPe A l rm df kn) t (hs A 3) = if t = 8 then rm else if t = 9 then df else if t = 10 then kn else 0 := if_pos ⟨rfl, h⟩
theorem hPe_ok {A : aH} {l : List Nat} {rm df kn t i : Nat} (e : ¬ (i = hs A 3 ∧ 8 ≤ t ∧ t < 12)) (q : hok (hPe A l rm df kn) t i) : hok A t i := by
  unfold hok at q ⊢
  rw [hPe_3, hPe_s (by decide), hPe_s (by decide), hPe_o (show ¬ (i = hs A 3 ∧ 8 ≤ 3 ∧ 3 < 12) by omega)] at q
  rcases q with q | q | q | q | q
  · exact Or.inl q
  · exact Or.inr (Or.inl q)
  · exact Or.inr (Or.inr (Or.inl q))
  · exact Or.inr (Or.inr (Or.inr (Or.inl ⟨q.1, by omega⟩)))
  · by_cases x : i = hs A 3
    · rw [x, hPe_n (by decide), if_neg (by decide), if_neg (by decide), if_neg (by decide)] at q
      omega
    · rw [hPe_o (fun y => x y.1)] at q
      exact Or.inr (Or.inr (Or.inr (Or.inr ⟨q.1, by omega, q.2.2⟩)))
theorem hPe_W {A : aH} {l : List Nat} {rm df kn : Nat} (W : hWF A) (h5 : hs A 3 < 5) (ok : nOk l) (hr : rm < hs A 0) (hd : df ≤ 9) (hk : kn < 2 ^ hs A 2) : hWF (hPe A l rm df kn) := by
  obtain ⟨⟨a0, a1, a2, a3, a4, a5⟩, k1, k2, k3, k4, k5⟩ := W
  unfold hWF
  rw [hPe_3, hPe_s (by decide), hPe_s (by decide), hPe_s (by decide), hPe_s (by decide), hPe_s (by decide)]
  refine ⟨⟨a0, a1, a2, by omega, a4, a5⟩, fun d hd => ?_, fun w hw => ?_, fun p hp => ?_, fun r hr => k4 r hr, fun p hp => ?_⟩
  · rw [hPe_o (by omega), hPe_o (by omega), hPe_o (by omega)]; exact k1 d hd
  · rw [hPe_o (by omega)]
    have y := k2 w hw
    refine ⟨y.1, y.2.1, fun k hk => ?_⟩
    rw [hPe_o (by omega)]; exact y.2.2 k hk
  · by_cases x : p = hs A 3
    · rw [x, hPe_n (by decide), hPe_n (by decide), hPe_n (by decide), hPe_n (by decide), if_pos rfl, if_neg (by decide), if_pos rfl, if_neg (by decide), if_neg (by decide), if_pos rfl, if_neg (by decide), if_neg (by decide), if_neg (by decide)]
      exact ⟨hr, hd, hk, Nat.zero_le _, fun k hk => absurd hk (Nat.not_lt_zero _)⟩
    · rw [hPe_o (fun y => x y.1), hPe_o (fun y => x y.1), hPe_o (fun y => x y.1), hPe_o (fun y => x y.1)]
      have y := k3 p (by omega)
      refine ⟨y.1, y.2.1, y.2.2.1, y.2.2.2.1, fun k hk => ?_⟩
      rw [hPe_o (fun y => x y.1)]; exact y.2.2.2.2 k hk
  · show nOk (if p = hs A 3 then l else hpn A p)
    by_cases x : p = hs A 3
    · rw [if_pos x]; exact ok
    · rw [if_neg x]; exact k5 p (by omega)
theorem PH.personed {P : Nat → Nat → Prop} {μ μ' : dtM} {h rm df kn : Nat} {l : List Nat} {A : aH} (H : PH μ h A) (h5 : hs A 3 < 5) (ok : nOk l) (hr : rm < hs A 0) (hd : df ≤ 9) (hk : kn < 2 ^ hs A 2) (F : Fr P μ μ') (hP : ∀ k j, P k j → k < h ∨ h + 12 < k ∨ (k = h ∧ j = 3) ∨ ((k = h + 2 ∨ k = h + 8 ∨ k = h + 9 ∨ k = h + 10 ∨ k = h + 11) ∧ j = hs A 3)) (e3 : dtI μ' h 3 = Int32.ofNat (hs A 3 + 1)) (en : dtJ μ' (h + 2) (hs A 3) = n32 l) (er : dtI μ' (h + 8) (hs A 3) = Int32.ofNat rm) (ed : dtI μ' (h + 9) (hs A 3) = Int32.ofNat df) (ek : dtI μ' (h + 10) (hs A 3) = Int32.ofNat kn) (eh : dtI μ' (h + 11) (hs A 3) = Int32.ofNat 0) : PH μ' h (hPe A l rm df kn) := by
  obtain ⟨S, V, W⟩ := H
  have no : ∀ k j, h ≤ k → k ≤ h + 12 → ¬ ((k = h ∧ j = 3) ∨ ((k = h + 2 ∨ k = h + 8 ∨ k = h + 9 ∨ k = h + 10 ∨ k = h + 11) ∧ j = hs A 3)) → ¬ P k j := fun k j x y q p => by
    rcases hP k j p with r | r | r
    · omega
    · omega
    · exact q r
  refine ⟨?_, ⟨fun j hj => ?_, ?_, fun t i q => ?_, fun r hr => ?_, fun p hp => ?_⟩, hPe_W W h5 ok hr hd hk⟩
  · unfold pSh
    rw [F.S, F.Ra]; exact S
  · by_cases x3 : j = 3
    · subst x3; rw [e3, hPe_3]
    · rw [F.i (no _ _ (by omega) (by omega) (by omega)), hPe_s x3]; exact V.1 j hj
  · rw [F.i (no _ _ (by omega) (by omega) (by omega))]; exact V.2.1
  · have t20 := hok_t q
    have pr := pRow_in (h := h) t20
    by_cases x : i = hs A 3 ∧ 8 ≤ t ∧ t < 12
    · obtain ⟨x1, x2⟩ := x
      subst x1
      rw [hPe_n x2, show pRow h t = h + t by unfold pRow; rw [if_neg (by omega), if_neg (by omega), if_neg (by omega), if_pos (by omega)], show pIdx t (hs A 3) = hs A 3 by unfold pIdx; rw [if_neg (by omega), if_neg (by omega)]]
      by_cases y0 : t = 8
      · subst y0; rw [if_pos rfl]; exact er
      · by_cases y1 : t = 9
        · subst y1; rw [if_neg (by decide), if_pos rfl]; exact ed
        · by_cases y2 : t = 10
          · subst y2; rw [if_neg (by decide), if_neg (by decide), if_pos rfl]; exact ek
          · have y3 : t = 11 := by omega
            subst y3; rw [if_neg (by decide), if_neg (by decide), if_neg (by decide)]; exact eh
    · rw [hPe_o x]
      have q' := hPe_ok x q
      have e : dtI μ' (pRow h t) (pIdx t i) = dtI μ (pRow h t) (pIdx t i) := by
        refine F.i (no _ _ (by omega) (by omega) (fun y => ?_))
        unfold pRow pIdx at y
        by_cases t3 : t < 3
        · rw [if_pos t3] at y; omega
        · rw [if_neg t3] at y
          by_cases t4 : t = 3
          · rw [if_pos t4] at y; omega
          · rw [if_neg t4] at y
            by_cases t8 : t < 8
            · rw [if_pos t8] at y; omega
            · rw [if_neg t8] at y
              by_cases t12 : t < 12
              · rw [if_pos t12, if_neg (by omega), if_neg (by omega)] at y; omega
              · rw [if_neg t12] at y; omega
      rw [e]; exact V.2.2.1 t i q'
  · rw [F.j (no _ _ (by omega) (by omega) (by omega))]; exact V.2.2.2.1 r hr
  · show dtJ μ' (h + 2) p = n32 (if p = hs A 3 then l else hpn A p)
    by_cases x : p = hs A 3
    · rw [if_pos x, x, en]
    · rw [if_neg x, F.j (no _ _ (by omega) (by omega) (by omega))]
      rw [hPe_3] at hp
      exact V.2.2.2.2 p (by omega)
theorem MH.personed {P : Nat → Nat → Prop} {μ μ' : dtM} {B nb rm df kn : Nat} {l : List Nat} {A : aH} (H : MH μ B nb A) (h5 : hs A 3 < 5) (ok : nOk l) (hr : rm < hs A 0) (hd : df ≤ 9) (hk : kn < 2 ^ hs A 2) (F : Fr P μ μ') (hP : ∀ k j, P k j → k = 133 ∨ (k = 134 ∧ (j = B + 3 ∨ B + 136 ≤ j ∨ (B + 75 + 12 * hs A 3 ≤ j ∧ j < B + 78 + 12 * hs A 3))) ∨ (k = 135 ∧ j = nb + 14 + hs A 3)) (e3 : dtI μ' 134 (B + 3) = Int32.ofNat (hs A 3 + 1)) (en : dtJ μ' 135 (nb + 14 + hs A 3) = n256 l) (er : dtI μ' 134 (B + 75 + 12 * hs A 3) = Int32.ofNat rm) (ed : dtI μ' 134 (B + 76 + 12 * hs A 3) = Int32.ofNat df) (ek : dtI μ' 134 (B + 77 + 12 * hs A 3) = Int32.ofNat kn) (eh : dtI μ' 134 (B + 78 + 12 * hs A 3) = Int32.ofNat 0) : MH μ' B nb (hPe A l rm df kn) := by
  obtain ⟨S, V, W⟩ := H
  have nr := W.1.1
  have no : ∀ j, ¬ (j = B + 3 ∨ B + 136 ≤ j ∨ (B + 75 + 12 * hs A 3 ≤ j ∧ j < B + 78 + 12 * hs A 3)) → ¬ P 134 j := fun j q p => by
    rcases hP _ _ p with r | r | r
    · omega
    · exact q r.2
    · omega
  refine ⟨?_, ⟨fun j hj => ?_, ?_, fun t i x => ?_, fun wd k hw h1 h2 => ?_, fun r hr => ?_, fun p hp => ?_⟩, hPe_W W h5 ok hr hd hk⟩
  · unfold mSh
    rw [F.S, F.Ra]; exact S
  · by_cases x3 : j = 3
    · subst x3; rw [e3, hPe_3]
    · rw [F.i (no _ (by omega)), hPe_s x3]; exact V.1 j hj
  · rw [F.i (no _ (by omega))]; exact V.2.1
  · by_cases y : i = hs A 3 ∧ 8 ≤ t ∧ t < 12
    · obtain ⟨x1, x2⟩ := y
      subst x1
      rw [hPe_n x2, show mIdx t (hs A 3) = 75 + 12 * hs A 3 + (t - 8) by unfold mIdx; rw [if_neg (by omega), if_neg (by omega)]]
      by_cases y0 : t = 8
      · subst y0; rw [if_pos rfl, show B + (75 + 12 * hs A 3 + (8 - 8)) = B + 75 + 12 * hs A 3 by omega]; exact er
      · by_cases y1 : t = 9
        · subst y1; rw [if_neg (by decide), if_pos rfl, show B + (75 + 12 * hs A 3 + (9 - 8)) = B + 76 + 12 * hs A 3 by omega]; exact ed
        · by_cases y2 : t = 10
          · subst y2; rw [if_neg (by decide), if_neg (by decide), if_pos rfl, show B + (75 + 12 * hs A 3 + (10 - 8)) = B + 77 + 12 * hs A 3 by omega]; exact ek
          · have y3 : t = 11 := by omega
            subst y3; rw [if_neg (by decide), if_neg (by decide), if_neg (by decide), show B + (75 + 12 * hs A 3 + (11 - 8)) = B + 78 + 12 * hs A 3 by omega]; exact eh
    · rw [hPe_o y]
      have q' := hPe_ok y x
      have m10 := mIdx_hok W q'
      have e : ¬ (75 + 12 * hs A 3 ≤ mIdx t i ∧ mIdx t i < 78 + 12 * hs A 3) := by
        have np := W.1.2.2.2.1
        unfold mIdx
        unfold hok at q'
        by_cases t3 : t < 3
        · rw [if_pos t3]
          have := W.1.2.1
          omega
        · rw [if_neg t3]
          by_cases t8 : t < 8
          · rw [if_pos t8]
            have := W.1.2.2.1
            omega
          · rw [if_neg t8]; omega
      rw [F.i (no _ (by omega))]; exact V.2.2.1 t i q'
  · rw [hPe_s (by decide)] at hw
    rw [hPe_o (by omega)] at h1
    have w7 := W.1.2.2.1
    have y : mIdx (4 + k) wd = 40 + 5 * wd + (1 + k) := by
      unfold mIdx
      rw [if_neg (by omega), if_pos (by omega)]; omega
    rw [F.i (no _ (by rw [y]; omega))]; exact V.2.2.2.1 wd k hw h1 h2
  · rw [hPe_s (by decide)] at hr
    rw [F.j (fun x => by have := hP _ _ x; omega)]; exact V.2.2.2.2.1 r hr
  · show dtJ μ' 135 (nb + 14 + p) = n256 (if p = hs A 3 then l else hpn A p)
    by_cases x : p = hs A 3
    · rw [if_pos x, x, en]
    · rw [if_neg x, F.j (fun y => by have := hP _ _ y; omega)]
      rw [hPe_3] at hp
      exact V.2.2.2.2.2 p (by omega)
