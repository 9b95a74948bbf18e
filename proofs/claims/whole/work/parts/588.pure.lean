/-! PURE 999992: the law's loop, and the whole -/
theorem z_end {L i : Nat} (hL : L ≤ 384) (hi : i ≤ 400) : (Int32.ofNat L - (6 : Int32) < Int32.ofNat i) = (L < i + 6) := by
  apply propext
  rw [Int32.lt_iff_toInt_lt, show (6 : Int32) = Int32.ofNat 6 from rfl, z_subI (by omega) (by decide), z_tI (by omega)]
  omega
theorem l_step {K : Nat → Nat → Int32 → dtM → Option (Int32 × dtM)} {L i : Nat} {xs : Nat → Int32} {μ : dtM} {v : Int32} (h : Lw L xs μ) (hL : L ≤ 384) (hi : i + 6 ≤ L) : ∃ μ2, (if v = 0 then (f_L_law_272 K 0 133 (Int32.ofNat i) μ) else if v = 1 then (f_L_law_285 K 0 133 (Int32.ofNat i) μ) else if v = 2 then (f_L_law_299 K 0 133 (Int32.ofNat i) μ) else if v = 3 then (f_L_law_313 K 0 133 (Int32.ofNat i) μ) else if v = 4 then (f_L_law_356 K 0 133 (Int32.ofNat i) μ) else if v = 5 then (f_L_law_429 K 0 133 (Int32.ofNat i) μ) else if v = 6 then (f_L_law_463 K 0 133 (Int32.ofNat i) μ) else if v = 7 then (f_L_law_526 K 0 133 (Int32.ofNat i) μ) else if v = 8 then (f_L_law_589 K 0 133 (Int32.ofNat i) μ) else if v = 9 then (f_L_law_612 K 0 133 (Int32.ofNat i) μ) else if v = 10 then (f_L_law_635 K 0 133 (Int32.ofNat i) μ) else if v = 11 then (f_L_law_658 K 0 133 (Int32.ofNat i) μ) else if v = 12 then (f_L_law_681 K 0 133 (Int32.ofNat i) μ) else if v = 13 then (f_L_law_714 K 0 133 (Int32.ofNat i) μ) else if v = 14 then (f_L_law_737 K 0 133 (Int32.ofNat i) μ) else if v = 15 then (f_L_law_770 K 0 133 (Int32.ofNat i) μ) else if v = 16 then (f_L_law_803 K 0 133 (Int32.ofNat i) μ) else if v = 17 then (f_L_law_836 K 0 133 (Int32.ofNat i) μ) else if v = 18 then (f_L_law_879 K 0 133 (Int32.ofNat i) μ) else if v = 19 then (f_L_law_912 K 0 133 (Int32.ofNat i) μ) else if v = 20 then (f_L_law_945 K 0 133 (Int32.ofNat i) μ) else if v = 21 then (f_L_law_968 K 0 133 (Int32.ofNat i) μ) else if v = 22 then (f_L_law_1027 K 0 133 (Int32.ofNat i) μ) else if v = 23 then (f_L_law_1060 K 0 133 (Int32.ofNat i) μ) else if v = 24 then (f_L_law_1083 K 0 133 (Int32.ofNat i) μ) else if v = 25 then (f_L_law_1116 K 0 133 (Int32.ofNat i) μ) else if v = 26 then (f_L_law_1149 K 0 133 (Int32.ofNat i) μ) else if v = 27 then (f_L_law_1172 K 0 133 (Int32.ofNat i) μ) else if v = 28 then (f_L_law_1205 K 0 133 (Int32.ofNat i) μ) else if v = 29 then (f_L_law_1238 K 0 133 (Int32.ofNat i) μ) else if v = 30 then (f_L_law_1271 K 0 133 (Int32.ofNat i) μ) else if v = 31 then (f_L_law_1314 K 0 133 (Int32.ofNat i) μ) else if v = 32 then (f_L_law_1367 K 0 133 (Int32.ofNat i) μ) else if v = 33 then (f_L_law_1390 K 0 133 (Int32.ofNat i) μ) else if v = 34 then (f_L_law_1413 K 0 133 (Int32.ofNat i) μ) else if v = 35 then (f_L_law_1446 K 0 133 (Int32.ofNat i) μ) else if v = 36 then (f_L_law_1489 K 0 133 (Int32.ofNat i) μ) else if v = 37 then (f_L_law_1532 K 0 133 (Int32.ofNat i) μ) else if v = 38 then (f_L_law_1555 K 0 133 (Int32.ofNat i) μ) else if v = 39 then (f_L_law_1588 K 0 133 (Int32.ofNat i) μ) else if v = 40 then (f_L_law_1621 K 0 133 (Int32.ofNat i) μ) else if v = 41 then (f_L_law_1654 K 0 133 (Int32.ofNat i) μ) else if v = 42 then (f_L_law_1697 K 0 133 (Int32.ofNat i) μ) else if v = 43 then (f_L_law_1720 K 0 133 (Int32.ofNat i) μ) else if v = 44 then (f_L_law_1753 K 0 133 (Int32.ofNat i) μ) else if v = 45 then (f_L_law_1786 K 0 133 (Int32.ofNat i) μ) else if v = 46 then (f_L_law_1819 K 0 133 (Int32.ofNat i) μ) else if v = 47 then (f_L_law_1852 K 0 133 (Int32.ofNat i) μ) else if v = 48 then (f_L_law_1885 K 0 133 (Int32.ofNat i) μ) else if v = 49 then (f_L_law_1918 K 0 133 (Int32.ofNat i) μ) else if v = 50 then (f_L_law_1951 K 0 133 (Int32.ofNat i) μ) else if v = 51 then (f_L_law_1974 K 0 133 (Int32.ofNat i) μ) else if v = 52 then (f_L_law_1997 K 0 133 (Int32.ofNat i) μ) else if v = 53 then (f_L_law_2020 K 0 133 (Int32.ofNat i) μ) else if v = 54 then (f_L_law_2053 K 0 133 (Int32.ofNat i) μ) else if v = 55 then (f_L_law_2066 K 0 133 (Int32.ofNat i) μ) else f_L_law_2079 K 0 133 (Int32.ofNat i) μ) = K 0 133 (Int32.ofNat (i + 6)) μ2 ∧ Lw L xs μ2 := by
  by_cases q0 : v = 0
  · rw [if_pos q0]; exact lc_0 h hL hi
  rw [if_neg q0]
  by_cases q1 : v = 1
  · rw [if_pos q1]; exact lc_1 h hL hi
  rw [if_neg q1]
  by_cases q2 : v = 2
  · rw [if_pos q2]; exact lc_2 h hL hi
  rw [if_neg q2]
  by_cases q3 : v = 3
  · rw [if_pos q3]; exact lc_3 h hL hi
  rw [if_neg q3]
  by_cases q4 : v = 4
  · rw [if_pos q4]; exact lc_4 h hL hi
  rw [if_neg q4]
  by_cases q5 : v = 5
  · rw [if_pos q5]; exact lc_5 h hL hi
  rw [if_neg q5]
  by_cases q6 : v = 6
  · rw [if_pos q6]; exact lc_6 h hL hi
  rw [if_neg q6]
  by_cases q7 : v = 7
  · rw [if_pos q7]; exact lc_7 h hL hi
  rw [if_neg q7]
  by_cases q8 : v = 8
  · rw [if_pos q8]; exact lc_8 h hL hi
  rw [if_neg q8]
  by_cases q9 : v = 9
  · rw [if_pos q9]; exact lc_9 h hL hi
  rw [if_neg q9]
  by_cases q10 : v = 10
  · rw [if_pos q10]; exact lc_10 h hL hi
  rw [if_neg q10]
  by_cases q11 : v = 11
  · rw [if_pos q11]; exact lc_11 h hL hi
  rw [if_neg q11]
  by_cases q12 : v = 12
  · rw [if_pos q12]; exact lc_12 h hL hi
  rw [if_neg q12]
  by_cases q13 : v = 13
  · rw [if_pos q13]; exact lc_13 h hL hi
  rw [if_neg q13]
  by_cases q14 : v = 14
  · rw [if_pos q14]; exact lc_14 h hL hi
  rw [if_neg q14]
  by_cases q15 : v = 15
  · rw [if_pos q15]; exact lc_15 h hL hi
  rw [if_neg q15]
  by_cases q16 : v = 16
  · rw [if_pos q16]; exact lc_16 h hL hi
  rw [if_neg q16]
  by_cases q17 : v = 17
  · rw [if_pos q17]; exact lc_17 h hL hi
  rw [if_neg q17]
  by_cases q18 : v = 18
  · rw [if_pos q18]; exact lc_18 h hL hi
  rw [if_neg q18]
  by_cases q19 : v = 19
  · rw [if_pos q19]; exact lc_19 h hL hi
  rw [if_neg q19]
  by_cases q20 : v = 20
  · rw [if_pos q20]; exact lc_20 h hL hi
  rw [if_neg q20]
  by_cases q21 : v = 21
  · rw [if_pos q21]; exact lc_21 h hL hi
  rw [if_neg q21]
  by_cases q22 : v = 22
  · rw [if_pos q22]; exact lc_22 h hL hi
  rw [if_neg q22]
  by_cases q23 : v = 23
  · rw [if_pos q23]; exact lc_23 h hL hi
  rw [if_neg q23]
  by_cases q24 : v = 24
  · rw [if_pos q24]; exact lc_24 h hL hi
  rw [if_neg q24]
  by_cases q25 : v = 25
  · rw [if_pos q25]; exact lc_25 h hL hi
  rw [if_neg q25]
  by_cases q26 : v = 26
  · rw [if_pos q26]; exact lc_26 h hL hi
  rw [if_neg q26]
  by_cases q27 : v = 27
  · rw [if_pos q27]; exact lc_27 h hL hi
  rw [if_neg q27]
  by_cases q28 : v = 28
  · rw [if_pos q28]; exact lc_28 h hL hi
  rw [if_neg q28]
  by_cases q29 : v = 29
  · rw [if_pos q29]; exact lc_29 h hL hi
  rw [if_neg q29]
  by_cases q30 : v = 30
  · rw [if_pos q30]; exact lc_30 h hL hi
  rw [if_neg q30]
  by_cases q31 : v = 31
  · rw [if_pos q31]; exact lc_31 h hL hi
  rw [if_neg q31]
  by_cases q32 : v = 32
  · rw [if_pos q32]; exact lc_32 h hL hi
  rw [if_neg q32]
  by_cases q33 : v = 33
  · rw [if_pos q33]; exact lc_33 h hL hi
  rw [if_neg q33]
  by_cases q34 : v = 34
  · rw [if_pos q34]; exact lc_34 h hL hi
  rw [if_neg q34]
  by_cases q35 : v = 35
  · rw [if_pos q35]; exact lc_35 h hL hi
  rw [if_neg q35]
  by_cases q36 : v = 36
  · rw [if_pos q36]; exact lc_36 h hL hi
  rw [if_neg q36]
  by_cases q37 : v = 37
  · rw [if_pos q37]; exact lc_37 h hL hi
  rw [if_neg q37]
  by_cases q38 : v = 38
  · rw [if_pos q38]; exact lc_38 h hL hi
  rw [if_neg q38]
  by_cases q39 : v = 39
  · rw [if_pos q39]; exact lc_39 h hL hi
  rw [if_neg q39]
  by_cases q40 : v = 40
  · rw [if_pos q40]; exact lc_40 h hL hi
  rw [if_neg q40]
  by_cases q41 : v = 41
  · rw [if_pos q41]; exact lc_41 h hL hi
  rw [if_neg q41]
  by_cases q42 : v = 42
  · rw [if_pos q42]; exact lc_42 h hL hi
  rw [if_neg q42]
  by_cases q43 : v = 43
  · rw [if_pos q43]; exact lc_43 h hL hi
  rw [if_neg q43]
  by_cases q44 : v = 44
  · rw [if_pos q44]; exact lc_44 h hL hi
  rw [if_neg q44]
  by_cases q45 : v = 45
  · rw [if_pos q45]; exact lc_45 h hL hi
  rw [if_neg q45]
  by_cases q46 : v = 46
  · rw [if_pos q46]; exact lc_46 h hL hi
  rw [if_neg q46]
  by_cases q47 : v = 47
  · rw [if_pos q47]; exact lc_47 h hL hi
  rw [if_neg q47]
  by_cases q48 : v = 48
  · rw [if_pos q48]; exact lc_48 h hL hi
  rw [if_neg q48]
  by_cases q49 : v = 49
  · rw [if_pos q49]; exact lc_49 h hL hi
  rw [if_neg q49]
  by_cases q50 : v = 50
  · rw [if_pos q50]; exact lc_50 h hL hi
  rw [if_neg q50]
  by_cases q51 : v = 51
  · rw [if_pos q51]; exact lc_51 h hL hi
  rw [if_neg q51]
  by_cases q52 : v = 52
  · rw [if_pos q52]; exact lc_52 h hL hi
  rw [if_neg q52]
  by_cases q53 : v = 53
  · rw [if_pos q53]; exact lc_53 h hL hi
  rw [if_neg q53]
  by_cases q54 : v = 54
  · rw [if_pos q54]; exact lc_54 h hL hi
  rw [if_neg q54]
  by_cases q55 : v = 55
  · rw [if_pos q55]; exact lc_55 h hL hi
  rw [if_neg q55]
  exact ⟨μ, l_2079, h⟩
theorem l_18 {L : Nat} {xs : Nat → Int32} (hL : L ≤ 384) : ∀ (m f i : Nat) (μ : dtM), L < i + 6 * (m + 1) → i ≤ L → m < f → Lw L xs μ → ∃ F, f_L_law_18 f 0 133 (Int32.ofNat i) μ = some (1, F) ∧ Lw L xs F
  | _, 0, _, _, _, _, hf, _ => absurd hf (Nat.not_lt_zero _)
  | m, f + 1, i, μ, hm, hi, hf, h => by
    have hS := h.2.1
    have hI := h.2.2
    have ze := z_end (L := L) (i := i) hL (by omega)
    by_cases q : L < i + 6
    · refine ⟨μ, ?_, h⟩
      rw [f_L_law_18, hS, if_pos (Eq.mpr ze q), o_ret1]
    · have s0 : opScr μ (Int32.ofNat i) = some (xs i) := by
        unfold opScr
        rw [hS, hI, if_pos (o_ix (show i < L by omega) (by omega)), z_cl (by omega)]
      obtain ⟨m', hm'⟩ : ∃ m', m = m' + 1 := ⟨m - 1, by omega⟩
      obtain ⟨μ2, e2, h2⟩ := l_step (K := f_L_law_18 f) (i := i) (v := xs i &&& (63 : Int32)) h hL (by omega)
      obtain ⟨F, e3, h3⟩ := l_18 hL m' f (i + 6) μ2 (by omega) (by omega) (by omega) h2
      refine ⟨F, ?_, h3⟩
      rw [f_L_law_18, hS, if_neg (fun x => q (Eq.mp ze x)), s0, o_bind]
      exact e2.trans e3
theorem dtPure {L : Nat} (hL : L ≤ 384) (xs : Nat → Int32) : ∃ F, f_L_law (dtMu0 L xs) = some (1, F) ∧ dtN F ≤ 600000 ∧ dtZ F ≤ 7302250 := by
  obtain ⟨μ, e, r, hS, hI⟩ := dtBegun (L := L) (xs := xs)
  obtain ⟨F, e2, ⟨w, f, A, z, HP, _, _⟩, _, _⟩ := l_18 (L := L) (xs := xs) hL 70 dtFuel 0 μ (by omega) (Nat.zero_le _) (dtFuel_gt (by decide)) ⟨r, hS, hI⟩
  exact ⟨F, e.trans e2, HP.c.1.1, HP.c.1.2⟩
