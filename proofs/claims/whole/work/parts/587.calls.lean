/-! PURE 999991: the law's calls, one by one -/
def Lw (L : Nat) (xs : Nat → Int32) (μ : dtM) : Prop := RR μ ∧ dtS μ 1000000 = (8, L) ∧ dtI μ 1000000 = xs
theorem o_scr {μ : dtM} {L i k : Nat} {xs : Nat → Int32} (hS : dtS μ 1000000 = (8, L)) (hI : dtI μ 1000000 = xs) (hL : L ≤ 384) (h : i + k < L) : opScr μ (Int32.ofNat i + Int32.ofNat k) = some (xs (i + k)) := by
  unfold opScr
  rw [z_add, hS, hI, if_pos (o_ix h (by omega)), z_cl (by omega)]
theorem Fw.scS {μ μ' : dtM} (F : Fw LA μ μ') {L : Nat} (h : dtS μ 1000000 = (8, L)) : dtS μ' 1000000 = (8, L) := by rw [F.S]; exact h
theorem Fw.scI {μ μ' : dtM} (F : Fw LA μ μ') {xs : Nat → Int32} (h : dtI μ 1000000 = xs) : dtI μ' 1000000 = xs := by
  rw [← h]
  funext j
  exact F.i (show ¬ 1000000 < 154 by decide)
theorem l_2079 {K : Nat → Nat → Int32 → dtM → Option (Int32 × dtM)} {i : Nat} {μ : dtM} : f_L_law_2079 K 0 133 (Int32.ofNat i) μ = K 0 133 (Int32.ofNat (i + 6)) μ := by
  rw [f_L_law_2079, show (6 : Int32) = Int32.ofNat 6 from rfl, z_add]
theorem lc_0 {K : Nat → Nat → Int32 → dtM → Option (Int32 × dtM)} {L i : Nat} {xs : Nat → Int32} {μ : dtM} (h : Lw L xs μ) (hL : L ≤ 384) (hi : i + 6 ≤ L) : ∃ μ2, f_L_law_272 K 0 133 (Int32.ofNat i) μ = K 0 133 (Int32.ofNat (i + 6)) μ2 ∧ Lw L xs μ2 := by
  obtain ⟨⟨w, f, A, z, HP, HM, W⟩, hS, hI⟩ := h
  obtain ⟨v, μ1, μ2, e1, e2, r, F, G⟩ := (cs0 HP HM W ).w
  have C := HP.c
  have C1 := C.keptW G
  refine ⟨μ2, ?_, r, F.scS hS, F.scI hI⟩
  rw [f_L_law_272, C.v0, o_bind, e1, o_call, C1.v133, o_bind, e2, o_call, if_pos rfl, l_2079]
theorem lc_1 {K : Nat → Nat → Int32 → dtM → Option (Int32 × dtM)} {L i : Nat} {xs : Nat → Int32} {μ : dtM} (h : Lw L xs μ) (hL : L ≤ 384) (hi : i + 6 ≤ L) : ∃ μ2, f_L_law_285 K 0 133 (Int32.ofNat i) μ = K 0 133 (Int32.ofNat (i + 6)) μ2 ∧ Lw L xs μ2 := by
  obtain ⟨⟨w, f, A, z, HP, HM, W⟩, hS, hI⟩ := h
  obtain ⟨v, μ1, μ2, e1, e2, r, F, G⟩ := (cs1 HP HM W ).w
  have C := HP.c
  have C1 := C.keptW G
  refine ⟨μ2, ?_, r, F.scS hS, F.scI hI⟩
  rw [f_L_law_285, C.v0, o_bind, e1, o_call, C1.v133, o_bind, e2, o_call, if_pos (Eq.mpr (l_eq0 _ _) rfl), l_2079]
theorem lc_2 {K : Nat → Nat → Int32 → dtM → Option (Int32 × dtM)} {L i : Nat} {xs : Nat → Int32} {μ : dtM} (h : Lw L xs μ) (hL : L ≤ 384) (hi : i + 6 ≤ L) : ∃ μ2, f_L_law_299 K 0 133 (Int32.ofNat i) μ = K 0 133 (Int32.ofNat (i + 6)) μ2 ∧ Lw L xs μ2 := by
  obtain ⟨⟨w, f, A, z, HP, HM, W⟩, hS, hI⟩ := h
  obtain ⟨v, μ1, μ2, e1, e2, r, F, G⟩ := (cs2 HP HM W ).w
  have C := HP.c
  have C1 := C.keptW G
  refine ⟨μ2, ?_, r, F.scS hS, F.scI hI⟩
  rw [f_L_law_299, C.v0, o_bind, e1, o_call, C1.v133, o_bind, e2, o_call, if_pos (Eq.mpr (l_eq0 _ _) rfl), l_2079]
theorem lc_3 {K : Nat → Nat → Int32 → dtM → Option (Int32 × dtM)} {L i : Nat} {xs : Nat → Int32} {μ : dtM} (h : Lw L xs μ) (hL : L ≤ 384) (hi : i + 6 ≤ L) : ∃ μ2, f_L_law_313 K 0 133 (Int32.ofNat i) μ = K 0 133 (Int32.ofNat (i + 6)) μ2 ∧ Lw L xs μ2 := by
  obtain ⟨⟨w, f, A, z, HP, HM, W⟩, hS, hI⟩ := h
  obtain ⟨v, μ1, μ2, e1, e2, r, F, G⟩ := (cs3 HP HM W (xs (i + 1)) (xs (i + 2)) (xs (i + 3))).w
  have C := HP.c
  have C1 := C.keptW G
  have s1 : opScr μ (Int32.ofNat i + (1 : Int32)) = some (xs (i + 1)) := o_scr (k := 1) hS hI hL (by omega)
  have s2 : opScr μ (Int32.ofNat i + (2 : Int32)) = some (xs (i + 2)) := o_scr (k := 2) hS hI hL (by omega)
  have s3 : opScr μ (Int32.ofNat i + (3 : Int32)) = some (xs (i + 3)) := o_scr (k := 3) hS hI hL (by omega)
  have t1 : opScr μ1 (Int32.ofNat i + (1 : Int32)) = some (xs (i + 1)) := o_scr (k := 1) (G.scS hS) (G.scI hI) hL (by omega)
  have t2 : opScr μ1 (Int32.ofNat i + (2 : Int32)) = some (xs (i + 2)) := o_scr (k := 2) (G.scS hS) (G.scI hI) hL (by omega)
  have t3 : opScr μ1 (Int32.ofNat i + (3 : Int32)) = some (xs (i + 3)) := o_scr (k := 3) (G.scS hS) (G.scI hI) hL (by omega)
  refine ⟨μ2, ?_, r, F.scS hS, F.scI hI⟩
  rw [f_L_law_313, s1, s2, s3, o_bind, o_bind, o_bind, C.v0, o_bind, e1, o_call, t1, t2, t3, o_bind, o_bind, o_bind, C1.v133, o_bind, e2, o_call, if_pos rfl, l_2079]
theorem lc_4 {K : Nat → Nat → Int32 → dtM → Option (Int32 × dtM)} {L i : Nat} {xs : Nat → Int32} {μ : dtM} (h : Lw L xs μ) (hL : L ≤ 384) (hi : i + 6 ≤ L) : ∃ μ2, f_L_law_356 K 0 133 (Int32.ofNat i) μ = K 0 133 (Int32.ofNat (i + 6)) μ2 ∧ Lw L xs μ2 := by
  obtain ⟨⟨w, f, A, z, HP, HM, W⟩, hS, hI⟩ := h
  obtain ⟨v, μ1, μ2, e1, e2, r, F, G⟩ := (cs4 HP HM W (xs (i + 1)) (xs (i + 2)) ((((xs (i + 3)).toInt64) <<< ((32 : Int32).toInt64 &&& 63)) ||| (((xs (i + 4)).toInt64) &&& (4294967295 : Int64)))).w
  have C := HP.c
  have C1 := C.keptW G
  have s1 : opScr μ (Int32.ofNat i + (1 : Int32)) = some (xs (i + 1)) := o_scr (k := 1) hS hI hL (by omega)
  have s2 : opScr μ (Int32.ofNat i + (2 : Int32)) = some (xs (i + 2)) := o_scr (k := 2) hS hI hL (by omega)
  have s3 : opScr μ (Int32.ofNat i + (3 : Int32)) = some (xs (i + 3)) := o_scr (k := 3) hS hI hL (by omega)
  have s4 : opScr μ (Int32.ofNat i + (4 : Int32)) = some (xs (i + 4)) := o_scr (k := 4) hS hI hL (by omega)
  have t1 : opScr μ1 (Int32.ofNat i + (1 : Int32)) = some (xs (i + 1)) := o_scr (k := 1) (G.scS hS) (G.scI hI) hL (by omega)
  have t2 : opScr μ1 (Int32.ofNat i + (2 : Int32)) = some (xs (i + 2)) := o_scr (k := 2) (G.scS hS) (G.scI hI) hL (by omega)
  have t3 : opScr μ1 (Int32.ofNat i + (3 : Int32)) = some (xs (i + 3)) := o_scr (k := 3) (G.scS hS) (G.scI hI) hL (by omega)
  have t4 : opScr μ1 (Int32.ofNat i + (4 : Int32)) = some (xs (i + 4)) := o_scr (k := 4) (G.scS hS) (G.scI hI) hL (by omega)
  refine ⟨μ2, ?_, r, F.scS hS, F.scI hI⟩
  rw [f_L_law_356, s1, s2, s3, s4, o_bind, o_bind, o_bind, o_bind, C.v0, o_bind, e1, o_call, t1, t2, t3, t4, o_bind, o_bind, o_bind, o_bind, C1.v133, o_bind, e2, o_call, if_pos rfl, l_2079]
theorem lc_5 {K : Nat → Nat → Int32 → dtM → Option (Int32 × dtM)} {L i : Nat} {xs : Nat → Int32} {μ : dtM} (h : Lw L xs μ) (hL : L ≤ 384) (hi : i + 6 ≤ L) : ∃ μ2, f_L_law_429 K 0 133 (Int32.ofNat i) μ = K 0 133 (Int32.ofNat (i + 6)) μ2 ∧ Lw L xs μ2 := by
  obtain ⟨⟨w, f, A, z, HP, HM, W⟩, hS, hI⟩ := h
  obtain ⟨v, μ1, μ2, e1, e2, r, F, G⟩ := (cs5 HP HM W (xs (i + 1)) (xs (i + 2))).w
  have C := HP.c
  have C1 := C.keptW G
  have s1 : opScr μ (Int32.ofNat i + (1 : Int32)) = some (xs (i + 1)) := o_scr (k := 1) hS hI hL (by omega)
  have s2 : opScr μ (Int32.ofNat i + (2 : Int32)) = some (xs (i + 2)) := o_scr (k := 2) hS hI hL (by omega)
  have t1 : opScr μ1 (Int32.ofNat i + (1 : Int32)) = some (xs (i + 1)) := o_scr (k := 1) (G.scS hS) (G.scI hI) hL (by omega)
  have t2 : opScr μ1 (Int32.ofNat i + (2 : Int32)) = some (xs (i + 2)) := o_scr (k := 2) (G.scS hS) (G.scI hI) hL (by omega)
  refine ⟨μ2, ?_, r, F.scS hS, F.scI hI⟩
  rw [f_L_law_429, s1, s2, o_bind, o_bind, C.v0, o_bind, e1, o_call, t1, t2, o_bind, o_bind, C1.v133, o_bind, e2, o_call, if_pos (Eq.mpr (l_eq0 _ _) rfl), l_2079]
theorem lc_6 {K : Nat → Nat → Int32 → dtM → Option (Int32 × dtM)} {L i : Nat} {xs : Nat → Int32} {μ : dtM} (h : Lw L xs μ) (hL : L ≤ 384) (hi : i + 6 ≤ L) : ∃ μ2, f_L_law_463 K 0 133 (Int32.ofNat i) μ = K 0 133 (Int32.ofNat (i + 6)) μ2 ∧ Lw L xs μ2 := by
  obtain ⟨⟨w, f, A, z, HP, HM, W⟩, hS, hI⟩ := h
  obtain ⟨v, μ1, μ2, e1, e2, r, F, G⟩ := (cs6 HP HM W (xs (i + 1)) (xs (i + 2)) (xs (i + 3)) (xs (i + 4)) (xs (i + 5))).w
  have C := HP.c
  have C1 := C.keptW G
  have s1 : opScr μ (Int32.ofNat i + (1 : Int32)) = some (xs (i + 1)) := o_scr (k := 1) hS hI hL (by omega)
  have s2 : opScr μ (Int32.ofNat i + (2 : Int32)) = some (xs (i + 2)) := o_scr (k := 2) hS hI hL (by omega)
  have s3 : opScr μ (Int32.ofNat i + (3 : Int32)) = some (xs (i + 3)) := o_scr (k := 3) hS hI hL (by omega)
  have s4 : opScr μ (Int32.ofNat i + (4 : Int32)) = some (xs (i + 4)) := o_scr (k := 4) hS hI hL (by omega)
  have s5 : opScr μ (Int32.ofNat i + (5 : Int32)) = some (xs (i + 5)) := o_scr (k := 5) hS hI hL (by omega)
  have t1 : opScr μ1 (Int32.ofNat i + (1 : Int32)) = some (xs (i + 1)) := o_scr (k := 1) (G.scS hS) (G.scI hI) hL (by omega)
  have t2 : opScr μ1 (Int32.ofNat i + (2 : Int32)) = some (xs (i + 2)) := o_scr (k := 2) (G.scS hS) (G.scI hI) hL (by omega)
  have t3 : opScr μ1 (Int32.ofNat i + (3 : Int32)) = some (xs (i + 3)) := o_scr (k := 3) (G.scS hS) (G.scI hI) hL (by omega)
  have t4 : opScr μ1 (Int32.ofNat i + (4 : Int32)) = some (xs (i + 4)) := o_scr (k := 4) (G.scS hS) (G.scI hI) hL (by omega)
  have t5 : opScr μ1 (Int32.ofNat i + (5 : Int32)) = some (xs (i + 5)) := o_scr (k := 5) (G.scS hS) (G.scI hI) hL (by omega)
  refine ⟨μ2, ?_, r, F.scS hS, F.scI hI⟩
  rw [f_L_law_463, s1, s2, s3, s4, s5, o_bind, o_bind, o_bind, o_bind, o_bind, C.v0, o_bind, e1, o_call, t1, t2, t3, t4, t5, o_bind, o_bind, o_bind, o_bind, o_bind, C1.v133, o_bind, e2, o_call, if_pos rfl, l_2079]
theorem lc_7 {K : Nat → Nat → Int32 → dtM → Option (Int32 × dtM)} {L i : Nat} {xs : Nat → Int32} {μ : dtM} (h : Lw L xs μ) (hL : L ≤ 384) (hi : i + 6 ≤ L) : ∃ μ2, f_L_law_526 K 0 133 (Int32.ofNat i) μ = K 0 133 (Int32.ofNat (i + 6)) μ2 ∧ Lw L xs μ2 := by
  obtain ⟨⟨w, f, A, z, HP, HM, W⟩, hS, hI⟩ := h
  obtain ⟨v, μ1, μ2, e1, e2, r, F, G⟩ := (cs7 HP HM W (xs (i + 1)) (xs (i + 2)) (xs (i + 3)) (xs (i + 4)) (xs (i + 5))).w
  have C := HP.c
  have C1 := C.keptW G
  have s1 : opScr μ (Int32.ofNat i + (1 : Int32)) = some (xs (i + 1)) := o_scr (k := 1) hS hI hL (by omega)
  have s2 : opScr μ (Int32.ofNat i + (2 : Int32)) = some (xs (i + 2)) := o_scr (k := 2) hS hI hL (by omega)
  have s3 : opScr μ (Int32.ofNat i + (3 : Int32)) = some (xs (i + 3)) := o_scr (k := 3) hS hI hL (by omega)
  have s4 : opScr μ (Int32.ofNat i + (4 : Int32)) = some (xs (i + 4)) := o_scr (k := 4) hS hI hL (by omega)
  have s5 : opScr μ (Int32.ofNat i + (5 : Int32)) = some (xs (i + 5)) := o_scr (k := 5) hS hI hL (by omega)
  have t1 : opScr μ1 (Int32.ofNat i + (1 : Int32)) = some (xs (i + 1)) := o_scr (k := 1) (G.scS hS) (G.scI hI) hL (by omega)
  have t2 : opScr μ1 (Int32.ofNat i + (2 : Int32)) = some (xs (i + 2)) := o_scr (k := 2) (G.scS hS) (G.scI hI) hL (by omega)
  have t3 : opScr μ1 (Int32.ofNat i + (3 : Int32)) = some (xs (i + 3)) := o_scr (k := 3) (G.scS hS) (G.scI hI) hL (by omega)
  have t4 : opScr μ1 (Int32.ofNat i + (4 : Int32)) = some (xs (i + 4)) := o_scr (k := 4) (G.scS hS) (G.scI hI) hL (by omega)
  have t5 : opScr μ1 (Int32.ofNat i + (5 : Int32)) = some (xs (i + 5)) := o_scr (k := 5) (G.scS hS) (G.scI hI) hL (by omega)
  refine ⟨μ2, ?_, r, F.scS hS, F.scI hI⟩
  rw [f_L_law_526, s1, s2, s3, s4, s5, o_bind, o_bind, o_bind, o_bind, o_bind, C.v0, o_bind, e1, o_call, t1, t2, t3, t4, t5, o_bind, o_bind, o_bind, o_bind, o_bind, C1.v133, o_bind, e2, o_call, if_pos rfl, l_2079]
theorem lc_8 {K : Nat → Nat → Int32 → dtM → Option (Int32 × dtM)} {L i : Nat} {xs : Nat → Int32} {μ : dtM} (h : Lw L xs μ) (hL : L ≤ 384) (hi : i + 6 ≤ L) : ∃ μ2, f_L_law_589 K 0 133 (Int32.ofNat i) μ = K 0 133 (Int32.ofNat (i + 6)) μ2 ∧ Lw L xs μ2 := by
  obtain ⟨⟨w, f, A, z, HP, HM, W⟩, hS, hI⟩ := h
  obtain ⟨v, μ1, μ2, e1, e2, r, F, G⟩ := (cs8 HP HM W (xs (i + 1)))
  have C := HP.c
  have C1 := C.keptW G
  have s1 : opScr μ (Int32.ofNat i + (1 : Int32)) = some (xs (i + 1)) := o_scr (k := 1) hS hI hL (by omega)
  have t1 : opScr μ1 (Int32.ofNat i + (1 : Int32)) = some (xs (i + 1)) := o_scr (k := 1) (G.scS hS) (G.scI hI) hL (by omega)
  refine ⟨μ2, ?_, r, F.scS hS, F.scI hI⟩
  rw [f_L_law_589, s1, o_bind, C.v0, o_bind, e1, o_call, t1, o_bind, C1.v133, o_bind, e2, o_call, if_pos rfl, l_2079]
theorem lc_9 {K : Nat → Nat → Int32 → dtM → Option (Int32 × dtM)} {L i : Nat} {xs : Nat → Int32} {μ : dtM} (h : Lw L xs μ) (hL : L ≤ 384) (hi : i + 6 ≤ L) : ∃ μ2, f_L_law_612 K 0 133 (Int32.ofNat i) μ = K 0 133 (Int32.ofNat (i + 6)) μ2 ∧ Lw L xs μ2 := by
  obtain ⟨⟨w, f, A, z, HP, HM, W⟩, hS, hI⟩ := h
  obtain ⟨v, μ1, μ2, e1, e2, r, F, G⟩ := (cs9 HP HM W (xs (i + 1)))
  have C := HP.c
  have C1 := C.keptW G
  have s1 : opScr μ (Int32.ofNat i + (1 : Int32)) = some (xs (i + 1)) := o_scr (k := 1) hS hI hL (by omega)
  have t1 : opScr μ1 (Int32.ofNat i + (1 : Int32)) = some (xs (i + 1)) := o_scr (k := 1) (G.scS hS) (G.scI hI) hL (by omega)
  refine ⟨μ2, ?_, r, F.scS hS, F.scI hI⟩
  rw [f_L_law_612, s1, o_bind, C.v0, o_bind, e1, o_call, t1, o_bind, C1.v133, o_bind, e2, o_call, if_pos rfl, l_2079]
theorem lc_10 {K : Nat → Nat → Int32 → dtM → Option (Int32 × dtM)} {L i : Nat} {xs : Nat → Int32} {μ : dtM} (h : Lw L xs μ) (hL : L ≤ 384) (hi : i + 6 ≤ L) : ∃ μ2, f_L_law_635 K 0 133 (Int32.ofNat i) μ = K 0 133 (Int32.ofNat (i + 6)) μ2 ∧ Lw L xs μ2 := by
  obtain ⟨⟨w, f, A, z, HP, HM, W⟩, hS, hI⟩ := h
  obtain ⟨v, μ1, μ2, e1, e2, r, F, G⟩ := (cs10 HP HM W (xs (i + 1))).w
  have C := HP.c
  have C1 := C.keptW G
  have s1 : opScr μ (Int32.ofNat i + (1 : Int32)) = some (xs (i + 1)) := o_scr (k := 1) hS hI hL (by omega)
  have t1 : opScr μ1 (Int32.ofNat i + (1 : Int32)) = some (xs (i + 1)) := o_scr (k := 1) (G.scS hS) (G.scI hI) hL (by omega)
  refine ⟨μ2, ?_, r, F.scS hS, F.scI hI⟩
  rw [f_L_law_635, s1, o_bind, C.v0, o_bind, e1, o_call, t1, o_bind, C1.v133, o_bind, e2, o_call, if_pos rfl, l_2079]
theorem lc_11 {K : Nat → Nat → Int32 → dtM → Option (Int32 × dtM)} {L i : Nat} {xs : Nat → Int32} {μ : dtM} (h : Lw L xs μ) (hL : L ≤ 384) (hi : i + 6 ≤ L) : ∃ μ2, f_L_law_658 K 0 133 (Int32.ofNat i) μ = K 0 133 (Int32.ofNat (i + 6)) μ2 ∧ Lw L xs μ2 := by
  obtain ⟨⟨w, f, A, z, HP, HM, W⟩, hS, hI⟩ := h
  obtain ⟨v, μ1, μ2, e1, e2, r, F, G⟩ := (cs11 HP HM W (xs (i + 1))).w
  have C := HP.c
  have C1 := C.keptW G
  have s1 : opScr μ (Int32.ofNat i + (1 : Int32)) = some (xs (i + 1)) := o_scr (k := 1) hS hI hL (by omega)
  have t1 : opScr μ1 (Int32.ofNat i + (1 : Int32)) = some (xs (i + 1)) := o_scr (k := 1) (G.scS hS) (G.scI hI) hL (by omega)
  refine ⟨μ2, ?_, r, F.scS hS, F.scI hI⟩
  rw [f_L_law_658, s1, o_bind, C.v0, o_bind, e1, o_call, t1, o_bind, C1.v133, o_bind, e2, o_call, if_pos rfl, l_2079]
theorem lc_12 {K : Nat → Nat → Int32 → dtM → Option (Int32 × dtM)} {L i : Nat} {xs : Nat → Int32} {μ : dtM} (h : Lw L xs μ) (hL : L ≤ 384) (hi : i + 6 ≤ L) : ∃ μ2, f_L_law_681 K 0 133 (Int32.ofNat i) μ = K 0 133 (Int32.ofNat (i + 6)) μ2 ∧ Lw L xs μ2 := by
  obtain ⟨⟨w, f, A, z, HP, HM, W⟩, hS, hI⟩ := h
  obtain ⟨v, μ1, μ2, e1, e2, r, F, G⟩ := (cs12 HP HM W (xs (i + 1)) (xs (i + 2))).w
  have C := HP.c
  have C1 := C.keptW G
  have s1 : opScr μ (Int32.ofNat i + (1 : Int32)) = some (xs (i + 1)) := o_scr (k := 1) hS hI hL (by omega)
  have s2 : opScr μ (Int32.ofNat i + (2 : Int32)) = some (xs (i + 2)) := o_scr (k := 2) hS hI hL (by omega)
  have t1 : opScr μ1 (Int32.ofNat i + (1 : Int32)) = some (xs (i + 1)) := o_scr (k := 1) (G.scS hS) (G.scI hI) hL (by omega)
  have t2 : opScr μ1 (Int32.ofNat i + (2 : Int32)) = some (xs (i + 2)) := o_scr (k := 2) (G.scS hS) (G.scI hI) hL (by omega)
  refine ⟨μ2, ?_, r, F.scS hS, F.scI hI⟩
  rw [f_L_law_681, s1, s2, o_bind, o_bind, C.v0, o_bind, e1, o_call, t1, t2, o_bind, o_bind, C1.v133, o_bind, e2, o_call, if_pos rfl, l_2079]
theorem lc_13 {K : Nat → Nat → Int32 → dtM → Option (Int32 × dtM)} {L i : Nat} {xs : Nat → Int32} {μ : dtM} (h : Lw L xs μ) (hL : L ≤ 384) (hi : i + 6 ≤ L) : ∃ μ2, f_L_law_714 K 0 133 (Int32.ofNat i) μ = K 0 133 (Int32.ofNat (i + 6)) μ2 ∧ Lw L xs μ2 := by
  obtain ⟨⟨w, f, A, z, HP, HM, W⟩, hS, hI⟩ := h
  obtain ⟨v, μ1, μ2, e1, e2, r, F, G⟩ := (cs13 HP HM W (xs (i + 1))).w
  have C := HP.c
  have C1 := C.keptW G
  have s1 : opScr μ (Int32.ofNat i + (1 : Int32)) = some (xs (i + 1)) := o_scr (k := 1) hS hI hL (by omega)
  have t1 : opScr μ1 (Int32.ofNat i + (1 : Int32)) = some (xs (i + 1)) := o_scr (k := 1) (G.scS hS) (G.scI hI) hL (by omega)
  refine ⟨μ2, ?_, r, F.scS hS, F.scI hI⟩
  rw [f_L_law_714, s1, o_bind, C.v0, o_bind, e1, o_call, t1, o_bind, C1.v133, o_bind, e2, o_call, if_pos rfl, l_2079]
theorem lc_14 {K : Nat → Nat → Int32 → dtM → Option (Int32 × dtM)} {L i : Nat} {xs : Nat → Int32} {μ : dtM} (h : Lw L xs μ) (hL : L ≤ 384) (hi : i + 6 ≤ L) : ∃ μ2, f_L_law_737 K 0 133 (Int32.ofNat i) μ = K 0 133 (Int32.ofNat (i + 6)) μ2 ∧ Lw L xs μ2 := by
  obtain ⟨⟨w, f, A, z, HP, HM, W⟩, hS, hI⟩ := h
  obtain ⟨v, μ1, μ2, e1, e2, r, F, G⟩ := (cs14 HP HM W (xs (i + 1)) (xs (i + 2))).w
  have C := HP.c
  have C1 := C.keptW G
  have s1 : opScr μ (Int32.ofNat i + (1 : Int32)) = some (xs (i + 1)) := o_scr (k := 1) hS hI hL (by omega)
  have s2 : opScr μ (Int32.ofNat i + (2 : Int32)) = some (xs (i + 2)) := o_scr (k := 2) hS hI hL (by omega)
  have t1 : opScr μ1 (Int32.ofNat i + (1 : Int32)) = some (xs (i + 1)) := o_scr (k := 1) (G.scS hS) (G.scI hI) hL (by omega)
  have t2 : opScr μ1 (Int32.ofNat i + (2 : Int32)) = some (xs (i + 2)) := o_scr (k := 2) (G.scS hS) (G.scI hI) hL (by omega)
  refine ⟨μ2, ?_, r, F.scS hS, F.scI hI⟩
  rw [f_L_law_737, s1, s2, o_bind, o_bind, C.v0, o_bind, e1, o_call, t1, t2, o_bind, o_bind, C1.v133, o_bind, e2, o_call, if_pos rfl, l_2079]
theorem lc_15 {K : Nat → Nat → Int32 → dtM → Option (Int32 × dtM)} {L i : Nat} {xs : Nat → Int32} {μ : dtM} (h : Lw L xs μ) (hL : L ≤ 384) (hi : i + 6 ≤ L) : ∃ μ2, f_L_law_770 K 0 133 (Int32.ofNat i) μ = K 0 133 (Int32.ofNat (i + 6)) μ2 ∧ Lw L xs μ2 := by
  obtain ⟨⟨w, f, A, z, HP, HM, W⟩, hS, hI⟩ := h
  obtain ⟨v, μ1, μ2, e1, e2, r, F, G⟩ := (cs15 HP HM W (xs (i + 1)) (xs (i + 2))).w
  have C := HP.c
  have C1 := C.keptW G
  have s1 : opScr μ (Int32.ofNat i + (1 : Int32)) = some (xs (i + 1)) := o_scr (k := 1) hS hI hL (by omega)
  have s2 : opScr μ (Int32.ofNat i + (2 : Int32)) = some (xs (i + 2)) := o_scr (k := 2) hS hI hL (by omega)
  have t1 : opScr μ1 (Int32.ofNat i + (1 : Int32)) = some (xs (i + 1)) := o_scr (k := 1) (G.scS hS) (G.scI hI) hL (by omega)
  have t2 : opScr μ1 (Int32.ofNat i + (2 : Int32)) = some (xs (i + 2)) := o_scr (k := 2) (G.scS hS) (G.scI hI) hL (by omega)
  refine ⟨μ2, ?_, r, F.scS hS, F.scI hI⟩
  rw [f_L_law_770, s1, s2, o_bind, o_bind, C.v0, o_bind, e1, o_call, t1, t2, o_bind, o_bind, C1.v133, o_bind, e2, o_call, if_pos rfl, l_2079]
theorem lc_16 {K : Nat → Nat → Int32 → dtM → Option (Int32 × dtM)} {L i : Nat} {xs : Nat → Int32} {μ : dtM} (h : Lw L xs μ) (hL : L ≤ 384) (hi : i + 6 ≤ L) : ∃ μ2, f_L_law_803 K 0 133 (Int32.ofNat i) μ = K 0 133 (Int32.ofNat (i + 6)) μ2 ∧ Lw L xs μ2 := by
  obtain ⟨⟨w, f, A, z, HP, HM, W⟩, hS, hI⟩ := h
  obtain ⟨v, μ1, μ2, e1, e2, r, F, G⟩ := (cs16 HP HM W (xs (i + 1)) (xs (i + 2))).w
  have C := HP.c
  have C1 := C.keptW G
  have s1 : opScr μ (Int32.ofNat i + (1 : Int32)) = some (xs (i + 1)) := o_scr (k := 1) hS hI hL (by omega)
  have s2 : opScr μ (Int32.ofNat i + (2 : Int32)) = some (xs (i + 2)) := o_scr (k := 2) hS hI hL (by omega)
  have t1 : opScr μ1 (Int32.ofNat i + (1 : Int32)) = some (xs (i + 1)) := o_scr (k := 1) (G.scS hS) (G.scI hI) hL (by omega)
  have t2 : opScr μ1 (Int32.ofNat i + (2 : Int32)) = some (xs (i + 2)) := o_scr (k := 2) (G.scS hS) (G.scI hI) hL (by omega)
  refine ⟨μ2, ?_, r, F.scS hS, F.scI hI⟩
  rw [f_L_law_803, s1, s2, o_bind, o_bind, C.v0, o_bind, e1, o_call, t1, t2, o_bind, o_bind, C1.v133, o_bind, e2, o_call, if_pos rfl, l_2079]
theorem lc_17 {K : Nat → Nat → Int32 → dtM → Option (Int32 × dtM)} {L i : Nat} {xs : Nat → Int32} {μ : dtM} (h : Lw L xs μ) (hL : L ≤ 384) (hi : i + 6 ≤ L) : ∃ μ2, f_L_law_836 K 0 133 (Int32.ofNat i) μ = K 0 133 (Int32.ofNat (i + 6)) μ2 ∧ Lw L xs μ2 := by
  obtain ⟨⟨w, f, A, z, HP, HM, W⟩, hS, hI⟩ := h
  obtain ⟨v, μ1, μ2, e1, e2, r, F, G⟩ := (cs17 HP HM W (xs (i + 1)) (xs (i + 2)) (xs (i + 3))).w
  have C := HP.c
  have C1 := C.keptW G
  have s1 : opScr μ (Int32.ofNat i + (1 : Int32)) = some (xs (i + 1)) := o_scr (k := 1) hS hI hL (by omega)
  have s2 : opScr μ (Int32.ofNat i + (2 : Int32)) = some (xs (i + 2)) := o_scr (k := 2) hS hI hL (by omega)
  have s3 : opScr μ (Int32.ofNat i + (3 : Int32)) = some (xs (i + 3)) := o_scr (k := 3) hS hI hL (by omega)
  have t1 : opScr μ1 (Int32.ofNat i + (1 : Int32)) = some (xs (i + 1)) := o_scr (k := 1) (G.scS hS) (G.scI hI) hL (by omega)
  have t2 : opScr μ1 (Int32.ofNat i + (2 : Int32)) = some (xs (i + 2)) := o_scr (k := 2) (G.scS hS) (G.scI hI) hL (by omega)
  have t3 : opScr μ1 (Int32.ofNat i + (3 : Int32)) = some (xs (i + 3)) := o_scr (k := 3) (G.scS hS) (G.scI hI) hL (by omega)
  refine ⟨μ2, ?_, r, F.scS hS, F.scI hI⟩
  rw [f_L_law_836, s1, s2, s3, o_bind, o_bind, o_bind, C.v0, o_bind, e1, o_call, t1, t2, t3, o_bind, o_bind, o_bind, C1.v133, o_bind, e2, o_call, if_pos rfl, l_2079]
theorem lc_18 {K : Nat → Nat → Int32 → dtM → Option (Int32 × dtM)} {L i : Nat} {xs : Nat → Int32} {μ : dtM} (h : Lw L xs μ) (hL : L ≤ 384) (hi : i + 6 ≤ L) : ∃ μ2, f_L_law_879 K 0 133 (Int32.ofNat i) μ = K 0 133 (Int32.ofNat (i + 6)) μ2 ∧ Lw L xs μ2 := by
  obtain ⟨⟨w, f, A, z, HP, HM, W⟩, hS, hI⟩ := h
  obtain ⟨v, μ1, μ2, e1, e2, r, F, G⟩ := (cs18 HP HM W (xs (i + 1)) (xs (i + 2))).w
  have C := HP.c
  have C1 := C.keptW G
  have s1 : opScr μ (Int32.ofNat i + (1 : Int32)) = some (xs (i + 1)) := o_scr (k := 1) hS hI hL (by omega)
  have s2 : opScr μ (Int32.ofNat i + (2 : Int32)) = some (xs (i + 2)) := o_scr (k := 2) hS hI hL (by omega)
  have t1 : opScr μ1 (Int32.ofNat i + (1 : Int32)) = some (xs (i + 1)) := o_scr (k := 1) (G.scS hS) (G.scI hI) hL (by omega)
  have t2 : opScr μ1 (Int32.ofNat i + (2 : Int32)) = some (xs (i + 2)) := o_scr (k := 2) (G.scS hS) (G.scI hI) hL (by omega)
  refine ⟨μ2, ?_, r, F.scS hS, F.scI hI⟩
  rw [f_L_law_879, s1, s2, o_bind, o_bind, C.v0, o_bind, e1, o_call, t1, t2, o_bind, o_bind, C1.v133, o_bind, e2, o_call, if_pos rfl, l_2079]
theorem lc_19 {K : Nat → Nat → Int32 → dtM → Option (Int32 × dtM)} {L i : Nat} {xs : Nat → Int32} {μ : dtM} (h : Lw L xs μ) (hL : L ≤ 384) (hi : i + 6 ≤ L) : ∃ μ2, f_L_law_912 K 0 133 (Int32.ofNat i) μ = K 0 133 (Int32.ofNat (i + 6)) μ2 ∧ Lw L xs μ2 := by
  obtain ⟨⟨w, f, A, z, HP, HM, W⟩, hS, hI⟩ := h
  obtain ⟨v, μ1, μ2, e1, e2, r, F, G⟩ := (csGo HP HM W (xs (i + 1)) (xs (i + 2))).w
  have C := HP.c
  have C1 := C.keptW G
  have s1 : opScr μ (Int32.ofNat i + (1 : Int32)) = some (xs (i + 1)) := o_scr (k := 1) hS hI hL (by omega)
  have s2 : opScr μ (Int32.ofNat i + (2 : Int32)) = some (xs (i + 2)) := o_scr (k := 2) hS hI hL (by omega)
  have t1 : opScr μ1 (Int32.ofNat i + (1 : Int32)) = some (xs (i + 1)) := o_scr (k := 1) (G.scS hS) (G.scI hI) hL (by omega)
  have t2 : opScr μ1 (Int32.ofNat i + (2 : Int32)) = some (xs (i + 2)) := o_scr (k := 2) (G.scS hS) (G.scI hI) hL (by omega)
  refine ⟨μ2, ?_, r, F.scS hS, F.scI hI⟩
  rw [f_L_law_912, s1, s2, o_bind, o_bind, C.v0, o_bind, e1, o_call, t1, t2, o_bind, o_bind, C1.v133, o_bind, e2, o_call, if_pos rfl, l_2079]
theorem lc_20 {K : Nat → Nat → Int32 → dtM → Option (Int32 × dtM)} {L i : Nat} {xs : Nat → Int32} {μ : dtM} (h : Lw L xs μ) (hL : L ≤ 384) (hi : i + 6 ≤ L) : ∃ μ2, f_L_law_945 K 0 133 (Int32.ofNat i) μ = K 0 133 (Int32.ofNat (i + 6)) μ2 ∧ Lw L xs μ2 := by
  obtain ⟨⟨w, f, A, z, HP, HM, W⟩, hS, hI⟩ := h
  obtain ⟨v, μ1, μ2, e1, e2, r, F, G⟩ := (cs20 HP HM W (xs (i + 1))).w
  have C := HP.c
  have C1 := C.keptW G
  have s1 : opScr μ (Int32.ofNat i + (1 : Int32)) = some (xs (i + 1)) := o_scr (k := 1) hS hI hL (by omega)
  have t1 : opScr μ1 (Int32.ofNat i + (1 : Int32)) = some (xs (i + 1)) := o_scr (k := 1) (G.scS hS) (G.scI hI) hL (by omega)
  refine ⟨μ2, ?_, r, F.scS hS, F.scI hI⟩
  rw [f_L_law_945, s1, o_bind, C.v0, o_bind, e1, o_call, t1, o_bind, C1.v133, o_bind, e2, o_call, if_pos rfl, l_2079]
theorem lc_21 {K : Nat → Nat → Int32 → dtM → Option (Int32 × dtM)} {L i : Nat} {xs : Nat → Int32} {μ : dtM} (h : Lw L xs μ) (hL : L ≤ 384) (hi : i + 6 ≤ L) : ∃ μ2, f_L_law_968 K 0 133 (Int32.ofNat i) μ = K 0 133 (Int32.ofNat (i + 6)) μ2 ∧ Lw L xs μ2 := by
  obtain ⟨⟨w, f, A, z, HP, HM, W⟩, hS, hI⟩ := h
  have C := HP.c
  have s1 : opScr μ (Int32.ofNat i + (1 : Int32)) = some (xs (i + 1)) := o_scr (k := 1) hS hI hL (by omega)
  have s2 : opScr μ (Int32.ofNat i + (2 : Int32)) = some (xs (i + 2)) := o_scr (k := 2) hS hI hL (by omega)
  have s3 : opScr μ (Int32.ofNat i + (3 : Int32)) = some (xs (i + 3)) := o_scr (k := 3) hS hI hL (by omega)
  have go : ∀ b : Bool, (bI b = if xs (i + 3) = 0 then 0 else 1) → ∃ μ2, f_L_law_992 K 0 133 (Int32.ofNat i) 0 (xs (i + 1)) (xs (i + 2)) (bI b) μ = K 0 133 (Int32.ofNat (i + 6)) μ2 ∧ Lw L xs μ2 := fun b hb => by
    obtain ⟨v, μ1, μ2, e1, e2, r, F, G⟩ := (cs21 HP HM W (xs (i + 1)) (xs (i + 2)) b).w
    have C1 := C.keptW G
    have S1 := G.scS hS
    have I1 := G.scI hI
    have t1 : opScr μ1 (Int32.ofNat i + (1 : Int32)) = some (xs (i + 1)) := o_scr (k := 1) S1 I1 hL (by omega)
    have t2 : opScr μ1 (Int32.ofNat i + (2 : Int32)) = some (xs (i + 2)) := o_scr (k := 2) S1 I1 hL (by omega)
    have t3 : opScr μ1 (Int32.ofNat i + (3 : Int32)) = some (xs (i + 3)) := o_scr (k := 3) S1 I1 hL (by omega)
    refine ⟨μ2, ?_, r, F.scS hS, F.scI hI⟩
    have e19 : f_L_law_1019 K 0 133 (Int32.ofNat i) v 133 (xs (i + 1)) (xs (i + 2)) (bI b) μ1 = K 0 133 (Int32.ofNat (i + 6)) μ2 := by
      rw [f_L_law_1019, C1.v133, o_bind, e2, o_call, if_pos rfl, l_2079]
    rw [f_L_law_992, C.v0, o_bind, e1, o_call, t1, t2, t3, o_bind, o_bind, o_bind]
    by_cases q : xs (i + 3) = 0
    · rw [if_pos q] at hb ⊢
      rw [← hb]; exact e19
    · rw [if_neg q] at hb ⊢
      rw [← hb]; exact e19
  rw [f_L_law_968, s1, s2, s3, o_bind, o_bind, o_bind]
  by_cases q : xs (i + 3) = 0
  · rw [if_pos q]
    exact go false (by rw [if_pos q]; rfl)
  · rw [if_neg q]
    exact go true (by rw [if_neg q]; rfl)
theorem lc_22 {K : Nat → Nat → Int32 → dtM → Option (Int32 × dtM)} {L i : Nat} {xs : Nat → Int32} {μ : dtM} (h : Lw L xs μ) (hL : L ≤ 384) (hi : i + 6 ≤ L) : ∃ μ2, f_L_law_1027 K 0 133 (Int32.ofNat i) μ = K 0 133 (Int32.ofNat (i + 6)) μ2 ∧ Lw L xs μ2 := by
  obtain ⟨⟨w, f, A, z, HP, HM, W⟩, hS, hI⟩ := h
  obtain ⟨v, μ1, μ2, e1, e2, r, F, G⟩ := (cs22 HP HM W (xs (i + 1)) (xs (i + 2))).w
  have C := HP.c
  have C1 := C.keptW G
  have s1 : opScr μ (Int32.ofNat i + (1 : Int32)) = some (xs (i + 1)) := o_scr (k := 1) hS hI hL (by omega)
  have s2 : opScr μ (Int32.ofNat i + (2 : Int32)) = some (xs (i + 2)) := o_scr (k := 2) hS hI hL (by omega)
  have t1 : opScr μ1 (Int32.ofNat i + (1 : Int32)) = some (xs (i + 1)) := o_scr (k := 1) (G.scS hS) (G.scI hI) hL (by omega)
  have t2 : opScr μ1 (Int32.ofNat i + (2 : Int32)) = some (xs (i + 2)) := o_scr (k := 2) (G.scS hS) (G.scI hI) hL (by omega)
  refine ⟨μ2, ?_, r, F.scS hS, F.scI hI⟩
  rw [f_L_law_1027, s1, s2, o_bind, o_bind, C.v0, o_bind, e1, o_call, t1, t2, o_bind, o_bind, C1.v133, o_bind, e2, o_call, if_pos rfl, l_2079]
theorem lc_23 {K : Nat → Nat → Int32 → dtM → Option (Int32 × dtM)} {L i : Nat} {xs : Nat → Int32} {μ : dtM} (h : Lw L xs μ) (hL : L ≤ 384) (hi : i + 6 ≤ L) : ∃ μ2, f_L_law_1060 K 0 133 (Int32.ofNat i) μ = K 0 133 (Int32.ofNat (i + 6)) μ2 ∧ Lw L xs μ2 := by
  obtain ⟨⟨w, f, A, z, HP, HM, W⟩, hS, hI⟩ := h
  obtain ⟨v, μ1, μ2, e1, e2, r, F, G⟩ := (cs23 HP HM W (xs (i + 1))).w
  have C := HP.c
  have C1 := C.keptW G
  have s1 : opScr μ (Int32.ofNat i + (1 : Int32)) = some (xs (i + 1)) := o_scr (k := 1) hS hI hL (by omega)
  have t1 : opScr μ1 (Int32.ofNat i + (1 : Int32)) = some (xs (i + 1)) := o_scr (k := 1) (G.scS hS) (G.scI hI) hL (by omega)
  refine ⟨μ2, ?_, r, F.scS hS, F.scI hI⟩
  rw [f_L_law_1060, s1, o_bind, C.v0, o_bind, e1, o_call, t1, o_bind, C1.v133, o_bind, e2, o_call, if_pos rfl, l_2079]
theorem lc_24 {K : Nat → Nat → Int32 → dtM → Option (Int32 × dtM)} {L i : Nat} {xs : Nat → Int32} {μ : dtM} (h : Lw L xs μ) (hL : L ≤ 384) (hi : i + 6 ≤ L) : ∃ μ2, f_L_law_1083 K 0 133 (Int32.ofNat i) μ = K 0 133 (Int32.ofNat (i + 6)) μ2 ∧ Lw L xs μ2 := by
  obtain ⟨⟨w, f, A, z, HP, HM, W⟩, hS, hI⟩ := h
  obtain ⟨v, μ1, μ2, e1, e2, r, F, G⟩ := (cs24 HP HM W (xs (i + 1)) (xs (i + 2))).w
  have C := HP.c
  have C1 := C.keptW G
  have s1 : opScr μ (Int32.ofNat i + (1 : Int32)) = some (xs (i + 1)) := o_scr (k := 1) hS hI hL (by omega)
  have s2 : opScr μ (Int32.ofNat i + (2 : Int32)) = some (xs (i + 2)) := o_scr (k := 2) hS hI hL (by omega)
  have t1 : opScr μ1 (Int32.ofNat i + (1 : Int32)) = some (xs (i + 1)) := o_scr (k := 1) (G.scS hS) (G.scI hI) hL (by omega)
  have t2 : opScr μ1 (Int32.ofNat i + (2 : Int32)) = some (xs (i + 2)) := o_scr (k := 2) (G.scS hS) (G.scI hI) hL (by omega)
  refine ⟨μ2, ?_, r, F.scS hS, F.scI hI⟩
  rw [f_L_law_1083, s1, s2, o_bind, o_bind, C.v0, o_bind, e1, o_call, t1, t2, o_bind, o_bind, C1.v133, o_bind, e2, o_call, if_pos rfl, l_2079]
theorem lc_25 {K : Nat → Nat → Int32 → dtM → Option (Int32 × dtM)} {L i : Nat} {xs : Nat → Int32} {μ : dtM} (h : Lw L xs μ) (hL : L ≤ 384) (hi : i + 6 ≤ L) : ∃ μ2, f_L_law_1116 K 0 133 (Int32.ofNat i) μ = K 0 133 (Int32.ofNat (i + 6)) μ2 ∧ Lw L xs μ2 := by
  obtain ⟨⟨w, f, A, z, HP, HM, W⟩, hS, hI⟩ := h
  obtain ⟨v, μ1, μ2, e1, e2, r, F, G⟩ := (cs25 HP HM W (xs (i + 1)) (xs (i + 2))).w
  have C := HP.c
  have C1 := C.keptW G
  have s1 : opScr μ (Int32.ofNat i + (1 : Int32)) = some (xs (i + 1)) := o_scr (k := 1) hS hI hL (by omega)
  have s2 : opScr μ (Int32.ofNat i + (2 : Int32)) = some (xs (i + 2)) := o_scr (k := 2) hS hI hL (by omega)
  have t1 : opScr μ1 (Int32.ofNat i + (1 : Int32)) = some (xs (i + 1)) := o_scr (k := 1) (G.scS hS) (G.scI hI) hL (by omega)
  have t2 : opScr μ1 (Int32.ofNat i + (2 : Int32)) = some (xs (i + 2)) := o_scr (k := 2) (G.scS hS) (G.scI hI) hL (by omega)
  refine ⟨μ2, ?_, r, F.scS hS, F.scI hI⟩
  rw [f_L_law_1116, s1, s2, o_bind, o_bind, C.v0, o_bind, e1, o_call, t1, t2, o_bind, o_bind, C1.v133, o_bind, e2, o_call, if_pos rfl, l_2079]
theorem lc_26 {K : Nat → Nat → Int32 → dtM → Option (Int32 × dtM)} {L i : Nat} {xs : Nat → Int32} {μ : dtM} (h : Lw L xs μ) (hL : L ≤ 384) (hi : i + 6 ≤ L) : ∃ μ2, f_L_law_1149 K 0 133 (Int32.ofNat i) μ = K 0 133 (Int32.ofNat (i + 6)) μ2 ∧ Lw L xs μ2 := by
  obtain ⟨⟨w, f, A, z, HP, HM, W⟩, hS, hI⟩ := h
  obtain ⟨v, μ1, μ2, e1, e2, r, F, G⟩ := (cs26 HP HM W (xs (i + 1))).w
  have C := HP.c
  have C1 := C.keptW G
  have s1 : opScr μ (Int32.ofNat i + (1 : Int32)) = some (xs (i + 1)) := o_scr (k := 1) hS hI hL (by omega)
  have t1 : opScr μ1 (Int32.ofNat i + (1 : Int32)) = some (xs (i + 1)) := o_scr (k := 1) (G.scS hS) (G.scI hI) hL (by omega)
  refine ⟨μ2, ?_, r, F.scS hS, F.scI hI⟩
  rw [f_L_law_1149, s1, o_bind, C.v0, o_bind, e1, o_call, t1, o_bind, C1.v133, o_bind, e2, o_call, if_pos rfl, l_2079]
theorem lc_27 {K : Nat → Nat → Int32 → dtM → Option (Int32 × dtM)} {L i : Nat} {xs : Nat → Int32} {μ : dtM} (h : Lw L xs μ) (hL : L ≤ 384) (hi : i + 6 ≤ L) : ∃ μ2, f_L_law_1172 K 0 133 (Int32.ofNat i) μ = K 0 133 (Int32.ofNat (i + 6)) μ2 ∧ Lw L xs μ2 := by
  obtain ⟨⟨w, f, A, z, HP, HM, W⟩, hS, hI⟩ := h
  obtain ⟨v, μ1, μ2, e1, e2, r, F, G⟩ := (cs27 HP HM W (xs (i + 1)) (xs (i + 2))).w
  have C := HP.c
  have C1 := C.keptW G
  have s1 : opScr μ (Int32.ofNat i + (1 : Int32)) = some (xs (i + 1)) := o_scr (k := 1) hS hI hL (by omega)
  have s2 : opScr μ (Int32.ofNat i + (2 : Int32)) = some (xs (i + 2)) := o_scr (k := 2) hS hI hL (by omega)
  have t1 : opScr μ1 (Int32.ofNat i + (1 : Int32)) = some (xs (i + 1)) := o_scr (k := 1) (G.scS hS) (G.scI hI) hL (by omega)
  have t2 : opScr μ1 (Int32.ofNat i + (2 : Int32)) = some (xs (i + 2)) := o_scr (k := 2) (G.scS hS) (G.scI hI) hL (by omega)
  refine ⟨μ2, ?_, r, F.scS hS, F.scI hI⟩
  rw [f_L_law_1172, s1, s2, o_bind, o_bind, C.v0, o_bind, e1, o_call, t1, t2, o_bind, o_bind, C1.v133, o_bind, e2, o_call, if_pos rfl, l_2079]
theorem lc_28 {K : Nat → Nat → Int32 → dtM → Option (Int32 × dtM)} {L i : Nat} {xs : Nat → Int32} {μ : dtM} (h : Lw L xs μ) (hL : L ≤ 384) (hi : i + 6 ≤ L) : ∃ μ2, f_L_law_1205 K 0 133 (Int32.ofNat i) μ = K 0 133 (Int32.ofNat (i + 6)) μ2 ∧ Lw L xs μ2 := by
  obtain ⟨⟨w, f, A, z, HP, HM, W⟩, hS, hI⟩ := h
  obtain ⟨v, μ1, μ2, e1, e2, r, F, G⟩ := (cs28 HP HM W (xs (i + 1)) (xs (i + 2))).w
  have C := HP.c
  have C1 := C.keptW G
  have s1 : opScr μ (Int32.ofNat i + (1 : Int32)) = some (xs (i + 1)) := o_scr (k := 1) hS hI hL (by omega)
  have s2 : opScr μ (Int32.ofNat i + (2 : Int32)) = some (xs (i + 2)) := o_scr (k := 2) hS hI hL (by omega)
  have t1 : opScr μ1 (Int32.ofNat i + (1 : Int32)) = some (xs (i + 1)) := o_scr (k := 1) (G.scS hS) (G.scI hI) hL (by omega)
  have t2 : opScr μ1 (Int32.ofNat i + (2 : Int32)) = some (xs (i + 2)) := o_scr (k := 2) (G.scS hS) (G.scI hI) hL (by omega)
  refine ⟨μ2, ?_, r, F.scS hS, F.scI hI⟩
  rw [f_L_law_1205, s1, s2, o_bind, o_bind, C.v0, o_bind, e1, o_call, t1, t2, o_bind, o_bind, C1.v133, o_bind, e2, o_call, if_pos rfl, l_2079]
theorem lc_29 {K : Nat → Nat → Int32 → dtM → Option (Int32 × dtM)} {L i : Nat} {xs : Nat → Int32} {μ : dtM} (h : Lw L xs μ) (hL : L ≤ 384) (hi : i + 6 ≤ L) : ∃ μ2, f_L_law_1238 K 0 133 (Int32.ofNat i) μ = K 0 133 (Int32.ofNat (i + 6)) μ2 ∧ Lw L xs μ2 := by
  obtain ⟨⟨w, f, A, z, HP, HM, W⟩, hS, hI⟩ := h
  obtain ⟨v, μ1, μ2, e1, e2, r, F, G⟩ := (cs29 HP HM W (xs (i + 1)) (xs (i + 2))).w
  have C := HP.c
  have C1 := C.keptW G
  have s1 : opScr μ (Int32.ofNat i + (1 : Int32)) = some (xs (i + 1)) := o_scr (k := 1) hS hI hL (by omega)
  have s2 : opScr μ (Int32.ofNat i + (2 : Int32)) = some (xs (i + 2)) := o_scr (k := 2) hS hI hL (by omega)
  have t1 : opScr μ1 (Int32.ofNat i + (1 : Int32)) = some (xs (i + 1)) := o_scr (k := 1) (G.scS hS) (G.scI hI) hL (by omega)
  have t2 : opScr μ1 (Int32.ofNat i + (2 : Int32)) = some (xs (i + 2)) := o_scr (k := 2) (G.scS hS) (G.scI hI) hL (by omega)
  refine ⟨μ2, ?_, r, F.scS hS, F.scI hI⟩
  rw [f_L_law_1238, s1, s2, o_bind, o_bind, C.v0, o_bind, e1, o_call, t1, t2, o_bind, o_bind, C1.v133, o_bind, e2, o_call, if_pos rfl, l_2079]
theorem lc_30 {K : Nat → Nat → Int32 → dtM → Option (Int32 × dtM)} {L i : Nat} {xs : Nat → Int32} {μ : dtM} (h : Lw L xs μ) (hL : L ≤ 384) (hi : i + 6 ≤ L) : ∃ μ2, f_L_law_1271 K 0 133 (Int32.ofNat i) μ = K 0 133 (Int32.ofNat (i + 6)) μ2 ∧ Lw L xs μ2 := by
  obtain ⟨⟨w, f, A, z, HP, HM, W⟩, hS, hI⟩ := h
  obtain ⟨v, μ1, μ2, e1, e2, r, F, G⟩ := (cs30 HP HM W (xs (i + 1)) (xs (i + 2)) (xs (i + 3))).w
  have C := HP.c
  have C1 := C.keptW G
  have s1 : opScr μ (Int32.ofNat i + (1 : Int32)) = some (xs (i + 1)) := o_scr (k := 1) hS hI hL (by omega)
  have s2 : opScr μ (Int32.ofNat i + (2 : Int32)) = some (xs (i + 2)) := o_scr (k := 2) hS hI hL (by omega)
  have s3 : opScr μ (Int32.ofNat i + (3 : Int32)) = some (xs (i + 3)) := o_scr (k := 3) hS hI hL (by omega)
  have t1 : opScr μ1 (Int32.ofNat i + (1 : Int32)) = some (xs (i + 1)) := o_scr (k := 1) (G.scS hS) (G.scI hI) hL (by omega)
  have t2 : opScr μ1 (Int32.ofNat i + (2 : Int32)) = some (xs (i + 2)) := o_scr (k := 2) (G.scS hS) (G.scI hI) hL (by omega)
  have t3 : opScr μ1 (Int32.ofNat i + (3 : Int32)) = some (xs (i + 3)) := o_scr (k := 3) (G.scS hS) (G.scI hI) hL (by omega)
  refine ⟨μ2, ?_, r, F.scS hS, F.scI hI⟩
  rw [f_L_law_1271, s1, s2, s3, o_bind, o_bind, o_bind, C.v0, o_bind, e1, o_call, t1, t2, t3, o_bind, o_bind, o_bind, C1.v133, o_bind, e2, o_call, if_pos rfl, l_2079]
theorem lc_31 {K : Nat → Nat → Int32 → dtM → Option (Int32 × dtM)} {L i : Nat} {xs : Nat → Int32} {μ : dtM} (h : Lw L xs μ) (hL : L ≤ 384) (hi : i + 6 ≤ L) : ∃ μ2, f_L_law_1314 K 0 133 (Int32.ofNat i) μ = K 0 133 (Int32.ofNat (i + 6)) μ2 ∧ Lw L xs μ2 := by
  obtain ⟨⟨w, f, A, z, HP, HM, W⟩, hS, hI⟩ := h
  obtain ⟨v, μ1, μ2, e1, e2, r, F, G⟩ := (cs31 HP HM W (xs (i + 1)) (xs (i + 2)) (xs (i + 3)) (xs (i + 4))).w
  have C := HP.c
  have C1 := C.keptW G
  have s1 : opScr μ (Int32.ofNat i + (1 : Int32)) = some (xs (i + 1)) := o_scr (k := 1) hS hI hL (by omega)
  have s2 : opScr μ (Int32.ofNat i + (2 : Int32)) = some (xs (i + 2)) := o_scr (k := 2) hS hI hL (by omega)
  have s3 : opScr μ (Int32.ofNat i + (3 : Int32)) = some (xs (i + 3)) := o_scr (k := 3) hS hI hL (by omega)
  have s4 : opScr μ (Int32.ofNat i + (4 : Int32)) = some (xs (i + 4)) := o_scr (k := 4) hS hI hL (by omega)
  have t1 : opScr μ1 (Int32.ofNat i + (1 : Int32)) = some (xs (i + 1)) := o_scr (k := 1) (G.scS hS) (G.scI hI) hL (by omega)
  have t2 : opScr μ1 (Int32.ofNat i + (2 : Int32)) = some (xs (i + 2)) := o_scr (k := 2) (G.scS hS) (G.scI hI) hL (by omega)
  have t3 : opScr μ1 (Int32.ofNat i + (3 : Int32)) = some (xs (i + 3)) := o_scr (k := 3) (G.scS hS) (G.scI hI) hL (by omega)
  have t4 : opScr μ1 (Int32.ofNat i + (4 : Int32)) = some (xs (i + 4)) := o_scr (k := 4) (G.scS hS) (G.scI hI) hL (by omega)
  refine ⟨μ2, ?_, r, F.scS hS, F.scI hI⟩
  rw [f_L_law_1314, s1, s2, s3, s4, o_bind, o_bind, o_bind, o_bind, C.v0, o_bind, e1, o_call, t1, t2, t3, t4, o_bind, o_bind, o_bind, o_bind, C1.v133, o_bind, e2, o_call, if_pos rfl, l_2079]
theorem lc_32 {K : Nat → Nat → Int32 → dtM → Option (Int32 × dtM)} {L i : Nat} {xs : Nat → Int32} {μ : dtM} (h : Lw L xs μ) (hL : L ≤ 384) (hi : i + 6 ≤ L) : ∃ μ2, f_L_law_1367 K 0 133 (Int32.ofNat i) μ = K 0 133 (Int32.ofNat (i + 6)) μ2 ∧ Lw L xs μ2 := by
  obtain ⟨⟨w, f, A, z, HP, HM, W⟩, hS, hI⟩ := h
  obtain ⟨v, μ1, μ2, e1, e2, r, F, G⟩ := (cs32 HP HM W (xs (i + 1))).w
  have C := HP.c
  have C1 := C.keptW G
  have s1 : opScr μ (Int32.ofNat i + (1 : Int32)) = some (xs (i + 1)) := o_scr (k := 1) hS hI hL (by omega)
  have t1 : opScr μ1 (Int32.ofNat i + (1 : Int32)) = some (xs (i + 1)) := o_scr (k := 1) (G.scS hS) (G.scI hI) hL (by omega)
  refine ⟨μ2, ?_, r, F.scS hS, F.scI hI⟩
  rw [f_L_law_1367, s1, o_bind, C.v0, o_bind, e1, o_call, t1, o_bind, C1.v133, o_bind, e2, o_call, if_pos rfl, l_2079]
theorem lc_33 {K : Nat → Nat → Int32 → dtM → Option (Int32 × dtM)} {L i : Nat} {xs : Nat → Int32} {μ : dtM} (h : Lw L xs μ) (hL : L ≤ 384) (hi : i + 6 ≤ L) : ∃ μ2, f_L_law_1390 K 0 133 (Int32.ofNat i) μ = K 0 133 (Int32.ofNat (i + 6)) μ2 ∧ Lw L xs μ2 := by
  obtain ⟨⟨w, f, A, z, HP, HM, W⟩, hS, hI⟩ := h
  obtain ⟨v, μ1, μ2, e1, e2, r, F, G⟩ := (cs33 HP HM W (xs (i + 1))).w
  have C := HP.c
  have C1 := C.keptW G
  have s1 : opScr μ (Int32.ofNat i + (1 : Int32)) = some (xs (i + 1)) := o_scr (k := 1) hS hI hL (by omega)
  have t1 : opScr μ1 (Int32.ofNat i + (1 : Int32)) = some (xs (i + 1)) := o_scr (k := 1) (G.scS hS) (G.scI hI) hL (by omega)
  refine ⟨μ2, ?_, r, F.scS hS, F.scI hI⟩
  rw [f_L_law_1390, s1, o_bind, C.v0, o_bind, e1, o_call, t1, o_bind, C1.v133, o_bind, e2, o_call, if_pos rfl, l_2079]
theorem lc_34 {K : Nat → Nat → Int32 → dtM → Option (Int32 × dtM)} {L i : Nat} {xs : Nat → Int32} {μ : dtM} (h : Lw L xs μ) (hL : L ≤ 384) (hi : i + 6 ≤ L) : ∃ μ2, f_L_law_1413 K 0 133 (Int32.ofNat i) μ = K 0 133 (Int32.ofNat (i + 6)) μ2 ∧ Lw L xs μ2 := by
  obtain ⟨⟨w, f, A, z, HP, HM, W⟩, hS, hI⟩ := h
  obtain ⟨v, μ1, μ2, e1, e2, r, F, G⟩ := (cs34 HP HM W (xs (i + 1)) (xs (i + 2))).w
  have C := HP.c
  have C1 := C.keptW G
  have s1 : opScr μ (Int32.ofNat i + (1 : Int32)) = some (xs (i + 1)) := o_scr (k := 1) hS hI hL (by omega)
  have s2 : opScr μ (Int32.ofNat i + (2 : Int32)) = some (xs (i + 2)) := o_scr (k := 2) hS hI hL (by omega)
  have t1 : opScr μ1 (Int32.ofNat i + (1 : Int32)) = some (xs (i + 1)) := o_scr (k := 1) (G.scS hS) (G.scI hI) hL (by omega)
  have t2 : opScr μ1 (Int32.ofNat i + (2 : Int32)) = some (xs (i + 2)) := o_scr (k := 2) (G.scS hS) (G.scI hI) hL (by omega)
  refine ⟨μ2, ?_, r, F.scS hS, F.scI hI⟩
  rw [f_L_law_1413, s1, s2, o_bind, o_bind, C.v0, o_bind, e1, o_call, t1, t2, o_bind, o_bind, C1.v133, o_bind, e2, o_call, if_pos rfl, l_2079]
theorem lc_35 {K : Nat → Nat → Int32 → dtM → Option (Int32 × dtM)} {L i : Nat} {xs : Nat → Int32} {μ : dtM} (h : Lw L xs μ) (hL : L ≤ 384) (hi : i + 6 ≤ L) : ∃ μ2, f_L_law_1446 K 0 133 (Int32.ofNat i) μ = K 0 133 (Int32.ofNat (i + 6)) μ2 ∧ Lw L xs μ2 := by
  obtain ⟨⟨w, f, A, z, HP, HM, W⟩, hS, hI⟩ := h
  obtain ⟨v, μ1, μ2, e1, e2, r, F, G⟩ := (cs35 HP HM W (xs (i + 1)) (xs (i + 2)) (xs (i + 3))).w
  have C := HP.c
  have C1 := C.keptW G
  have s1 : opScr μ (Int32.ofNat i + (1 : Int32)) = some (xs (i + 1)) := o_scr (k := 1) hS hI hL (by omega)
  have s2 : opScr μ (Int32.ofNat i + (2 : Int32)) = some (xs (i + 2)) := o_scr (k := 2) hS hI hL (by omega)
  have s3 : opScr μ (Int32.ofNat i + (3 : Int32)) = some (xs (i + 3)) := o_scr (k := 3) hS hI hL (by omega)
  have t1 : opScr μ1 (Int32.ofNat i + (1 : Int32)) = some (xs (i + 1)) := o_scr (k := 1) (G.scS hS) (G.scI hI) hL (by omega)
  have t2 : opScr μ1 (Int32.ofNat i + (2 : Int32)) = some (xs (i + 2)) := o_scr (k := 2) (G.scS hS) (G.scI hI) hL (by omega)
  have t3 : opScr μ1 (Int32.ofNat i + (3 : Int32)) = some (xs (i + 3)) := o_scr (k := 3) (G.scS hS) (G.scI hI) hL (by omega)
  refine ⟨μ2, ?_, r, F.scS hS, F.scI hI⟩
  rw [f_L_law_1446, s1, s2, s3, o_bind, o_bind, o_bind, C.v0, o_bind, e1, o_call, t1, t2, t3, o_bind, o_bind, o_bind, C1.v133, o_bind, e2, o_call, if_pos rfl, l_2079]
theorem lc_36 {K : Nat → Nat → Int32 → dtM → Option (Int32 × dtM)} {L i : Nat} {xs : Nat → Int32} {μ : dtM} (h : Lw L xs μ) (hL : L ≤ 384) (hi : i + 6 ≤ L) : ∃ μ2, f_L_law_1489 K 0 133 (Int32.ofNat i) μ = K 0 133 (Int32.ofNat (i + 6)) μ2 ∧ Lw L xs μ2 := by
  obtain ⟨⟨w, f, A, z, HP, HM, W⟩, hS, hI⟩ := h
  obtain ⟨v, μ1, μ2, e1, e2, r, F, G⟩ := (cs36 HP HM W (xs (i + 1)) (xs (i + 2)) (xs (i + 3))).w
  have C := HP.c
  have C1 := C.keptW G
  have s1 : opScr μ (Int32.ofNat i + (1 : Int32)) = some (xs (i + 1)) := o_scr (k := 1) hS hI hL (by omega)
  have s2 : opScr μ (Int32.ofNat i + (2 : Int32)) = some (xs (i + 2)) := o_scr (k := 2) hS hI hL (by omega)
  have s3 : opScr μ (Int32.ofNat i + (3 : Int32)) = some (xs (i + 3)) := o_scr (k := 3) hS hI hL (by omega)
  have t1 : opScr μ1 (Int32.ofNat i + (1 : Int32)) = some (xs (i + 1)) := o_scr (k := 1) (G.scS hS) (G.scI hI) hL (by omega)
  have t2 : opScr μ1 (Int32.ofNat i + (2 : Int32)) = some (xs (i + 2)) := o_scr (k := 2) (G.scS hS) (G.scI hI) hL (by omega)
  have t3 : opScr μ1 (Int32.ofNat i + (3 : Int32)) = some (xs (i + 3)) := o_scr (k := 3) (G.scS hS) (G.scI hI) hL (by omega)
  refine ⟨μ2, ?_, r, F.scS hS, F.scI hI⟩
  rw [f_L_law_1489, s1, s2, s3, o_bind, o_bind, o_bind, C.v0, o_bind, e1, o_call, t1, t2, t3, o_bind, o_bind, o_bind, C1.v133, o_bind, e2, o_call, if_pos rfl, l_2079]
theorem lc_37 {K : Nat → Nat → Int32 → dtM → Option (Int32 × dtM)} {L i : Nat} {xs : Nat → Int32} {μ : dtM} (h : Lw L xs μ) (hL : L ≤ 384) (hi : i + 6 ≤ L) : ∃ μ2, f_L_law_1532 K 0 133 (Int32.ofNat i) μ = K 0 133 (Int32.ofNat (i + 6)) μ2 ∧ Lw L xs μ2 := by
  obtain ⟨⟨w, f, A, z, HP, HM, W⟩, hS, hI⟩ := h
  obtain ⟨v, μ1, μ2, e1, e2, r, F, G⟩ := (cs37 HP HM W (xs (i + 1))).w
  have C := HP.c
  have C1 := C.keptW G
  have s1 : opScr μ (Int32.ofNat i + (1 : Int32)) = some (xs (i + 1)) := o_scr (k := 1) hS hI hL (by omega)
  have t1 : opScr μ1 (Int32.ofNat i + (1 : Int32)) = some (xs (i + 1)) := o_scr (k := 1) (G.scS hS) (G.scI hI) hL (by omega)
  refine ⟨μ2, ?_, r, F.scS hS, F.scI hI⟩
  rw [f_L_law_1532, s1, o_bind, C.v0, o_bind, e1, o_call, t1, o_bind, C1.v133, o_bind, e2, o_call, if_pos rfl, l_2079]
theorem lc_38 {K : Nat → Nat → Int32 → dtM → Option (Int32 × dtM)} {L i : Nat} {xs : Nat → Int32} {μ : dtM} (h : Lw L xs μ) (hL : L ≤ 384) (hi : i + 6 ≤ L) : ∃ μ2, f_L_law_1555 K 0 133 (Int32.ofNat i) μ = K 0 133 (Int32.ofNat (i + 6)) μ2 ∧ Lw L xs μ2 := by
  obtain ⟨⟨w, f, A, z, HP, HM, W⟩, hS, hI⟩ := h
  obtain ⟨v, μ1, μ2, e1, e2, r, F, G⟩ := (cs38 HP HM W (xs (i + 1)) (xs (i + 2))).w
  have C := HP.c
  have C1 := C.keptW G
  have s1 : opScr μ (Int32.ofNat i + (1 : Int32)) = some (xs (i + 1)) := o_scr (k := 1) hS hI hL (by omega)
  have s2 : opScr μ (Int32.ofNat i + (2 : Int32)) = some (xs (i + 2)) := o_scr (k := 2) hS hI hL (by omega)
  have t1 : opScr μ1 (Int32.ofNat i + (1 : Int32)) = some (xs (i + 1)) := o_scr (k := 1) (G.scS hS) (G.scI hI) hL (by omega)
  have t2 : opScr μ1 (Int32.ofNat i + (2 : Int32)) = some (xs (i + 2)) := o_scr (k := 2) (G.scS hS) (G.scI hI) hL (by omega)
  refine ⟨μ2, ?_, r, F.scS hS, F.scI hI⟩
  rw [f_L_law_1555, s1, s2, o_bind, o_bind, C.v0, o_bind, e1, o_call, t1, t2, o_bind, o_bind, C1.v133, o_bind, e2, o_call, if_pos rfl, l_2079]
theorem lc_39 {K : Nat → Nat → Int32 → dtM → Option (Int32 × dtM)} {L i : Nat} {xs : Nat → Int32} {μ : dtM} (h : Lw L xs μ) (hL : L ≤ 384) (hi : i + 6 ≤ L) : ∃ μ2, f_L_law_1588 K 0 133 (Int32.ofNat i) μ = K 0 133 (Int32.ofNat (i + 6)) μ2 ∧ Lw L xs μ2 := by
  obtain ⟨⟨w, f, A, z, HP, HM, W⟩, hS, hI⟩ := h
  obtain ⟨v, μ1, μ2, e1, e2, r, F, G⟩ := (cs39 HP HM W (xs (i + 1)) (xs (i + 2))).w
  have C := HP.c
  have C1 := C.keptW G
  have s1 : opScr μ (Int32.ofNat i + (1 : Int32)) = some (xs (i + 1)) := o_scr (k := 1) hS hI hL (by omega)
  have s2 : opScr μ (Int32.ofNat i + (2 : Int32)) = some (xs (i + 2)) := o_scr (k := 2) hS hI hL (by omega)
  have t1 : opScr μ1 (Int32.ofNat i + (1 : Int32)) = some (xs (i + 1)) := o_scr (k := 1) (G.scS hS) (G.scI hI) hL (by omega)
  have t2 : opScr μ1 (Int32.ofNat i + (2 : Int32)) = some (xs (i + 2)) := o_scr (k := 2) (G.scS hS) (G.scI hI) hL (by omega)
  refine ⟨μ2, ?_, r, F.scS hS, F.scI hI⟩
  rw [f_L_law_1588, s1, s2, o_bind, o_bind, C.v0, o_bind, e1, o_call, t1, t2, o_bind, o_bind, C1.v133, o_bind, e2, o_call, if_pos rfl, l_2079]
theorem lc_40 {K : Nat → Nat → Int32 → dtM → Option (Int32 × dtM)} {L i : Nat} {xs : Nat → Int32} {μ : dtM} (h : Lw L xs μ) (hL : L ≤ 384) (hi : i + 6 ≤ L) : ∃ μ2, f_L_law_1621 K 0 133 (Int32.ofNat i) μ = K 0 133 (Int32.ofNat (i + 6)) μ2 ∧ Lw L xs μ2 := by
  obtain ⟨⟨w, f, A, z, HP, HM, W⟩, hS, hI⟩ := h
  obtain ⟨v, μ1, μ2, e1, e2, r, F, G⟩ := (cs40 HP HM W (xs (i + 1)) (xs (i + 2))).w
  have C := HP.c
  have C1 := C.keptW G
  have s1 : opScr μ (Int32.ofNat i + (1 : Int32)) = some (xs (i + 1)) := o_scr (k := 1) hS hI hL (by omega)
  have s2 : opScr μ (Int32.ofNat i + (2 : Int32)) = some (xs (i + 2)) := o_scr (k := 2) hS hI hL (by omega)
  have t1 : opScr μ1 (Int32.ofNat i + (1 : Int32)) = some (xs (i + 1)) := o_scr (k := 1) (G.scS hS) (G.scI hI) hL (by omega)
  have t2 : opScr μ1 (Int32.ofNat i + (2 : Int32)) = some (xs (i + 2)) := o_scr (k := 2) (G.scS hS) (G.scI hI) hL (by omega)
  refine ⟨μ2, ?_, r, F.scS hS, F.scI hI⟩
  rw [f_L_law_1621, s1, s2, o_bind, o_bind, C.v0, o_bind, e1, o_call, t1, t2, o_bind, o_bind, C1.v133, o_bind, e2, o_call, if_pos rfl, l_2079]
theorem lc_41 {K : Nat → Nat → Int32 → dtM → Option (Int32 × dtM)} {L i : Nat} {xs : Nat → Int32} {μ : dtM} (h : Lw L xs μ) (hL : L ≤ 384) (hi : i + 6 ≤ L) : ∃ μ2, f_L_law_1654 K 0 133 (Int32.ofNat i) μ = K 0 133 (Int32.ofNat (i + 6)) μ2 ∧ Lw L xs μ2 := by
  obtain ⟨⟨w, f, A, z, HP, HM, W⟩, hS, hI⟩ := h
  obtain ⟨v, μ1, μ2, e1, e2, r, F, G⟩ := (cs41 HP HM W (xs (i + 1)) (xs (i + 2)) (xs (i + 3))).w
  have C := HP.c
  have C1 := C.keptW G
  have s1 : opScr μ (Int32.ofNat i + (1 : Int32)) = some (xs (i + 1)) := o_scr (k := 1) hS hI hL (by omega)
  have s2 : opScr μ (Int32.ofNat i + (2 : Int32)) = some (xs (i + 2)) := o_scr (k := 2) hS hI hL (by omega)
  have s3 : opScr μ (Int32.ofNat i + (3 : Int32)) = some (xs (i + 3)) := o_scr (k := 3) hS hI hL (by omega)
  have t1 : opScr μ1 (Int32.ofNat i + (1 : Int32)) = some (xs (i + 1)) := o_scr (k := 1) (G.scS hS) (G.scI hI) hL (by omega)
  have t2 : opScr μ1 (Int32.ofNat i + (2 : Int32)) = some (xs (i + 2)) := o_scr (k := 2) (G.scS hS) (G.scI hI) hL (by omega)
  have t3 : opScr μ1 (Int32.ofNat i + (3 : Int32)) = some (xs (i + 3)) := o_scr (k := 3) (G.scS hS) (G.scI hI) hL (by omega)
  refine ⟨μ2, ?_, r, F.scS hS, F.scI hI⟩
  rw [f_L_law_1654, s1, s2, s3, o_bind, o_bind, o_bind, C.v0, o_bind, e1, o_call, t1, t2, t3, o_bind, o_bind, o_bind, C1.v133, o_bind, e2, o_call, if_pos rfl, l_2079]
theorem lc_42 {K : Nat → Nat → Int32 → dtM → Option (Int32 × dtM)} {L i : Nat} {xs : Nat → Int32} {μ : dtM} (h : Lw L xs μ) (hL : L ≤ 384) (hi : i + 6 ≤ L) : ∃ μ2, f_L_law_1697 K 0 133 (Int32.ofNat i) μ = K 0 133 (Int32.ofNat (i + 6)) μ2 ∧ Lw L xs μ2 := by
  obtain ⟨⟨w, f, A, z, HP, HM, W⟩, hS, hI⟩ := h
  obtain ⟨v, μ1, μ2, e1, e2, r, F, G⟩ := (cs42 HP HM W (xs (i + 1))).w
  have C := HP.c
  have C1 := C.keptW G
  have s1 : opScr μ (Int32.ofNat i + (1 : Int32)) = some (xs (i + 1)) := o_scr (k := 1) hS hI hL (by omega)
  have t1 : opScr μ1 (Int32.ofNat i + (1 : Int32)) = some (xs (i + 1)) := o_scr (k := 1) (G.scS hS) (G.scI hI) hL (by omega)
  refine ⟨μ2, ?_, r, F.scS hS, F.scI hI⟩
  rw [f_L_law_1697, s1, o_bind, C.v0, o_bind, e1, o_call, t1, o_bind, C1.v133, o_bind, e2, o_call, if_pos rfl, l_2079]
theorem lc_43 {K : Nat → Nat → Int32 → dtM → Option (Int32 × dtM)} {L i : Nat} {xs : Nat → Int32} {μ : dtM} (h : Lw L xs μ) (hL : L ≤ 384) (hi : i + 6 ≤ L) : ∃ μ2, f_L_law_1720 K 0 133 (Int32.ofNat i) μ = K 0 133 (Int32.ofNat (i + 6)) μ2 ∧ Lw L xs μ2 := by
  obtain ⟨⟨w, f, A, z, HP, HM, W⟩, hS, hI⟩ := h
  obtain ⟨v, μ1, μ2, e1, e2, r, F, G⟩ := (cs43 HP HM W (xs (i + 1)) (xs (i + 2))).w
  have C := HP.c
  have C1 := C.keptW G
  have s1 : opScr μ (Int32.ofNat i + (1 : Int32)) = some (xs (i + 1)) := o_scr (k := 1) hS hI hL (by omega)
  have s2 : opScr μ (Int32.ofNat i + (2 : Int32)) = some (xs (i + 2)) := o_scr (k := 2) hS hI hL (by omega)
  have t1 : opScr μ1 (Int32.ofNat i + (1 : Int32)) = some (xs (i + 1)) := o_scr (k := 1) (G.scS hS) (G.scI hI) hL (by omega)
  have t2 : opScr μ1 (Int32.ofNat i + (2 : Int32)) = some (xs (i + 2)) := o_scr (k := 2) (G.scS hS) (G.scI hI) hL (by omega)
  refine ⟨μ2, ?_, r, F.scS hS, F.scI hI⟩
  rw [f_L_law_1720, s1, s2, o_bind, o_bind, C.v0, o_bind, e1, o_call, t1, t2, o_bind, o_bind, C1.v133, o_bind, e2, o_call, if_pos rfl, l_2079]
theorem lc_44 {K : Nat → Nat → Int32 → dtM → Option (Int32 × dtM)} {L i : Nat} {xs : Nat → Int32} {μ : dtM} (h : Lw L xs μ) (hL : L ≤ 384) (hi : i + 6 ≤ L) : ∃ μ2, f_L_law_1753 K 0 133 (Int32.ofNat i) μ = K 0 133 (Int32.ofNat (i + 6)) μ2 ∧ Lw L xs μ2 := by
  obtain ⟨⟨w, f, A, z, HP, HM, W⟩, hS, hI⟩ := h
  obtain ⟨v, μ1, μ2, e1, e2, r, F, G⟩ := (cs44 HP HM W (xs (i + 1)) (xs (i + 2))).w
  have C := HP.c
  have C1 := C.keptW G
  have s1 : opScr μ (Int32.ofNat i + (1 : Int32)) = some (xs (i + 1)) := o_scr (k := 1) hS hI hL (by omega)
  have s2 : opScr μ (Int32.ofNat i + (2 : Int32)) = some (xs (i + 2)) := o_scr (k := 2) hS hI hL (by omega)
  have t1 : opScr μ1 (Int32.ofNat i + (1 : Int32)) = some (xs (i + 1)) := o_scr (k := 1) (G.scS hS) (G.scI hI) hL (by omega)
  have t2 : opScr μ1 (Int32.ofNat i + (2 : Int32)) = some (xs (i + 2)) := o_scr (k := 2) (G.scS hS) (G.scI hI) hL (by omega)
  refine ⟨μ2, ?_, r, F.scS hS, F.scI hI⟩
  rw [f_L_law_1753, s1, s2, o_bind, o_bind, C.v0, o_bind, e1, o_call, t1, t2, o_bind, o_bind, C1.v133, o_bind, e2, o_call, if_pos rfl, l_2079]
theorem lc_45 {K : Nat → Nat → Int32 → dtM → Option (Int32 × dtM)} {L i : Nat} {xs : Nat → Int32} {μ : dtM} (h : Lw L xs μ) (hL : L ≤ 384) (hi : i + 6 ≤ L) : ∃ μ2, f_L_law_1786 K 0 133 (Int32.ofNat i) μ = K 0 133 (Int32.ofNat (i + 6)) μ2 ∧ Lw L xs μ2 := by
  obtain ⟨⟨w, f, A, z, HP, HM, W⟩, hS, hI⟩ := h
  obtain ⟨v, μ1, μ2, e1, e2, r, F, G⟩ := (cs45 HP HM W (xs (i + 1)) (xs (i + 2))).w
  have C := HP.c
  have C1 := C.keptW G
  have s1 : opScr μ (Int32.ofNat i + (1 : Int32)) = some (xs (i + 1)) := o_scr (k := 1) hS hI hL (by omega)
  have s2 : opScr μ (Int32.ofNat i + (2 : Int32)) = some (xs (i + 2)) := o_scr (k := 2) hS hI hL (by omega)
  have t1 : opScr μ1 (Int32.ofNat i + (1 : Int32)) = some (xs (i + 1)) := o_scr (k := 1) (G.scS hS) (G.scI hI) hL (by omega)
  have t2 : opScr μ1 (Int32.ofNat i + (2 : Int32)) = some (xs (i + 2)) := o_scr (k := 2) (G.scS hS) (G.scI hI) hL (by omega)
  refine ⟨μ2, ?_, r, F.scS hS, F.scI hI⟩
  rw [f_L_law_1786, s1, s2, o_bind, o_bind, C.v0, o_bind, e1, o_call, t1, t2, o_bind, o_bind, C1.v133, o_bind, e2, o_call, if_pos rfl, l_2079]
theorem lc_46 {K : Nat → Nat → Int32 → dtM → Option (Int32 × dtM)} {L i : Nat} {xs : Nat → Int32} {μ : dtM} (h : Lw L xs μ) (hL : L ≤ 384) (hi : i + 6 ≤ L) : ∃ μ2, f_L_law_1819 K 0 133 (Int32.ofNat i) μ = K 0 133 (Int32.ofNat (i + 6)) μ2 ∧ Lw L xs μ2 := by
  obtain ⟨⟨w, f, A, z, HP, HM, W⟩, hS, hI⟩ := h
  obtain ⟨v, μ1, μ2, e1, e2, r, F, G⟩ := (cs46 HP HM W (xs (i + 1)) (xs (i + 2))).w
  have C := HP.c
  have C1 := C.keptW G
  have s1 : opScr μ (Int32.ofNat i + (1 : Int32)) = some (xs (i + 1)) := o_scr (k := 1) hS hI hL (by omega)
  have s2 : opScr μ (Int32.ofNat i + (2 : Int32)) = some (xs (i + 2)) := o_scr (k := 2) hS hI hL (by omega)
  have t1 : opScr μ1 (Int32.ofNat i + (1 : Int32)) = some (xs (i + 1)) := o_scr (k := 1) (G.scS hS) (G.scI hI) hL (by omega)
  have t2 : opScr μ1 (Int32.ofNat i + (2 : Int32)) = some (xs (i + 2)) := o_scr (k := 2) (G.scS hS) (G.scI hI) hL (by omega)
  refine ⟨μ2, ?_, r, F.scS hS, F.scI hI⟩
  rw [f_L_law_1819, s1, s2, o_bind, o_bind, C.v0, o_bind, e1, o_call, t1, t2, o_bind, o_bind, C1.v133, o_bind, e2, o_call, if_pos rfl, l_2079]
theorem lc_47 {K : Nat → Nat → Int32 → dtM → Option (Int32 × dtM)} {L i : Nat} {xs : Nat → Int32} {μ : dtM} (h : Lw L xs μ) (hL : L ≤ 384) (hi : i + 6 ≤ L) : ∃ μ2, f_L_law_1852 K 0 133 (Int32.ofNat i) μ = K 0 133 (Int32.ofNat (i + 6)) μ2 ∧ Lw L xs μ2 := by
  obtain ⟨⟨w, f, A, z, HP, HM, W⟩, hS, hI⟩ := h
  obtain ⟨v, μ1, μ2, e1, e2, r, F, G⟩ := (cs47 HP HM W (xs (i + 1)) (xs (i + 2))).w
  have C := HP.c
  have C1 := C.keptW G
  have s1 : opScr μ (Int32.ofNat i + (1 : Int32)) = some (xs (i + 1)) := o_scr (k := 1) hS hI hL (by omega)
  have s2 : opScr μ (Int32.ofNat i + (2 : Int32)) = some (xs (i + 2)) := o_scr (k := 2) hS hI hL (by omega)
  have t1 : opScr μ1 (Int32.ofNat i + (1 : Int32)) = some (xs (i + 1)) := o_scr (k := 1) (G.scS hS) (G.scI hI) hL (by omega)
  have t2 : opScr μ1 (Int32.ofNat i + (2 : Int32)) = some (xs (i + 2)) := o_scr (k := 2) (G.scS hS) (G.scI hI) hL (by omega)
  refine ⟨μ2, ?_, r, F.scS hS, F.scI hI⟩
  rw [f_L_law_1852, s1, s2, o_bind, o_bind, C.v0, o_bind, e1, o_call, t1, t2, o_bind, o_bind, C1.v133, o_bind, e2, o_call, if_pos rfl, l_2079]
theorem lc_48 {K : Nat → Nat → Int32 → dtM → Option (Int32 × dtM)} {L i : Nat} {xs : Nat → Int32} {μ : dtM} (h : Lw L xs μ) (hL : L ≤ 384) (hi : i + 6 ≤ L) : ∃ μ2, f_L_law_1885 K 0 133 (Int32.ofNat i) μ = K 0 133 (Int32.ofNat (i + 6)) μ2 ∧ Lw L xs μ2 := by
  obtain ⟨⟨w, f, A, z, HP, HM, W⟩, hS, hI⟩ := h
  obtain ⟨v, μ1, μ2, e1, e2, r, F, G⟩ := (cs48 HP HM W (xs (i + 1)) (xs (i + 2))).w
  have C := HP.c
  have C1 := C.keptW G
  have s1 : opScr μ (Int32.ofNat i + (1 : Int32)) = some (xs (i + 1)) := o_scr (k := 1) hS hI hL (by omega)
  have s2 : opScr μ (Int32.ofNat i + (2 : Int32)) = some (xs (i + 2)) := o_scr (k := 2) hS hI hL (by omega)
  have t1 : opScr μ1 (Int32.ofNat i + (1 : Int32)) = some (xs (i + 1)) := o_scr (k := 1) (G.scS hS) (G.scI hI) hL (by omega)
  have t2 : opScr μ1 (Int32.ofNat i + (2 : Int32)) = some (xs (i + 2)) := o_scr (k := 2) (G.scS hS) (G.scI hI) hL (by omega)
  refine ⟨μ2, ?_, r, F.scS hS, F.scI hI⟩
  rw [f_L_law_1885, s1, s2, o_bind, o_bind, C.v0, o_bind, e1, o_call, t1, t2, o_bind, o_bind, C1.v133, o_bind, e2, o_call, if_pos rfl, l_2079]
theorem lc_49 {K : Nat → Nat → Int32 → dtM → Option (Int32 × dtM)} {L i : Nat} {xs : Nat → Int32} {μ : dtM} (h : Lw L xs μ) (hL : L ≤ 384) (hi : i + 6 ≤ L) : ∃ μ2, f_L_law_1918 K 0 133 (Int32.ofNat i) μ = K 0 133 (Int32.ofNat (i + 6)) μ2 ∧ Lw L xs μ2 := by
  obtain ⟨⟨w, f, A, z, HP, HM, W⟩, hS, hI⟩ := h
  obtain ⟨v, μ1, μ2, e1, e2, r, F, G⟩ := (cs49 HP HM W (xs (i + 1)) (xs (i + 2))).w
  have C := HP.c
  have C1 := C.keptW G
  have s1 : opScr μ (Int32.ofNat i + (1 : Int32)) = some (xs (i + 1)) := o_scr (k := 1) hS hI hL (by omega)
  have s2 : opScr μ (Int32.ofNat i + (2 : Int32)) = some (xs (i + 2)) := o_scr (k := 2) hS hI hL (by omega)
  have t1 : opScr μ1 (Int32.ofNat i + (1 : Int32)) = some (xs (i + 1)) := o_scr (k := 1) (G.scS hS) (G.scI hI) hL (by omega)
  have t2 : opScr μ1 (Int32.ofNat i + (2 : Int32)) = some (xs (i + 2)) := o_scr (k := 2) (G.scS hS) (G.scI hI) hL (by omega)
  refine ⟨μ2, ?_, r, F.scS hS, F.scI hI⟩
  rw [f_L_law_1918, s1, s2, o_bind, o_bind, C.v0, o_bind, e1, o_call, t1, t2, o_bind, o_bind, C1.v133, o_bind, e2, o_call, if_pos rfl, l_2079]
theorem lc_50 {K : Nat → Nat → Int32 → dtM → Option (Int32 × dtM)} {L i : Nat} {xs : Nat → Int32} {μ : dtM} (h : Lw L xs μ) (hL : L ≤ 384) (hi : i + 6 ≤ L) : ∃ μ2, f_L_law_1951 K 0 133 (Int32.ofNat i) μ = K 0 133 (Int32.ofNat (i + 6)) μ2 ∧ Lw L xs μ2 := by
  obtain ⟨⟨w, f, A, z, HP, HM, W⟩, hS, hI⟩ := h
  obtain ⟨v, μ1, μ2, e1, e2, r, F, G⟩ := (cs50 HP HM W (xs (i + 1))).w
  have C := HP.c
  have C1 := C.keptW G
  have s1 : opScr μ (Int32.ofNat i + (1 : Int32)) = some (xs (i + 1)) := o_scr (k := 1) hS hI hL (by omega)
  have t1 : opScr μ1 (Int32.ofNat i + (1 : Int32)) = some (xs (i + 1)) := o_scr (k := 1) (G.scS hS) (G.scI hI) hL (by omega)
  refine ⟨μ2, ?_, r, F.scS hS, F.scI hI⟩
  rw [f_L_law_1951, s1, o_bind, C.v0, o_bind, e1, o_call, t1, o_bind, C1.v133, o_bind, e2, o_call, if_pos rfl, l_2079]
theorem lc_51 {K : Nat → Nat → Int32 → dtM → Option (Int32 × dtM)} {L i : Nat} {xs : Nat → Int32} {μ : dtM} (h : Lw L xs μ) (hL : L ≤ 384) (hi : i + 6 ≤ L) : ∃ μ2, f_L_law_1974 K 0 133 (Int32.ofNat i) μ = K 0 133 (Int32.ofNat (i + 6)) μ2 ∧ Lw L xs μ2 := by
  obtain ⟨⟨w, f, A, z, HP, HM, W⟩, hS, hI⟩ := h
  obtain ⟨v, μ1, μ2, e1, e2, r, F, G⟩ := (cs51 HP HM W (xs (i + 1))).w
  have C := HP.c
  have C1 := C.keptW G
  have s1 : opScr μ (Int32.ofNat i + (1 : Int32)) = some (xs (i + 1)) := o_scr (k := 1) hS hI hL (by omega)
  have t1 : opScr μ1 (Int32.ofNat i + (1 : Int32)) = some (xs (i + 1)) := o_scr (k := 1) (G.scS hS) (G.scI hI) hL (by omega)
  refine ⟨μ2, ?_, r, F.scS hS, F.scI hI⟩
  rw [f_L_law_1974, s1, o_bind, C.v0, o_bind, e1, o_call, t1, o_bind, C1.v133, o_bind, e2, o_call, if_pos rfl, l_2079]
theorem lc_52 {K : Nat → Nat → Int32 → dtM → Option (Int32 × dtM)} {L i : Nat} {xs : Nat → Int32} {μ : dtM} (h : Lw L xs μ) (hL : L ≤ 384) (hi : i + 6 ≤ L) : ∃ μ2, f_L_law_1997 K 0 133 (Int32.ofNat i) μ = K 0 133 (Int32.ofNat (i + 6)) μ2 ∧ Lw L xs μ2 := by
  obtain ⟨⟨w, f, A, z, HP, HM, W⟩, hS, hI⟩ := h
  obtain ⟨v, μ1, μ2, e1, e2, r, F, G⟩ := (cs52 HP HM W (xs (i + 1))).w
  have C := HP.c
  have C1 := C.keptW G
  have s1 : opScr μ (Int32.ofNat i + (1 : Int32)) = some (xs (i + 1)) := o_scr (k := 1) hS hI hL (by omega)
  have t1 : opScr μ1 (Int32.ofNat i + (1 : Int32)) = some (xs (i + 1)) := o_scr (k := 1) (G.scS hS) (G.scI hI) hL (by omega)
  refine ⟨μ2, ?_, r, F.scS hS, F.scI hI⟩
  rw [f_L_law_1997, s1, o_bind, C.v0, o_bind, e1, o_call, t1, o_bind, C1.v133, o_bind, e2, o_call, if_pos rfl, l_2079]
theorem lc_53 {K : Nat → Nat → Int32 → dtM → Option (Int32 × dtM)} {L i : Nat} {xs : Nat → Int32} {μ : dtM} (h : Lw L xs μ) (hL : L ≤ 384) (hi : i + 6 ≤ L) : ∃ μ2, f_L_law_2020 K 0 133 (Int32.ofNat i) μ = K 0 133 (Int32.ofNat (i + 6)) μ2 ∧ Lw L xs μ2 := by
  obtain ⟨⟨w, f, A, z, HP, HM, W⟩, hS, hI⟩ := h
  obtain ⟨v, μ1, μ2, e1, e2, r, F, G⟩ := (cs53 HP HM W (xs (i + 1)) (xs (i + 2))).w
  have C := HP.c
  have C1 := C.keptW G
  have s1 : opScr μ (Int32.ofNat i + (1 : Int32)) = some (xs (i + 1)) := o_scr (k := 1) hS hI hL (by omega)
  have s2 : opScr μ (Int32.ofNat i + (2 : Int32)) = some (xs (i + 2)) := o_scr (k := 2) hS hI hL (by omega)
  have t1 : opScr μ1 (Int32.ofNat i + (1 : Int32)) = some (xs (i + 1)) := o_scr (k := 1) (G.scS hS) (G.scI hI) hL (by omega)
  have t2 : opScr μ1 (Int32.ofNat i + (2 : Int32)) = some (xs (i + 2)) := o_scr (k := 2) (G.scS hS) (G.scI hI) hL (by omega)
  refine ⟨μ2, ?_, r, F.scS hS, F.scI hI⟩
  rw [f_L_law_2020, s1, s2, o_bind, o_bind, C.v0, o_bind, e1, o_call, t1, t2, o_bind, o_bind, C1.v133, o_bind, e2, o_call, if_pos rfl, l_2079]
theorem lc_54 {K : Nat → Nat → Int32 → dtM → Option (Int32 × dtM)} {L i : Nat} {xs : Nat → Int32} {μ : dtM} (h : Lw L xs μ) (hL : L ≤ 384) (hi : i + 6 ≤ L) : ∃ μ2, f_L_law_2053 K 0 133 (Int32.ofNat i) μ = K 0 133 (Int32.ofNat (i + 6)) μ2 ∧ Lw L xs μ2 := by
  obtain ⟨⟨w, f, A, z, HP, HM, W⟩, hS, hI⟩ := h
  obtain ⟨v, μ1, μ2, e1, e2, r, F, G⟩ := (cs54 HP HM W ).w
  have C := HP.c
  have C1 := C.keptW G
  refine ⟨μ2, ?_, r, F.scS hS, F.scI hI⟩
  rw [f_L_law_2053, C.v0, o_bind, e1, o_call, C1.v133, o_bind, e2, o_call, if_pos rfl, l_2079]
theorem lc_55 {K : Nat → Nat → Int32 → dtM → Option (Int32 × dtM)} {L i : Nat} {xs : Nat → Int32} {μ : dtM} (h : Lw L xs μ) (hL : L ≤ 384) (hi : i + 6 ≤ L) : ∃ μ2, f_L_law_2066 K 0 133 (Int32.ofNat i) μ = K 0 133 (Int32.ofNat (i + 6)) μ2 ∧ Lw L xs μ2 := by
  obtain ⟨⟨w, f, A, z, HP, HM, W⟩, hS, hI⟩ := h
  obtain ⟨v, μ1, μ2, e1, e2, r, F, G⟩ := (cs55 HP HM W ).w
  have C := HP.c
  have C1 := C.keptW G
  refine ⟨μ2, ?_, r, F.scS hS, F.scI hI⟩
  rw [f_L_law_2066, C.v0, o_bind, e1, o_call, C1.v133, o_bind, e2, o_call, if_pos rfl, l_2079]
