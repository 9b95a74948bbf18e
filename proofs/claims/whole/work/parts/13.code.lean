/-! X5_addWord -/
theorem dX5_addWord_0 : decode cX5_addWord 0 = .ok (.iconst 0, 1) := by decide +kernel
theorem dX5_addWord_1 : decode cX5_addWord 1 = .ok (.istore_n 3, 1) := by decide +kernel
theorem dX5_addWord_2 : decode cX5_addWord 2 = .ok (.iload_n 3, 1) := by decide +kernel
theorem dX5_addWord_3 : decode cX5_addWord 3 = .ok (.aload_n 1, 1) := by decide +kernel
theorem dX5_addWord_4 : decode cX5_addWord 4 = .ok (.getfield 25, 3) := by decide +kernel
theorem dX5_addWord_7 : decode cX5_addWord 7 = .ok (.iload_n 2, 1) := by decide +kernel
theorem dX5_addWord_8 : decode cX5_addWord 8 = .ok (.iaload, 1) := by decide +kernel
theorem dX5_addWord_9 : decode cX5_addWord 9 = .ok (.if_icmp .ge 19, 3) := by decide +kernel
theorem dX5_addWord_12 : decode cX5_addWord 12 = .ok (.aload_n 0, 1) := by decide +kernel
theorem dX5_addWord_13 : decode cX5_addWord 13 = .ok (.aload_n 1, 1) := by decide +kernel
theorem dX5_addWord_14 : decode cX5_addWord 14 = .ok (.iload_n 2, 1) := by decide +kernel
theorem dX5_addWord_15 : decode cX5_addWord 15 = .ok (.iload_n 3, 1) := by decide +kernel
theorem dX5_addWord_16 : decode cX5_addWord 16 = .ok (.invokevirtual 30, 3) := by decide +kernel
theorem dX5_addWord_19 : decode cX5_addWord 19 = .ok (.invokevirtual 34, 3) := by decide +kernel
theorem dX5_addWord_22 : decode cX5_addWord 22 = .ok (.iinc 3 1, 3) := by decide +kernel
theorem dX5_addWord_25 : decode cX5_addWord 25 = .ok (.goto (-23), 3) := by decide +kernel
theorem dX5_addWord_28 : decode cX5_addWord 28 = .ok (.return_, 1) := by decide +kernel
set_option maxRecDepth 100000 in
def f_X5_addWord_2 : Nat → Nat → Nat → Int32 → Int32 → dtM → Option dtM
  | 0, _, _, _, _, _ => none
  | n + 1, l0, l1, l2, l3, μ =>
    (opGR 3 12 μ l1).bind fun x1 => (opLI 1 μ x1 l2).bind fun x3 => if x3 ≤ l3 then (some μ) else ((opRv 3 μ l1).bind fun _ => opCall (f_X3_soundOfWord l1 l2 l3 μ) fun x11 μ9 => (opRv 5 μ9 l0).bind fun _ => (f_X5_addSound l0 x11 μ9).bind fun μ13 => f_X5_addWord_2 n l0 l1 l2 (l3 + 1) μ13)
set_option maxRecDepth 100000 in
def f_X5_addWord (p0 : Nat) (p1 : Nat) (p2 : Int32) (μ : dtM) : Option dtM :=
  f_X5_addWord_2 dtFuel p0 p1 p2 (0 : Int32) μ
set_option maxRecDepth 100000 in
theorem c_X5_addWord_2 {F : dtM} : ∀ (n : Nat) (l0 : Nat) (l1 : Nat) (l2 : Int32) (l3 : Int32) (μ : dtM), f_X5_addWord_2 n l0 l1 l2 l3 μ = some F → dtW yX5_addWord cX5_addWord 4 (none) 2 (none) F 2 [some (.ref l0), some (.ref l1), some (.int l2), some (.int l3)] [] μ := by
  intro n
  induction n with
  | zero => intro l0 l1 l2 l3 μ h; cases h
  | succ n ih =>
    intro l0 l1 l2 l3 μ h
    have h := (show f_X5_addWord_2 (n + 1) l0 l1 l2 l3 μ = some _ from h)
    rw [f_X5_addWord_2] at h
    refine dr_iload_n l3 dX5_addWord_2 rfl ?_
    refine dr_aload_n l1 dX5_addWord_3 rfl ?_
    obtain ⟨x1, e2, h⟩ := dtBind h
    refine dr_getR x1 dX5_addWord_4 fl_RX5_25 e2 ?_
    refine dr_iload_n l2 dX5_addWord_7 rfl ?_
    obtain ⟨x3, e4, h⟩ := dtBind h
    refine dr_iaload x3 dX5_addWord_8 e4 ?_
    obtain ⟨ht6, hf7⟩ := dtIte h
    refine dr_icmp_ge 28 dX5_addWord_9 (by decide) (fun hc5 => ?_) (fun hc5 => ?_)
    · have h := ht6 hc5
      cases h
      exact dr_return dX5_addWord_28
    · have h := hf7 hc5
      refine dr_aload_n l0 dX5_addWord_12 rfl ?_
      refine dr_aload_n l1 dX5_addWord_13 rfl ?_
      refine dr_iload_n l2 dX5_addWord_14 rfl ?_
      refine dr_iload_n l3 dX5_addWord_15 rfl ?_
      obtain ⟨_, hb8, h⟩ := dtBind h
      obtain ⟨x11, μ9, e10, h⟩ := dtCall h
      refine dr_callV_i (S0 := [.ref l0]) [.int l2, .int l3] x11 μ9 dX5_addWord_16 (c_X3_soundOfWord l1 l2 l3 μ e10) mf_X3_soundOfWord wt_736 wt_737 wt_1074 rfl (dtRv hb8) (by decide) rfl (Nat.le_of_ble_eq_true rfl) (Nat.le_of_ble_eq_true rfl) rfl ?_
      obtain ⟨_, hb12, h⟩ := dtBind h
      obtain ⟨μ13, e14, h⟩ := dtBind h
      refine dr_callV_v (S0 := []) [.int x11] μ13 dX5_addWord_19 (c_X5_addSound l0 x11 μ9 e14) mf_X5_addSound wt_1058 wt_1059 wt_1057 rfl (dtRv hb12) (by decide) rfl (Nat.le_of_ble_eq_true rfl) (Nat.le_of_ble_eq_true rfl) rfl ?_
      refine dr_iinc l3 (l3 + 1) [some (.ref l0), some (.ref l1), some (.int l2), some (.int (l3 + 1))] dX5_addWord_22 rfl rfl rfl rfl rfl ?_
      refine dr_goto 2 dX5_addWord_25 (by decide) ?_
      exact ih l0 l1 l2 (l3 + 1) μ13 h
set_option maxRecDepth 100000 in
theorem c_X5_addWord {F : dtM} (p0 : Nat) (p1 : Nat) (p2 : Int32) (μ : dtM) (h : f_X5_addWord p0 p1 p2 μ = some F) : dtMet yX5_addWord cX5_addWord 4 (none) 2 [.ref p0, .ref p1, .int p2] μ (none) F := by
  refine dtMet.of (by decide +kernel) (Nat.le_of_ble_eq_true rfl) (show dtW yX5_addWord cX5_addWord 4 (none) 2 (none) F 0 [some (.ref p0), some (.ref p1), some (.int p2)] [] μ from ?_)
  rw [f_X5_addWord] at h
  refine dr_iconst (0 : Int32) dX5_addWord_0 (by decide) ?_
  refine dr_istore_n 3 [some (.ref p0), some (.ref p1), some (.int p2), some (.int (0 : Int32))] dX5_addWord_1 rfl rfl rfl rfl ?_
  exact c_X5_addWord_2 dtFuel p0 p1 p2 (0 : Int32) μ h
/-! X5_loadHeard -/
theorem dX5_loadHeard_0 : decode cX5_loadHeard 0 = .ok (.aload_n 0, 1) := by decide +kernel
theorem dX5_loadHeard_1 : decode cX5_loadHeard 1 = .ok (.invokevirtual 38, 3) := by decide +kernel
theorem dX5_loadHeard_4 : decode cX5_loadHeard 4 = .ok (.iconst 0, 1) := by decide +kernel
theorem dX5_loadHeard_5 : decode cX5_loadHeard 5 = .ok (.istore_n 3, 1) := by decide +kernel
theorem dX5_loadHeard_6 : decode cX5_loadHeard 6 = .ok (.iload_n 3, 1) := by decide +kernel
theorem dX5_loadHeard_7 : decode cX5_loadHeard 7 = .ok (.aload_n 1, 1) := by decide +kernel
theorem dX5_loadHeard_8 : decode cX5_loadHeard 8 = .ok (.getfield 41, 3) := by decide +kernel
theorem dX5_loadHeard_11 : decode cX5_loadHeard 11 = .ok (.iload_n 2, 1) := by decide +kernel
theorem dX5_loadHeard_12 : decode cX5_loadHeard 12 = .ok (.iaload, 1) := by decide +kernel
theorem dX5_loadHeard_13 : decode cX5_loadHeard 13 = .ok (.if_icmp .ge 24, 3) := by decide +kernel
theorem dX5_loadHeard_16 : decode cX5_loadHeard 16 = .ok (.aload_n 0, 1) := by decide +kernel
theorem dX5_loadHeard_17 : decode cX5_loadHeard 17 = .ok (.aload_n 1, 1) := by decide +kernel
theorem dX5_loadHeard_18 : decode cX5_loadHeard 18 = .ok (.getfield 44, 3) := by decide +kernel
theorem dX5_loadHeard_21 : decode cX5_loadHeard 21 = .ok (.iload_n 2, 1) := by decide +kernel
theorem dX5_loadHeard_22 : decode cX5_loadHeard 22 = .ok (.bipush 8, 2) := by decide +kernel
theorem dX5_loadHeard_24 : decode cX5_loadHeard 24 = .ok (.imul, 1) := by decide +kernel
theorem dX5_loadHeard_25 : decode cX5_loadHeard 25 = .ok (.iload_n 3, 1) := by decide +kernel
theorem dX5_loadHeard_26 : decode cX5_loadHeard 26 = .ok (.iadd, 1) := by decide +kernel
theorem dX5_loadHeard_27 : decode cX5_loadHeard 27 = .ok (.iaload, 1) := by decide +kernel
theorem dX5_loadHeard_28 : decode cX5_loadHeard 28 = .ok (.invokevirtual 34, 3) := by decide +kernel
theorem dX5_loadHeard_31 : decode cX5_loadHeard 31 = .ok (.iinc 3 1, 3) := by decide +kernel
theorem dX5_loadHeard_34 : decode cX5_loadHeard 34 = .ok (.goto (-28), 3) := by decide +kernel
theorem dX5_loadHeard_37 : decode cX5_loadHeard 37 = .ok (.return_, 1) := by decide +kernel
set_option maxRecDepth 100000 in
def f_X5_loadHeard_6 : Nat → Nat → Nat → Int32 → Int32 → dtM → Option dtM
  | 0, _, _, _, _, _ => none
  | n + 1, l0, l1, l2, l3, μ =>
    (opGR 3 17 μ l1).bind fun x1 => (opLI 1 μ x1 l2).bind fun x3 => if x3 ≤ l3 then (some μ) else ((opGR 3 18 μ l1).bind fun x8 => (opLI 1 μ x8 ((l2 * (8 : Int32)) + l3)).bind fun x10 => (opRv 5 μ l0).bind fun _ => (f_X5_addSound l0 x10 μ).bind fun μ13 => f_X5_loadHeard_6 n l0 l1 l2 (l3 + 1) μ13)
set_option maxRecDepth 100000 in
def f_X5_loadHeard (p0 : Nat) (p1 : Nat) (p2 : Int32) (μ : dtM) : Option dtM :=
  (opRv 5 μ p0).bind fun _ => (f_X5_beginRow p0 μ).bind fun μ2 => f_X5_loadHeard_6 dtFuel p0 p1 p2 (0 : Int32) μ2
set_option maxRecDepth 100000 in
theorem c_X5_loadHeard_6 {F : dtM} : ∀ (n : Nat) (l0 : Nat) (l1 : Nat) (l2 : Int32) (l3 : Int32) (μ : dtM), f_X5_loadHeard_6 n l0 l1 l2 l3 μ = some F → dtW yX5_loadHeard cX5_loadHeard 4 (none) 2 (none) F 6 [some (.ref l0), some (.ref l1), some (.int l2), some (.int l3)] [] μ := by
  intro n
  induction n with
  | zero => intro l0 l1 l2 l3 μ h; cases h
  | succ n ih =>
    intro l0 l1 l2 l3 μ h
    have h := (show f_X5_loadHeard_6 (n + 1) l0 l1 l2 l3 μ = some _ from h)
    rw [f_X5_loadHeard_6] at h
    refine dr_iload_n l3 dX5_loadHeard_6 rfl ?_
    refine dr_aload_n l1 dX5_loadHeard_7 rfl ?_
    obtain ⟨x1, e2, h⟩ := dtBind h
    refine dr_getR x1 dX5_loadHeard_8 fl_RX5_41 e2 ?_
    refine dr_iload_n l2 dX5_loadHeard_11 rfl ?_
    obtain ⟨x3, e4, h⟩ := dtBind h
    refine dr_iaload x3 dX5_loadHeard_12 e4 ?_
    obtain ⟨ht6, hf7⟩ := dtIte h
    refine dr_icmp_ge 37 dX5_loadHeard_13 (by decide) (fun hc5 => ?_) (fun hc5 => ?_)
    · have h := ht6 hc5
      cases h
      exact dr_return dX5_loadHeard_37
    · have h := hf7 hc5
      refine dr_aload_n l0 dX5_loadHeard_16 rfl ?_
      refine dr_aload_n l1 dX5_loadHeard_17 rfl ?_
      obtain ⟨x8, e9, h⟩ := dtBind h
      refine dr_getR x8 dX5_loadHeard_18 fl_RX5_44 e9 ?_
      refine dr_iload_n l2 dX5_loadHeard_21 rfl ?_
      refine dr_bipush (8 : Int32) dX5_loadHeard_22 (by decide) ?_
      refine dr_imul dX5_loadHeard_24 ?_
      refine dr_iload_n l3 dX5_loadHeard_25 rfl ?_
      refine dr_iadd dX5_loadHeard_26 ?_
      obtain ⟨x10, e11, h⟩ := dtBind h
      refine dr_iaload x10 dX5_loadHeard_27 e11 ?_
      obtain ⟨_, hb12, h⟩ := dtBind h
      obtain ⟨μ13, e14, h⟩ := dtBind h
      refine dr_callV_v (S0 := []) [.int x10] μ13 dX5_loadHeard_28 (c_X5_addSound l0 x10 μ e14) mf_X5_addSound wt_1058 wt_1059 wt_1057 rfl (dtRv hb12) (by decide) rfl (Nat.le_of_ble_eq_true rfl) (Nat.le_of_ble_eq_true rfl) rfl ?_
      refine dr_iinc l3 (l3 + 1) [some (.ref l0), some (.ref l1), some (.int l2), some (.int (l3 + 1))] dX5_loadHeard_31 rfl rfl rfl rfl rfl ?_
      refine dr_goto 6 dX5_loadHeard_34 (by decide) ?_
      exact ih l0 l1 l2 (l3 + 1) μ13 h
set_option maxRecDepth 100000 in
theorem c_X5_loadHeard {F : dtM} (p0 : Nat) (p1 : Nat) (p2 : Int32) (μ : dtM) (h : f_X5_loadHeard p0 p1 p2 μ = some F) : dtMet yX5_loadHeard cX5_loadHeard 4 (none) 2 [.ref p0, .ref p1, .int p2] μ (none) F := by
  refine dtMet.of (by decide +kernel) (Nat.le_of_ble_eq_true rfl) (show dtW yX5_loadHeard cX5_loadHeard 4 (none) 2 (none) F 0 [some (.ref p0), some (.ref p1), some (.int p2)] [] μ from ?_)
  rw [f_X5_loadHeard] at h
  refine dr_aload_n p0 dX5_loadHeard_0 rfl ?_
  obtain ⟨_, hb1, h⟩ := dtBind h
  obtain ⟨μ2, e3, h⟩ := dtBind h
  refine dr_callV_v (S0 := []) [] μ2 dX5_loadHeard_1 (c_X5_beginRow p0 μ e3) mf_X5_beginRow wt_1054 wt_1055 wt_1053 rfl (dtRv hb1) (by decide) rfl (Nat.le_of_ble_eq_true rfl) (Nat.le_of_ble_eq_true rfl) rfl ?_
  refine dr_iconst (0 : Int32) dX5_loadHeard_4 (by decide) ?_
  refine dr_istore_n 3 [some (.ref p0), some (.ref p1), some (.int p2), some (.int (0 : Int32))] dX5_loadHeard_5 rfl rfl rfl rfl ?_
  exact c_X5_loadHeard_6 dtFuel p0 p1 p2 (0 : Int32) μ2 h
/-! X5_soundAt -/
theorem dX5_soundAt_0 : decode cX5_soundAt 0 = .ok (.iload_n 1, 1) := by decide +kernel
theorem dX5_soundAt_1 : decode cX5_soundAt 1 = .ok (.ifCond .lt 20, 3) := by decide +kernel
theorem dX5_soundAt_4 : decode cX5_soundAt 4 = .ok (.iload_n 1, 1) := by decide +kernel
theorem dX5_soundAt_5 : decode cX5_soundAt 5 = .ok (.aload_n 0, 1) := by decide +kernel
theorem dX5_soundAt_6 : decode cX5_soundAt 6 = .ok (.getfield 21, 3) := by decide +kernel
theorem dX5_soundAt_9 : decode cX5_soundAt 9 = .ok (.if_icmp .ge 12, 3) := by decide +kernel
theorem dX5_soundAt_12 : decode cX5_soundAt 12 = .ok (.aload_n 0, 1) := by decide +kernel
theorem dX5_soundAt_13 : decode cX5_soundAt 13 = .ok (.getfield 9, 3) := by decide +kernel
theorem dX5_soundAt_16 : decode cX5_soundAt 16 = .ok (.iload_n 1, 1) := by decide +kernel
theorem dX5_soundAt_17 : decode cX5_soundAt 17 = .ok (.iaload, 1) := by decide +kernel
theorem dX5_soundAt_18 : decode cX5_soundAt 18 = .ok (.goto 4, 3) := by decide +kernel
theorem dX5_soundAt_21 : decode cX5_soundAt 21 = .ok (.iconst (-1), 1) := by decide +kernel
theorem dX5_soundAt_22 : decode cX5_soundAt 22 = .ok (.ireturn, 1) := by decide +kernel
set_option maxRecDepth 100000 in
def f_X5_soundAt_22 (s0 : Int32) (μ : dtM) : Option (Int32 × dtM) :=
  some (s0, μ)
set_option maxRecDepth 100000 in
def f_X5_soundAt_21  (μ : dtM) : Option (Int32 × dtM) :=
  f_X5_soundAt_22 (-1 : Int32) μ
set_option maxRecDepth 100000 in
def f_X5_soundAt (p0 : Nat) (p1 : Int32) (μ : dtM) : Option (Int32 × dtM) :=
  if p1 < 0 then (f_X5_soundAt_21 μ) else ((opGI 5 1 μ p0).bind fun x4 => if x4 ≤ p1 then (f_X5_soundAt_21 μ) else ((opGR 5 0 μ p0).bind fun x9 => (opLI 1 μ x9 p1).bind fun x11 => f_X5_soundAt_22 x11 μ))
set_option maxRecDepth 100000 in
theorem c_X5_soundAt_22 {r : Int32} {F : dtM} (s0 : Int32) (μ : dtM) (h : f_X5_soundAt_22 s0 μ = some (r, F)) : dtW yX5_soundAt cX5_soundAt 2 (some .int) 1 (some (.int r)) F 22 [] [.int s0] μ := by
  rw [f_X5_soundAt_22] at h
  cases h
  exact dr_ireturn dX5_soundAt_22 rfl
set_option maxRecDepth 100000 in
theorem c_X5_soundAt_21 {r : Int32} {F : dtM}  (μ : dtM) (h : f_X5_soundAt_21  μ = some (r, F)) : dtW yX5_soundAt cX5_soundAt 2 (some .int) 1 (some (.int r)) F 21 [] [] μ := by
  rw [f_X5_soundAt_21] at h
  refine dr_iconst (-1 : Int32) dX5_soundAt_21 (by decide) ?_
  exact c_X5_soundAt_22 (-1 : Int32) μ h
set_option maxRecDepth 100000 in
theorem c_X5_soundAt {r : Int32} {F : dtM} (p0 : Nat) (p1 : Int32) (μ : dtM) (h : f_X5_soundAt p0 p1 μ = some (r, F)) : dtMet yX5_soundAt cX5_soundAt 2 (some .int) 1 [.ref p0, .int p1] μ (some (.int r)) F := by
  refine dtMet.of (by decide +kernel) (Nat.le_of_ble_eq_true rfl) (show dtW yX5_soundAt cX5_soundAt 2 (some .int) 1 (some (.int r)) F 0 [some (.ref p0), some (.int p1)] [] μ from ?_)
  rw [f_X5_soundAt] at h
  refine dr_iload_n p1 dX5_soundAt_0 rfl ?_
  obtain ⟨ht2, hf3⟩ := dtIte h
  refine dr_if_lt 21 dX5_soundAt_1 (by decide) (fun hc1 => ?_) (fun hc1 => ?_)
  · have h := ht2 hc1
    refine dr_mask [] [] rfl ?_
    exact c_X5_soundAt_21 μ h
  · have h := hf3 hc1
    refine dr_iload_n p1 dX5_soundAt_4 rfl ?_
    refine dr_aload_n p0 dX5_soundAt_5 rfl ?_
    obtain ⟨x4, e5, h⟩ := dtBind h
    refine dr_getI x4 dX5_soundAt_6 fl_RX5_21 e5 ?_
    obtain ⟨ht7, hf8⟩ := dtIte h
    refine dr_icmp_ge 21 dX5_soundAt_9 (by decide) (fun hc6 => ?_) (fun hc6 => ?_)
    · have h := ht7 hc6
      refine dr_mask [] [] rfl ?_
      exact c_X5_soundAt_21 μ h
    · have h := hf8 hc6
      refine dr_aload_n p0 dX5_soundAt_12 rfl ?_
      obtain ⟨x9, e10, h⟩ := dtBind h
      refine dr_getR x9 dX5_soundAt_13 fl_RX5_9 e10 ?_
      refine dr_iload_n p1 dX5_soundAt_16 rfl ?_
      obtain ⟨x11, e12, h⟩ := dtBind h
      refine dr_iaload x11 dX5_soundAt_17 e12 ?_
      refine dr_goto 22 dX5_soundAt_18 (by decide) ?_
      refine dr_mask [] [] rfl ?_
      exact c_X5_soundAt_22 x11 μ h
/-! X5_agrees -/
theorem dX5_agrees_0 : decode cX5_agrees 0 = .ok (.iconst 0, 1) := by decide +kernel
theorem dX5_agrees_1 : decode cX5_agrees 1 = .ok (.istore 5, 2) := by decide +kernel
theorem dX5_agrees_3 : decode cX5_agrees 3 = .ok (.iload 5, 2) := by decide +kernel
theorem dX5_agrees_5 : decode cX5_agrees 5 = .ok (.iload 4, 2) := by decide +kernel
theorem dX5_agrees_7 : decode cX5_agrees 7 = .ok (.if_icmp .ge 30, 3) := by decide +kernel
theorem dX5_agrees_10 : decode cX5_agrees 10 = .ok (.aload_n 0, 1) := by decide +kernel
theorem dX5_agrees_11 : decode cX5_agrees 11 = .ok (.getfield 9, 3) := by decide +kernel
theorem dX5_agrees_14 : decode cX5_agrees 14 = .ok (.iload_n 3, 1) := by decide +kernel
theorem dX5_agrees_15 : decode cX5_agrees 15 = .ok (.iload 5, 2) := by decide +kernel
theorem dX5_agrees_17 : decode cX5_agrees 17 = .ok (.iadd, 1) := by decide +kernel
theorem dX5_agrees_18 : decode cX5_agrees 18 = .ok (.iaload, 1) := by decide +kernel
theorem dX5_agrees_19 : decode cX5_agrees 19 = .ok (.aload_n 1, 1) := by decide +kernel
theorem dX5_agrees_20 : decode cX5_agrees 20 = .ok (.iload_n 2, 1) := by decide +kernel
theorem dX5_agrees_21 : decode cX5_agrees 21 = .ok (.iload 5, 2) := by decide +kernel
theorem dX5_agrees_23 : decode cX5_agrees 23 = .ok (.invokevirtual 30, 3) := by decide +kernel
theorem dX5_agrees_26 : decode cX5_agrees 26 = .ok (.if_icmp .eq 5, 3) := by decide +kernel
theorem dX5_agrees_29 : decode cX5_agrees 29 = .ok (.iconst 0, 1) := by decide +kernel
theorem dX5_agrees_30 : decode cX5_agrees 30 = .ok (.ireturn, 1) := by decide +kernel
theorem dX5_agrees_31 : decode cX5_agrees 31 = .ok (.iinc 5 1, 3) := by decide +kernel
theorem dX5_agrees_34 : decode cX5_agrees 34 = .ok (.goto (-31), 3) := by decide +kernel
theorem dX5_agrees_37 : decode cX5_agrees 37 = .ok (.iconst 1, 1) := by decide +kernel
theorem dX5_agrees_38 : decode cX5_agrees 38 = .ok (.ireturn, 1) := by decide +kernel
set_option maxRecDepth 100000 in
def f_X5_agrees_3 : Nat → Nat → Nat → Int32 → Int32 → Int32 → Int32 → dtM → Option (Int32 × dtM)
  | 0, _, _, _, _, _, _, _ => none
  | n + 1, l0, l1, l2, l3, l4, l5, μ =>
    if l4 ≤ l5 then (opRet (1 : Int32) μ) else ((opGR 5 0 μ l0).bind fun x4 => (opLI 1 μ x4 (l3 + l5)).bind fun x6 => (opRv 3 μ l1).bind fun _ => opCall (f_X3_soundOfWord l1 l2 l5 μ) fun x11 μ9 => if x6 = x11 then (f_X5_agrees_3 n l0 l1 l2 l3 l4 (l5 + 1) μ9) else (opRet (0 : Int32) μ9))
set_option maxRecDepth 100000 in
def f_X5_agrees (p0 : Nat) (p1 : Nat) (p2 : Int32) (p3 : Int32) (p4 : Int32) (μ : dtM) : Option (Int32 × dtM) :=
  f_X5_agrees_3 dtFuel p0 p1 p2 p3 p4 (0 : Int32) μ
set_option maxRecDepth 100000 in
theorem c_X5_agrees_3 {r : Int32} {F : dtM} : ∀ (n : Nat) (l0 : Nat) (l1 : Nat) (l2 : Int32) (l3 : Int32) (l4 : Int32) (l5 : Int32) (μ : dtM), f_X5_agrees_3 n l0 l1 l2 l3 l4 l5 μ = some (r, F) → dtW yX5_agrees cX5_agrees 6 (some .boolean) 2 (some (.int r)) F 3 [some (.ref l0), some (.ref l1), some (.int l2), some (.int l3), some (.int l4), some (.int l5)] [] μ := by
  intro n
  induction n with
  | zero => intro l0 l1 l2 l3 l4 l5 μ h; cases h
  | succ n ih =>
    intro l0 l1 l2 l3 l4 l5 μ h
    have h := (show f_X5_agrees_3 (n + 1) l0 l1 l2 l3 l4 l5 μ = some _ from h)
    rw [f_X5_agrees_3] at h
    refine dr_iload l5 dX5_agrees_3 rfl ?_
    refine dr_iload l4 dX5_agrees_5 rfl ?_
    obtain ⟨ht2, hf3⟩ := dtIte h
    refine dr_icmp_ge 37 dX5_agrees_7 (by decide) (fun hc1 => ?_) (fun hc1 => ?_)
    · have h := ht2 hc1
      refine dr_iconst (1 : Int32) dX5_agrees_37 (by decide) ?_
      obtain ⟨hz, rfl, rfl⟩ := dtRet h
      exact dr_ireturn dX5_agrees_38 (dtNz hz)
    · have h := hf3 hc1
      refine dr_aload_n l0 dX5_agrees_10 rfl ?_
      obtain ⟨x4, e5, h⟩ := dtBind h
      refine dr_getR x4 dX5_agrees_11 fl_RX5_9 e5 ?_
      refine dr_iload_n l3 dX5_agrees_14 rfl ?_
      refine dr_iload l5 dX5_agrees_15 rfl ?_
      refine dr_iadd dX5_agrees_17 ?_
      obtain ⟨x6, e7, h⟩ := dtBind h
      refine dr_iaload x6 dX5_agrees_18 e7 ?_
      refine dr_aload_n l1 dX5_agrees_19 rfl ?_
      refine dr_iload_n l2 dX5_agrees_20 rfl ?_
      refine dr_iload l5 dX5_agrees_21 rfl ?_
      obtain ⟨_, hb8, h⟩ := dtBind h
      obtain ⟨x11, μ9, e10, h⟩ := dtCall h
      refine dr_callV_i (S0 := [.int x6]) [.int l2, .int l5] x11 μ9 dX5_agrees_23 (c_X3_soundOfWord l1 l2 l5 μ e10) mf_X3_soundOfWord wt_736 wt_737 wt_1074 rfl (dtRv hb8) (by decide) rfl (Nat.le_of_ble_eq_true rfl) (Nat.le_of_ble_eq_true rfl) rfl ?_
      obtain ⟨ht13, hf14⟩ := dtIte h
      refine dr_icmp_eq 31 dX5_agrees_26 (by decide) (fun hc12 => ?_) (fun hc12 => ?_)
      · have h := ht13 hc12
        refine dr_iinc l5 (l5 + 1) [some (.ref l0), some (.ref l1), some (.int l2), some (.int l3), some (.int l4), some (.int (l5 + 1))] dX5_agrees_31 rfl rfl rfl rfl rfl ?_
        refine dr_goto 3 dX5_agrees_34 (by decide) ?_
        exact ih l0 l1 l2 l3 l4 (l5 + 1) μ9 h
      · have h := hf14 hc12
        refine dr_iconst (0 : Int32) dX5_agrees_29 (by decide) ?_
        obtain ⟨hz, rfl, rfl⟩ := dtRet h
        exact dr_ireturn dX5_agrees_30 (dtNz hz)
set_option maxRecDepth 100000 in
theorem c_X5_agrees {r : Int32} {F : dtM} (p0 : Nat) (p1 : Nat) (p2 : Int32) (p3 : Int32) (p4 : Int32) (μ : dtM) (h : f_X5_agrees p0 p1 p2 p3 p4 μ = some (r, F)) : dtMet yX5_agrees cX5_agrees 6 (some .boolean) 2 [.ref p0, .ref p1, .int p2, .int p3, .int p4] μ (some (.int r)) F := by
  refine dtMet.of (by decide +kernel) (Nat.le_of_ble_eq_true rfl) (show dtW yX5_agrees cX5_agrees 6 (some .boolean) 2 (some (.int r)) F 0 [some (.ref p0), some (.ref p1), some (.int p2), some (.int p3), some (.int p4)] [] μ from ?_)
  rw [f_X5_agrees] at h
  refine dr_iconst (0 : Int32) dX5_agrees_0 (by decide) ?_
  refine dr_istore [some (.ref p0), some (.ref p1), some (.int p2), some (.int p3), some (.int p4), some (.int (0 : Int32))] dX5_agrees_1 rfl rfl rfl ?_
  exact c_X5_agrees_3 dtFuel p0 p1 p2 p3 p4 (0 : Int32) μ h
/-! X5_fits -/
theorem dX5_fits_0 : decode cX5_fits 0 = .ok (.aload_n 1, 1) := by decide +kernel
theorem dX5_fits_1 : decode cX5_fits 1 = .ok (.getfield 25, 3) := by decide +kernel
theorem dX5_fits_4 : decode cX5_fits 4 = .ok (.iload_n 2, 1) := by decide +kernel
theorem dX5_fits_5 : decode cX5_fits 5 = .ok (.iaload, 1) := by decide +kernel
theorem dX5_fits_6 : decode cX5_fits 6 = .ok (.istore 4, 2) := by decide +kernel
theorem dX5_fits_8 : decode cX5_fits 8 = .ok (.iload_n 3, 1) := by decide +kernel
theorem dX5_fits_9 : decode cX5_fits 9 = .ok (.ifCond .lt 30, 3) := by decide +kernel
theorem dX5_fits_12 : decode cX5_fits 12 = .ok (.iload_n 3, 1) := by decide +kernel
theorem dX5_fits_13 : decode cX5_fits 13 = .ok (.iload 4, 2) := by decide +kernel
theorem dX5_fits_15 : decode cX5_fits 15 = .ok (.iadd, 1) := by decide +kernel
theorem dX5_fits_16 : decode cX5_fits 16 = .ok (.aload_n 0, 1) := by decide +kernel
theorem dX5_fits_17 : decode cX5_fits 17 = .ok (.getfield 21, 3) := by decide +kernel
theorem dX5_fits_20 : decode cX5_fits 20 = .ok (.if_icmp .gt 19, 3) := by decide +kernel
theorem dX5_fits_23 : decode cX5_fits 23 = .ok (.aload_n 0, 1) := by decide +kernel
theorem dX5_fits_24 : decode cX5_fits 24 = .ok (.aload_n 1, 1) := by decide +kernel
theorem dX5_fits_25 : decode cX5_fits 25 = .ok (.iload_n 2, 1) := by decide +kernel
theorem dX5_fits_26 : decode cX5_fits 26 = .ok (.iload_n 3, 1) := by decide +kernel
theorem dX5_fits_27 : decode cX5_fits 27 = .ok (.iload 4, 2) := by decide +kernel
theorem dX5_fits_29 : decode cX5_fits 29 = .ok (.invokevirtual 58, 3) := by decide +kernel
theorem dX5_fits_32 : decode cX5_fits 32 = .ok (.ifCond .eq 7, 3) := by decide +kernel
theorem dX5_fits_35 : decode cX5_fits 35 = .ok (.iconst 1, 1) := by decide +kernel
theorem dX5_fits_36 : decode cX5_fits 36 = .ok (.goto 4, 3) := by decide +kernel
theorem dX5_fits_39 : decode cX5_fits 39 = .ok (.iconst 0, 1) := by decide +kernel
theorem dX5_fits_40 : decode cX5_fits 40 = .ok (.ireturn, 1) := by decide +kernel
set_option maxRecDepth 100000 in
def f_X5_fits_40 (s0 : Int32) (μ : dtM) : Option (Int32 × dtM) :=
  opRet s0 μ
set_option maxRecDepth 100000 in
def f_X5_fits_39  (μ : dtM) : Option (Int32 × dtM) :=
  f_X5_fits_40 (0 : Int32) μ
set_option maxRecDepth 100000 in
def f_X5_fits (p0 : Nat) (p1 : Nat) (p2 : Int32) (p3 : Int32) (μ : dtM) : Option (Int32 × dtM) :=
  (opGR 3 12 μ p1).bind fun x1 => (opLI 1 μ x1 p2).bind fun x3 => if p3 < 0 then (f_X5_fits_39 μ) else ((opGI 5 1 μ p0).bind fun x8 => if x8 < (p3 + x3) then (f_X5_fits_39 μ) else ((opRv 5 μ p0).bind fun _ => opCall (f_X5_agrees p0 p1 p2 p3 x3 μ) fun x16 μ14 => if x16 = 0 then (f_X5_fits_39 μ14) else (f_X5_fits_40 (1 : Int32) μ14)))
set_option maxRecDepth 100000 in
theorem c_X5_fits_40 {r : Int32} {F : dtM} (s0 : Int32) (μ : dtM) (h : f_X5_fits_40 s0 μ = some (r, F)) : dtW yX5_fits cX5_fits 5 (some .boolean) 3 (some (.int r)) F 40 [] [.int s0] μ := by
  rw [f_X5_fits_40] at h
  obtain ⟨hz, rfl, rfl⟩ := dtRet h
  exact dr_ireturn dX5_fits_40 (dtNz hz)
set_option maxRecDepth 100000 in
theorem c_X5_fits_39 {r : Int32} {F : dtM}  (μ : dtM) (h : f_X5_fits_39  μ = some (r, F)) : dtW yX5_fits cX5_fits 5 (some .boolean) 3 (some (.int r)) F 39 [] [] μ := by
  rw [f_X5_fits_39] at h
  refine dr_iconst (0 : Int32) dX5_fits_39 (by decide) ?_
  exact c_X5_fits_40 (0 : Int32) μ h
set_option maxRecDepth 100000 in
theorem c_X5_fits {r : Int32} {F : dtM} (p0 : Nat) (p1 : Nat) (p2 : Int32) (p3 : Int32) (μ : dtM) (h : f_X5_fits p0 p1 p2 p3 μ = some (r, F)) : dtMet yX5_fits cX5_fits 5 (some .boolean) 3 [.ref p0, .ref p1, .int p2, .int p3] μ (some (.int r)) F := by
  refine dtMet.of (by decide +kernel) (Nat.le_of_ble_eq_true rfl) (show dtW yX5_fits cX5_fits 5 (some .boolean) 3 (some (.int r)) F 0 [some (.ref p0), some (.ref p1), some (.int p2), some (.int p3)] [] μ from ?_)
  rw [f_X5_fits] at h
  refine dr_aload_n p1 dX5_fits_0 rfl ?_
  obtain ⟨x1, e2, h⟩ := dtBind h
  refine dr_getR x1 dX5_fits_1 fl_RX5_25 e2 ?_
  refine dr_iload_n p2 dX5_fits_4 rfl ?_
  obtain ⟨x3, e4, h⟩ := dtBind h
  refine dr_iaload x3 dX5_fits_5 e4 ?_
  refine dr_istore [some (.ref p0), some (.ref p1), some (.int p2), some (.int p3), some (.int x3)] dX5_fits_6 rfl rfl rfl ?_
  refine dr_iload_n p3 dX5_fits_8 rfl ?_
  obtain ⟨ht6, hf7⟩ := dtIte h
  refine dr_if_lt 39 dX5_fits_9 (by decide) (fun hc5 => ?_) (fun hc5 => ?_)
  · have h := ht6 hc5
    refine dr_mask [] [] rfl ?_
    exact c_X5_fits_39 μ h
  · have h := hf7 hc5
    refine dr_iload_n p3 dX5_fits_12 rfl ?_
    refine dr_iload x3 dX5_fits_13 rfl ?_
    refine dr_iadd dX5_fits_15 ?_
    refine dr_aload_n p0 dX5_fits_16 rfl ?_
    obtain ⟨x8, e9, h⟩ := dtBind h
    refine dr_getI x8 dX5_fits_17 fl_RX5_21 e9 ?_
    obtain ⟨ht11, hf12⟩ := dtIte h
    refine dr_icmp_gt 39 dX5_fits_20 (by decide) (fun hc10 => ?_) (fun hc10 => ?_)
    · have h := ht11 hc10
      refine dr_mask [] [] rfl ?_
      exact c_X5_fits_39 μ h
    · have h := hf12 hc10
      refine dr_aload_n p0 dX5_fits_23 rfl ?_
      refine dr_aload_n p1 dX5_fits_24 rfl ?_
      refine dr_iload_n p2 dX5_fits_25 rfl ?_
      refine dr_iload_n p3 dX5_fits_26 rfl ?_
      refine dr_iload x3 dX5_fits_27 rfl ?_
      obtain ⟨_, hb13, h⟩ := dtBind h
      obtain ⟨x16, μ14, e15, h⟩ := dtCall h
      refine dr_callV_i (S0 := []) [.ref p1, .int p2, .int p3, .int x3] x16 μ14 dX5_fits_29 (c_X5_agrees p0 p1 p2 p3 x3 μ e15) mf_X5_agrees wt_1072 ws_35 wt_1070 rfl (dtRv hb13) (by decide) rfl (Nat.le_of_ble_eq_true rfl) (Nat.le_of_ble_eq_true rfl) rfl ?_
      obtain ⟨ht18, hf19⟩ := dtIte h
      refine dr_if_eq 39 dX5_fits_32 (by decide) (fun hc17 => ?_) (fun hc17 => ?_)
      · have h := ht18 hc17
        refine dr_mask [] [] rfl ?_
        exact c_X5_fits_39 μ14 h
      · have h := hf19 hc17
        refine dr_iconst (1 : Int32) dX5_fits_35 (by decide) ?_
        refine dr_goto 40 dX5_fits_36 (by decide) ?_
        refine dr_mask [] [] rfl ?_
        exact c_X5_fits_40 (1 : Int32) μ14 h
/-! X5_countReadings -/
theorem dX5_countReadings_0 : decode cX5_countReadings 0 = .ok (.aload_n 0, 1) := by decide +kernel
theorem dX5_countReadings_1 : decode cX5_countReadings 1 = .ok (.getfield 15, 3) := by decide +kernel
theorem dX5_countReadings_4 : decode cX5_countReadings 4 = .ok (.aload_n 0, 1) := by decide +kernel
theorem dX5_countReadings_5 : decode cX5_countReadings 5 = .ok (.getfield 21, 3) := by decide +kernel
theorem dX5_countReadings_8 : decode cX5_countReadings 8 = .ok (.iconst 1, 1) := by decide +kernel
theorem dX5_countReadings_9 : decode cX5_countReadings 9 = .ok (.iastore, 1) := by decide +kernel
theorem dX5_countReadings_10 : decode cX5_countReadings 10 = .ok (.aload_n 0, 1) := by decide +kernel
theorem dX5_countReadings_11 : decode cX5_countReadings 11 = .ok (.getfield 21, 3) := by decide +kernel
theorem dX5_countReadings_14 : decode cX5_countReadings 14 = .ok (.iconst 1, 1) := by decide +kernel
theorem dX5_countReadings_15 : decode cX5_countReadings 15 = .ok (.isub, 1) := by decide +kernel
theorem dX5_countReadings_16 : decode cX5_countReadings 16 = .ok (.istore_n 3, 1) := by decide +kernel
theorem dX5_countReadings_17 : decode cX5_countReadings 17 = .ok (.iload_n 3, 1) := by decide +kernel
theorem dX5_countReadings_18 : decode cX5_countReadings 18 = .ok (.ifCond .lt 77, 3) := by decide +kernel
theorem dX5_countReadings_21 : decode cX5_countReadings 21 = .ok (.aload_n 0, 1) := by decide +kernel
theorem dX5_countReadings_22 : decode cX5_countReadings 22 = .ok (.getfield 15, 3) := by decide +kernel
theorem dX5_countReadings_25 : decode cX5_countReadings 25 = .ok (.iload_n 3, 1) := by decide +kernel
theorem dX5_countReadings_26 : decode cX5_countReadings 26 = .ok (.iconst 0, 1) := by decide +kernel
theorem dX5_countReadings_27 : decode cX5_countReadings 27 = .ok (.iastore, 1) := by decide +kernel
theorem dX5_countReadings_28 : decode cX5_countReadings 28 = .ok (.iconst 0, 1) := by decide +kernel
theorem dX5_countReadings_29 : decode cX5_countReadings 29 = .ok (.istore 4, 2) := by decide +kernel
theorem dX5_countReadings_31 : decode cX5_countReadings 31 = .ok (.iload 4, 2) := by decide +kernel
theorem dX5_countReadings_33 : decode cX5_countReadings 33 = .ok (.aload_n 1, 1) := by decide +kernel
theorem dX5_countReadings_34 : decode cX5_countReadings 34 = .ok (.getfield 47, 3) := by decide +kernel
theorem dX5_countReadings_37 : decode cX5_countReadings 37 = .ok (.if_icmp .ge 52, 3) := by decide +kernel
theorem dX5_countReadings_40 : decode cX5_countReadings 40 = .ok (.iload_n 2, 1) := by decide +kernel
theorem dX5_countReadings_41 : decode cX5_countReadings 41 = .ok (.iload 4, 2) := by decide +kernel
theorem dX5_countReadings_43 : decode cX5_countReadings 43 = .ok (.invokestatic 50, 3) := by decide +kernel
theorem dX5_countReadings_46 : decode cX5_countReadings 46 = .ok (.ifCond .eq 37, 3) := by decide +kernel
theorem dX5_countReadings_49 : decode cX5_countReadings 49 = .ok (.aload_n 0, 1) := by decide +kernel
theorem dX5_countReadings_50 : decode cX5_countReadings 50 = .ok (.aload_n 1, 1) := by decide +kernel
theorem dX5_countReadings_51 : decode cX5_countReadings 51 = .ok (.iload 4, 2) := by decide +kernel
theorem dX5_countReadings_53 : decode cX5_countReadings 53 = .ok (.iload_n 3, 1) := by decide +kernel
theorem dX5_countReadings_54 : decode cX5_countReadings 54 = .ok (.invokevirtual 54, 3) := by decide +kernel
theorem dX5_countReadings_57 : decode cX5_countReadings 57 = .ok (.ifCond .eq 26, 3) := by decide +kernel
theorem dX5_countReadings_60 : decode cX5_countReadings 60 = .ok (.aload_n 0, 1) := by decide +kernel
theorem dX5_countReadings_61 : decode cX5_countReadings 61 = .ok (.getfield 15, 3) := by decide +kernel
theorem dX5_countReadings_64 : decode cX5_countReadings 64 = .ok (.iload_n 3, 1) := by decide +kernel
theorem dX5_countReadings_65 : decode cX5_countReadings 65 = .ok (.dup2, 1) := by decide +kernel
theorem dX5_countReadings_66 : decode cX5_countReadings 66 = .ok (.iaload, 1) := by decide +kernel
theorem dX5_countReadings_67 : decode cX5_countReadings 67 = .ok (.aload_n 0, 1) := by decide +kernel
theorem dX5_countReadings_68 : decode cX5_countReadings 68 = .ok (.getfield 15, 3) := by decide +kernel
theorem dX5_countReadings_71 : decode cX5_countReadings 71 = .ok (.iload_n 3, 1) := by decide +kernel
theorem dX5_countReadings_72 : decode cX5_countReadings 72 = .ok (.aload_n 1, 1) := by decide +kernel
theorem dX5_countReadings_73 : decode cX5_countReadings 73 = .ok (.getfield 25, 3) := by decide +kernel
theorem dX5_countReadings_76 : decode cX5_countReadings 76 = .ok (.iload 4, 2) := by decide +kernel
theorem dX5_countReadings_78 : decode cX5_countReadings 78 = .ok (.iaload, 1) := by decide +kernel
theorem dX5_countReadings_79 : decode cX5_countReadings 79 = .ok (.iadd, 1) := by decide +kernel
theorem dX5_countReadings_80 : decode cX5_countReadings 80 = .ok (.iaload, 1) := by decide +kernel
theorem dX5_countReadings_81 : decode cX5_countReadings 81 = .ok (.iadd, 1) := by decide +kernel
theorem dX5_countReadings_82 : decode cX5_countReadings 82 = .ok (.iastore, 1) := by decide +kernel
theorem dX5_countReadings_83 : decode cX5_countReadings 83 = .ok (.iinc 4 1, 3) := by decide +kernel
theorem dX5_countReadings_86 : decode cX5_countReadings 86 = .ok (.goto (-55), 3) := by decide +kernel
theorem dX5_countReadings_89 : decode cX5_countReadings 89 = .ok (.iinc 3 (-1), 3) := by decide +kernel
theorem dX5_countReadings_92 : decode cX5_countReadings 92 = .ok (.goto (-75), 3) := by decide +kernel
theorem dX5_countReadings_95 : decode cX5_countReadings 95 = .ok (.aload_n 0, 1) := by decide +kernel
theorem dX5_countReadings_96 : decode cX5_countReadings 96 = .ok (.getfield 15, 3) := by decide +kernel
theorem dX5_countReadings_99 : decode cX5_countReadings 99 = .ok (.iconst 0, 1) := by decide +kernel
theorem dX5_countReadings_100 : decode cX5_countReadings 100 = .ok (.iaload, 1) := by decide +kernel
theorem dX5_countReadings_101 : decode cX5_countReadings 101 = .ok (.ireturn, 1) := by decide +kernel
set_option maxRecDepth 100000 in
def f_X5_countReadings_83 (k17 : Nat → Nat → Int32 → Int32 → dtM → Option (Int32 × dtM)) (k31 : Nat → Nat → Int32 → Int32 → Int32 → dtM → Option (Int32 × dtM)) (l0 : Nat) (l1 : Nat) (l2 : Int32) (l3 : Int32) (l4 : Int32) (μ : dtM) : Option (Int32 × dtM) :=
  k31 l0 l1 l2 l3 (l4 + 1) μ
set_option maxRecDepth 100000 in
def f_X5_countReadings_31 (k17 : Nat → Nat → Int32 → Int32 → dtM → Option (Int32 × dtM)) : Nat → Nat → Nat → Int32 → Int32 → Int32 → dtM → Option (Int32 × dtM)
  | 0, _, _, _, _, _, _ => none
  | n + 1, l0, l1, l2, l3, l4, μ =>
    (opGI 3 2 μ l1).bind fun x1 => if x1 ≤ l4 then (k17 l0 l1 l2 (l3 + (-1)) μ) else (opCall (f_X11_contains l2 l4 μ) fun x8 μ6 => if x8 = 0 then (f_X5_countReadings_83 k17 (f_X5_countReadings_31 k17 n) l0 l1 l2 l3 l4 μ6) else ((opRv 5 μ6 l0).bind fun _ => opCall (f_X5_fits l0 l1 l4 l3 μ6) fun x15 μ13 => if x15 = 0 then (f_X5_countReadings_83 k17 (f_X5_countReadings_31 k17 n) l0 l1 l2 l3 l4 μ13) else ((opGR 5 2 μ13 l0).bind fun x19 => (opLI 1 μ13 x19 l3).bind fun x21 => (opGR 5 2 μ13 l0).bind fun x23 => (opGR 3 12 μ13 l1).bind fun x25 => (opLI 1 μ13 x25 l4).bind fun x27 => (opLI 1 μ13 x23 (l3 + x27)).bind fun x29 => (opSI μ13 x19 l3 (x21 + x29)).bind fun μ31 => f_X5_countReadings_83 k17 (f_X5_countReadings_31 k17 n) l0 l1 l2 l3 l4 μ31)))
set_option maxRecDepth 100000 in
def f_X5_countReadings_17 : Nat → Nat → Nat → Int32 → Int32 → dtM → Option (Int32 × dtM)
  | 0, _, _, _, _, _ => none
  | n + 1, l0, l1, l2, l3, μ =>
    if l3 < 0 then ((opGR 5 2 μ l0).bind fun x4 => (opLI 1 μ x4 (0 : Int32)).bind fun x6 => some (x6, μ)) else ((opGR 5 2 μ l0).bind fun x8 => (opSI μ x8 l3 (0 : Int32)).bind fun μ10 => f_X5_countReadings_31 (f_X5_countReadings_17 n) dtFuel l0 l1 l2 l3 (0 : Int32) μ10)
set_option maxRecDepth 100000 in
def f_X5_countReadings (p0 : Nat) (p1 : Nat) (p2 : Int32) (μ : dtM) : Option (Int32 × dtM) :=
  (opGR 5 2 μ p0).bind fun x1 => (opGI 5 1 μ p0).bind fun x3 => (opSI μ x1 x3 (1 : Int32)).bind fun μ5 => (opGI 5 1 μ5 p0).bind fun x7 => (some (x7 - (1 : Int32))).bind fun x9 => f_X5_countReadings_17 dtFuel p0 p1 p2 x9 μ5
set_option maxRecDepth 100000 in
theorem c_X5_countReadings_83 {r : Int32} {F : dtM} (k17 : Nat → Nat → Int32 → Int32 → dtM → Option (Int32 × dtM)) (k31 : Nat → Nat → Int32 → Int32 → Int32 → dtM → Option (Int32 × dtM)) (hk17 : ∀ (l0 : Nat) (l1 : Nat) (l2 : Int32) (l3 : Int32) (μ : dtM), k17 l0 l1 l2 l3 μ = some (r, F) → dtW yX5_countReadings cX5_countReadings 5 (some .int) 4 (some (.int r)) F 17 [some (.ref l0), some (.ref l1), some (.int l2), some (.int l3)] [] μ) (hk31 : ∀ (l0 : Nat) (l1 : Nat) (l2 : Int32) (l3 : Int32) (l4 : Int32) (μ : dtM), k31 l0 l1 l2 l3 l4 μ = some (r, F) → dtW yX5_countReadings cX5_countReadings 5 (some .int) 4 (some (.int r)) F 31 [some (.ref l0), some (.ref l1), some (.int l2), some (.int l3), some (.int l4)] [] μ) (l0 : Nat) (l1 : Nat) (l2 : Int32) (l3 : Int32) (l4 : Int32) (μ : dtM) (h : f_X5_countReadings_83 k17 k31 l0 l1 l2 l3 l4 μ = some (r, F)) : dtW yX5_countReadings cX5_countReadings 5 (some .int) 4 (some (.int r)) F 83 [some (.ref l0), some (.ref l1), some (.int l2), some (.int l3), some (.int l4)] [] μ := by
  rw [f_X5_countReadings_83] at h
  refine dr_iinc l4 (l4 + 1) [some (.ref l0), some (.ref l1), some (.int l2), some (.int l3), some (.int (l4 + 1))] dX5_countReadings_83 rfl rfl rfl rfl rfl ?_
  refine dr_goto 31 dX5_countReadings_86 (by decide) ?_
  exact hk31 l0 l1 l2 l3 (l4 + 1) μ h
set_option maxRecDepth 100000 in
theorem c_X5_countReadings_31 {r : Int32} {F : dtM} (k17 : Nat → Nat → Int32 → Int32 → dtM → Option (Int32 × dtM)) (hk17 : ∀ (l0 : Nat) (l1 : Nat) (l2 : Int32) (l3 : Int32) (μ : dtM), k17 l0 l1 l2 l3 μ = some (r, F) → dtW yX5_countReadings cX5_countReadings 5 (some .int) 4 (some (.int r)) F 17 [some (.ref l0), some (.ref l1), some (.int l2), some (.int l3)] [] μ) : ∀ (n : Nat) (l0 : Nat) (l1 : Nat) (l2 : Int32) (l3 : Int32) (l4 : Int32) (μ : dtM), f_X5_countReadings_31 k17 n l0 l1 l2 l3 l4 μ = some (r, F) → dtW yX5_countReadings cX5_countReadings 5 (some .int) 4 (some (.int r)) F 31 [some (.ref l0), some (.ref l1), some (.int l2), some (.int l3), some (.int l4)] [] μ := by
  intro n
  induction n with
  | zero => intro l0 l1 l2 l3 l4 μ h; cases h
  | succ n ih =>
    intro l0 l1 l2 l3 l4 μ h
    have h := (show f_X5_countReadings_31 k17 (n + 1) l0 l1 l2 l3 l4 μ = some _ from h)
    rw [f_X5_countReadings_31] at h
    refine dr_iload l4 dX5_countReadings_31 rfl ?_
    refine dr_aload_n l1 dX5_countReadings_33 rfl ?_
    obtain ⟨x1, e2, h⟩ := dtBind h
    refine dr_getI x1 dX5_countReadings_34 fl_RX5_47 e2 ?_
    obtain ⟨ht4, hf5⟩ := dtIte h
    refine dr_icmp_ge 89 dX5_countReadings_37 (by decide) (fun hc3 => ?_) (fun hc3 => ?_)
    · have h := ht4 hc3
      refine dr_iinc l3 (l3 + (-1)) [some (.ref l0), some (.ref l1), some (.int l2), some (.int (l3 + (-1))), some (.int l4)] dX5_countReadings_89 rfl rfl rfl rfl rfl ?_
      refine dr_goto 17 dX5_countReadings_92 (by decide) ?_
      refine dr_mask [true, true, true, true] [some (.ref l0), some (.ref l1), some (.int l2), some (.int (l3 + (-1)))] rfl ?_
      exact hk17 l0 l1 l2 (l3 + (-1)) μ h
    · have h := hf5 hc3
      refine dr_iload_n l2 dX5_countReadings_40 rfl ?_
      refine dr_iload l4 dX5_countReadings_41 rfl ?_
      obtain ⟨x8, μ6, e7, h⟩ := dtCall h
      refine dr_callSN_i (S0 := []) [.int l2, .int l4] x8 μ6 dX5_countReadings_43 (c_X11_contains l2 l4 μ e7) mf_X11_contains wt_748 wn_1065 rfl (Nat.le_of_ble_eq_true rfl) (Nat.le_of_ble_eq_true rfl) rfl ?_
      obtain ⟨ht10, hf11⟩ := dtIte h
      refine dr_if_eq 83 dX5_countReadings_46 (by decide) (fun hc9 => ?_) (fun hc9 => ?_)
      · have h := ht10 hc9
        exact c_X5_countReadings_83 k17 (f_X5_countReadings_31 k17 n) hk17 ih l0 l1 l2 l3 l4 μ6 h
      · have h := hf11 hc9
        refine dr_aload_n l0 dX5_countReadings_49 rfl ?_
        refine dr_aload_n l1 dX5_countReadings_50 rfl ?_
        refine dr_iload l4 dX5_countReadings_51 rfl ?_
        refine dr_iload_n l3 dX5_countReadings_53 rfl ?_
        obtain ⟨_, hb12, h⟩ := dtBind h
        obtain ⟨x15, μ13, e14, h⟩ := dtCall h
        refine dr_callV_i (S0 := []) [.ref l1, .int l4, .int l3] x15 μ13 dX5_countReadings_54 (c_X5_fits l0 l1 l4 l3 μ6 e14) mf_X5_fits wt_1068 ws_34 wt_1066 rfl (dtRv hb12) (by decide) rfl (Nat.le_of_ble_eq_true rfl) (Nat.le_of_ble_eq_true rfl) rfl ?_
        obtain ⟨ht17, hf18⟩ := dtIte h
        refine dr_if_eq 83 dX5_countReadings_57 (by decide) (fun hc16 => ?_) (fun hc16 => ?_)
        · have h := ht17 hc16
          exact c_X5_countReadings_83 k17 (f_X5_countReadings_31 k17 n) hk17 ih l0 l1 l2 l3 l4 μ13 h
        · have h := hf18 hc16
          refine dr_aload_n l0 dX5_countReadings_60 rfl ?_
          obtain ⟨x19, e20, h⟩ := dtBind h
          refine dr_getR x19 dX5_countReadings_61 fl_RX5_15 e20 ?_
          refine dr_iload_n l3 dX5_countReadings_64 rfl ?_
          refine dr_dup2 dX5_countReadings_65 rfl rfl ?_
          obtain ⟨x21, e22, h⟩ := dtBind h
          refine dr_iaload x21 dX5_countReadings_66 e22 ?_
          refine dr_aload_n l0 dX5_countReadings_67 rfl ?_
          obtain ⟨x23, e24, h⟩ := dtBind h
          refine dr_getR x23 dX5_countReadings_68 fl_RX5_15 e24 ?_
          refine dr_iload_n l3 dX5_countReadings_71 rfl ?_
          refine dr_aload_n l1 dX5_countReadings_72 rfl ?_
          obtain ⟨x25, e26, h⟩ := dtBind h
          refine dr_getR x25 dX5_countReadings_73 fl_RX5_25 e26 ?_
          refine dr_iload l4 dX5_countReadings_76 rfl ?_
          obtain ⟨x27, e28, h⟩ := dtBind h
          refine dr_iaload x27 dX5_countReadings_78 e28 ?_
          refine dr_iadd dX5_countReadings_79 ?_
          obtain ⟨x29, e30, h⟩ := dtBind h
          refine dr_iaload x29 dX5_countReadings_80 e30 ?_
          refine dr_iadd dX5_countReadings_81 ?_
          obtain ⟨μ31, e32, h⟩ := dtBind h
          refine dr_iastore μ31 dX5_countReadings_82 e32 ?_
          exact c_X5_countReadings_83 k17 (f_X5_countReadings_31 k17 n) hk17 ih l0 l1 l2 l3 l4 μ31 h
set_option maxRecDepth 100000 in
theorem c_X5_countReadings_17 {r : Int32} {F : dtM} : ∀ (n : Nat) (l0 : Nat) (l1 : Nat) (l2 : Int32) (l3 : Int32) (μ : dtM), f_X5_countReadings_17 n l0 l1 l2 l3 μ = some (r, F) → dtW yX5_countReadings cX5_countReadings 5 (some .int) 4 (some (.int r)) F 17 [some (.ref l0), some (.ref l1), some (.int l2), some (.int l3)] [] μ := by
  intro n
  induction n with
  | zero => intro l0 l1 l2 l3 μ h; cases h
  | succ n ih =>
    intro l0 l1 l2 l3 μ h
    have h := (show f_X5_countReadings_17 (n + 1) l0 l1 l2 l3 μ = some _ from h)
    rw [f_X5_countReadings_17] at h
    refine dr_iload_n l3 dX5_countReadings_17 rfl ?_
    obtain ⟨ht2, hf3⟩ := dtIte h
    refine dr_if_lt 95 dX5_countReadings_18 (by decide) (fun hc1 => ?_) (fun hc1 => ?_)
    · have h := ht2 hc1
      refine dr_aload_n l0 dX5_countReadings_95 rfl ?_
      obtain ⟨x4, e5, h⟩ := dtBind h
      refine dr_getR x4 dX5_countReadings_96 fl_RX5_15 e5 ?_
      refine dr_iconst (0 : Int32) dX5_countReadings_99 (by decide) ?_
      obtain ⟨x6, e7, h⟩ := dtBind h
      refine dr_iaload x6 dX5_countReadings_100 e7 ?_
      cases h
      exact dr_ireturn dX5_countReadings_101 rfl
    · have h := hf3 hc1
      refine dr_aload_n l0 dX5_countReadings_21 rfl ?_
      obtain ⟨x8, e9, h⟩ := dtBind h
      refine dr_getR x8 dX5_countReadings_22 fl_RX5_15 e9 ?_
      refine dr_iload_n l3 dX5_countReadings_25 rfl ?_
      refine dr_iconst (0 : Int32) dX5_countReadings_26 (by decide) ?_
      obtain ⟨μ10, e11, h⟩ := dtBind h
      refine dr_iastore μ10 dX5_countReadings_27 e11 ?_
      refine dr_iconst (0 : Int32) dX5_countReadings_28 (by decide) ?_
      refine dr_istore [some (.ref l0), some (.ref l1), some (.int l2), some (.int l3), some (.int (0 : Int32))] dX5_countReadings_29 rfl rfl rfl ?_
      exact c_X5_countReadings_31 (f_X5_countReadings_17 n) ih dtFuel l0 l1 l2 l3 (0 : Int32) μ10 h
set_option maxRecDepth 100000 in
theorem c_X5_countReadings {r : Int32} {F : dtM} (p0 : Nat) (p1 : Nat) (p2 : Int32) (μ : dtM) (h : f_X5_countReadings p0 p1 p2 μ = some (r, F)) : dtMet yX5_countReadings cX5_countReadings 5 (some .int) 4 [.ref p0, .ref p1, .int p2] μ (some (.int r)) F := by
  refine dtMet.of (by decide +kernel) (Nat.le_of_ble_eq_true rfl) (show dtW yX5_countReadings cX5_countReadings 5 (some .int) 4 (some (.int r)) F 0 [some (.ref p0), some (.ref p1), some (.int p2)] [] μ from ?_)
  rw [f_X5_countReadings] at h
  refine dr_aload_n p0 dX5_countReadings_0 rfl ?_
  obtain ⟨x1, e2, h⟩ := dtBind h
  refine dr_getR x1 dX5_countReadings_1 fl_RX5_15 e2 ?_
  refine dr_aload_n p0 dX5_countReadings_4 rfl ?_
  obtain ⟨x3, e4, h⟩ := dtBind h
  refine dr_getI x3 dX5_countReadings_5 fl_RX5_21 e4 ?_
  refine dr_iconst (1 : Int32) dX5_countReadings_8 (by decide) ?_
  obtain ⟨μ5, e6, h⟩ := dtBind h
  refine dr_iastore μ5 dX5_countReadings_9 e6 ?_
  refine dr_aload_n p0 dX5_countReadings_10 rfl ?_
  obtain ⟨x7, e8, h⟩ := dtBind h
  refine dr_getI x7 dX5_countReadings_11 fl_RX5_21 e8 ?_
  refine dr_iconst (1 : Int32) dX5_countReadings_14 (by decide) ?_
  refine dr_isub dX5_countReadings_15 ?_
  obtain ⟨x9, e10, h⟩ := dtBind h
  refine dr_nmi e10 ?_
  refine dr_istore_n 3 [some (.ref p0), some (.ref p1), some (.int p2), some (.int x9)] dX5_countReadings_16 rfl rfl rfl rfl ?_
  exact c_X5_countReadings_17 dtFuel p0 p1 p2 x9 μ5 h
/-! X5_firstWordAt -/
theorem dX5_firstWordAt_0 : decode cX5_firstWordAt 0 = .ok (.iconst 0, 1) := by decide +kernel
theorem dX5_firstWordAt_1 : decode cX5_firstWordAt 1 = .ok (.istore 4, 2) := by decide +kernel
theorem dX5_firstWordAt_3 : decode cX5_firstWordAt 3 = .ok (.iload 4, 2) := by decide +kernel
theorem dX5_firstWordAt_5 : decode cX5_firstWordAt 5 = .ok (.aload_n 1, 1) := by decide +kernel
theorem dX5_firstWordAt_6 : decode cX5_firstWordAt 6 = .ok (.getfield 47, 3) := by decide +kernel
theorem dX5_firstWordAt_9 : decode cX5_firstWordAt 9 = .ok (.if_icmp .ge 49, 3) := by decide +kernel
theorem dX5_firstWordAt_12 : decode cX5_firstWordAt 12 = .ok (.iload_n 2, 1) := by decide +kernel
theorem dX5_firstWordAt_13 : decode cX5_firstWordAt 13 = .ok (.iload 4, 2) := by decide +kernel
theorem dX5_firstWordAt_15 : decode cX5_firstWordAt 15 = .ok (.invokestatic 50, 3) := by decide +kernel
theorem dX5_firstWordAt_18 : decode cX5_firstWordAt 18 = .ok (.ifCond .eq 34, 3) := by decide +kernel
theorem dX5_firstWordAt_21 : decode cX5_firstWordAt 21 = .ok (.aload_n 0, 1) := by decide +kernel
theorem dX5_firstWordAt_22 : decode cX5_firstWordAt 22 = .ok (.aload_n 1, 1) := by decide +kernel
theorem dX5_firstWordAt_23 : decode cX5_firstWordAt 23 = .ok (.iload 4, 2) := by decide +kernel
theorem dX5_firstWordAt_25 : decode cX5_firstWordAt 25 = .ok (.iload_n 3, 1) := by decide +kernel
theorem dX5_firstWordAt_26 : decode cX5_firstWordAt 26 = .ok (.invokevirtual 54, 3) := by decide +kernel
theorem dX5_firstWordAt_29 : decode cX5_firstWordAt 29 = .ok (.ifCond .eq 23, 3) := by decide +kernel
theorem dX5_firstWordAt_32 : decode cX5_firstWordAt 32 = .ok (.aload_n 0, 1) := by decide +kernel
theorem dX5_firstWordAt_33 : decode cX5_firstWordAt 33 = .ok (.getfield 15, 3) := by decide +kernel
theorem dX5_firstWordAt_36 : decode cX5_firstWordAt 36 = .ok (.iload_n 3, 1) := by decide +kernel
theorem dX5_firstWordAt_37 : decode cX5_firstWordAt 37 = .ok (.aload_n 1, 1) := by decide +kernel
theorem dX5_firstWordAt_38 : decode cX5_firstWordAt 38 = .ok (.getfield 25, 3) := by decide +kernel
theorem dX5_firstWordAt_41 : decode cX5_firstWordAt 41 = .ok (.iload 4, 2) := by decide +kernel
theorem dX5_firstWordAt_43 : decode cX5_firstWordAt 43 = .ok (.iaload, 1) := by decide +kernel
theorem dX5_firstWordAt_44 : decode cX5_firstWordAt 44 = .ok (.iadd, 1) := by decide +kernel
theorem dX5_firstWordAt_45 : decode cX5_firstWordAt 45 = .ok (.iaload, 1) := by decide +kernel
theorem dX5_firstWordAt_46 : decode cX5_firstWordAt 46 = .ok (.ifCond .le 6, 3) := by decide +kernel
theorem dX5_firstWordAt_49 : decode cX5_firstWordAt 49 = .ok (.iload 4, 2) := by decide +kernel
theorem dX5_firstWordAt_51 : decode cX5_firstWordAt 51 = .ok (.ireturn, 1) := by decide +kernel
theorem dX5_firstWordAt_52 : decode cX5_firstWordAt 52 = .ok (.iinc 4 1, 3) := by decide +kernel
theorem dX5_firstWordAt_55 : decode cX5_firstWordAt 55 = .ok (.goto (-52), 3) := by decide +kernel
theorem dX5_firstWordAt_58 : decode cX5_firstWordAt 58 = .ok (.iconst 0, 1) := by decide +kernel
theorem dX5_firstWordAt_59 : decode cX5_firstWordAt 59 = .ok (.ireturn, 1) := by decide +kernel
set_option maxRecDepth 100000 in
def f_X5_firstWordAt_52 (k3 : Nat → Nat → Int32 → Int32 → Int32 → dtM → Option (Int32 × dtM)) (l0 : Nat) (l1 : Nat) (l2 : Int32) (l3 : Int32) (l4 : Int32) (μ : dtM) : Option (Int32 × dtM) :=
  k3 l0 l1 l2 l3 (l4 + 1) μ
set_option maxRecDepth 100000 in
def f_X5_firstWordAt_3 : Nat → Nat → Nat → Int32 → Int32 → Int32 → dtM → Option (Int32 × dtM)
  | 0, _, _, _, _, _, _ => none
  | n + 1, l0, l1, l2, l3, l4, μ =>
    (opGI 3 2 μ l1).bind fun x1 => if x1 ≤ l4 then (some ((0 : Int32), μ)) else (opCall (f_X11_contains l2 l4 μ) fun x8 μ6 => if x8 = 0 then (f_X5_firstWordAt_52 (f_X5_firstWordAt_3 n) l0 l1 l2 l3 l4 μ6) else ((opRv 5 μ6 l0).bind fun _ => opCall (f_X5_fits l0 l1 l4 l3 μ6) fun x15 μ13 => if x15 = 0 then (f_X5_firstWordAt_52 (f_X5_firstWordAt_3 n) l0 l1 l2 l3 l4 μ13) else ((opGR 5 2 μ13 l0).bind fun x19 => (opGR 3 12 μ13 l1).bind fun x21 => (opLI 1 μ13 x21 l4).bind fun x23 => (opLI 1 μ13 x19 (l3 + x23)).bind fun x25 => if x25 ≤ 0 then (f_X5_firstWordAt_52 (f_X5_firstWordAt_3 n) l0 l1 l2 l3 l4 μ13) else (some (l4, μ13)))))
set_option maxRecDepth 100000 in
def f_X5_firstWordAt (p0 : Nat) (p1 : Nat) (p2 : Int32) (p3 : Int32) (μ : dtM) : Option (Int32 × dtM) :=
  f_X5_firstWordAt_3 dtFuel p0 p1 p2 p3 (0 : Int32) μ
set_option maxRecDepth 100000 in
theorem c_X5_firstWordAt_52 {r : Int32} {F : dtM} (k3 : Nat → Nat → Int32 → Int32 → Int32 → dtM → Option (Int32 × dtM)) (hk3 : ∀ (l0 : Nat) (l1 : Nat) (l2 : Int32) (l3 : Int32) (l4 : Int32) (μ : dtM), k3 l0 l1 l2 l3 l4 μ = some (r, F) → dtW yX5_firstWordAt cX5_firstWordAt 5 (some .int) 4 (some (.int r)) F 3 [some (.ref l0), some (.ref l1), some (.int l2), some (.int l3), some (.int l4)] [] μ) (l0 : Nat) (l1 : Nat) (l2 : Int32) (l3 : Int32) (l4 : Int32) (μ : dtM) (h : f_X5_firstWordAt_52 k3 l0 l1 l2 l3 l4 μ = some (r, F)) : dtW yX5_firstWordAt cX5_firstWordAt 5 (some .int) 4 (some (.int r)) F 52 [some (.ref l0), some (.ref l1), some (.int l2), some (.int l3), some (.int l4)] [] μ := by
  rw [f_X5_firstWordAt_52] at h
  refine dr_iinc l4 (l4 + 1) [some (.ref l0), some (.ref l1), some (.int l2), some (.int l3), some (.int (l4 + 1))] dX5_firstWordAt_52 rfl rfl rfl rfl rfl ?_
  refine dr_goto 3 dX5_firstWordAt_55 (by decide) ?_
  exact hk3 l0 l1 l2 l3 (l4 + 1) μ h
set_option maxRecDepth 100000 in
theorem c_X5_firstWordAt_3 {r : Int32} {F : dtM} : ∀ (n : Nat) (l0 : Nat) (l1 : Nat) (l2 : Int32) (l3 : Int32) (l4 : Int32) (μ : dtM), f_X5_firstWordAt_3 n l0 l1 l2 l3 l4 μ = some (r, F) → dtW yX5_firstWordAt cX5_firstWordAt 5 (some .int) 4 (some (.int r)) F 3 [some (.ref l0), some (.ref l1), some (.int l2), some (.int l3), some (.int l4)] [] μ := by
  intro n
  induction n with
  | zero => intro l0 l1 l2 l3 l4 μ h; cases h
  | succ n ih =>
    intro l0 l1 l2 l3 l4 μ h
    have h := (show f_X5_firstWordAt_3 (n + 1) l0 l1 l2 l3 l4 μ = some _ from h)
    rw [f_X5_firstWordAt_3] at h
    refine dr_iload l4 dX5_firstWordAt_3 rfl ?_
    refine dr_aload_n l1 dX5_firstWordAt_5 rfl ?_
    obtain ⟨x1, e2, h⟩ := dtBind h
    refine dr_getI x1 dX5_firstWordAt_6 fl_RX5_47 e2 ?_
    obtain ⟨ht4, hf5⟩ := dtIte h
    refine dr_icmp_ge 58 dX5_firstWordAt_9 (by decide) (fun hc3 => ?_) (fun hc3 => ?_)
    · have h := ht4 hc3
      refine dr_iconst (0 : Int32) dX5_firstWordAt_58 (by decide) ?_
      cases h
      exact dr_ireturn dX5_firstWordAt_59 rfl
    · have h := hf5 hc3
      refine dr_iload_n l2 dX5_firstWordAt_12 rfl ?_
      refine dr_iload l4 dX5_firstWordAt_13 rfl ?_
      obtain ⟨x8, μ6, e7, h⟩ := dtCall h
      refine dr_callSN_i (S0 := []) [.int l2, .int l4] x8 μ6 dX5_firstWordAt_15 (c_X11_contains l2 l4 μ e7) mf_X11_contains wt_748 wn_1065 rfl (Nat.le_of_ble_eq_true rfl) (Nat.le_of_ble_eq_true rfl) rfl ?_
      obtain ⟨ht10, hf11⟩ := dtIte h
      refine dr_if_eq 52 dX5_firstWordAt_18 (by decide) (fun hc9 => ?_) (fun hc9 => ?_)
      · have h := ht10 hc9
        exact c_X5_firstWordAt_52 (f_X5_firstWordAt_3 n) ih l0 l1 l2 l3 l4 μ6 h
      · have h := hf11 hc9
        refine dr_aload_n l0 dX5_firstWordAt_21 rfl ?_
        refine dr_aload_n l1 dX5_firstWordAt_22 rfl ?_
        refine dr_iload l4 dX5_firstWordAt_23 rfl ?_
        refine dr_iload_n l3 dX5_firstWordAt_25 rfl ?_
        obtain ⟨_, hb12, h⟩ := dtBind h
        obtain ⟨x15, μ13, e14, h⟩ := dtCall h
        refine dr_callV_i (S0 := []) [.ref l1, .int l4, .int l3] x15 μ13 dX5_firstWordAt_26 (c_X5_fits l0 l1 l4 l3 μ6 e14) mf_X5_fits wt_1068 ws_34 wt_1066 rfl (dtRv hb12) (by decide) rfl (Nat.le_of_ble_eq_true rfl) (Nat.le_of_ble_eq_true rfl) rfl ?_
        obtain ⟨ht17, hf18⟩ := dtIte h
        refine dr_if_eq 52 dX5_firstWordAt_29 (by decide) (fun hc16 => ?_) (fun hc16 => ?_)
        · have h := ht17 hc16
          exact c_X5_firstWordAt_52 (f_X5_firstWordAt_3 n) ih l0 l1 l2 l3 l4 μ13 h
        · have h := hf18 hc16
          refine dr_aload_n l0 dX5_firstWordAt_32 rfl ?_
          obtain ⟨x19, e20, h⟩ := dtBind h
          refine dr_getR x19 dX5_firstWordAt_33 fl_RX5_15 e20 ?_
          refine dr_iload_n l3 dX5_firstWordAt_36 rfl ?_
          refine dr_aload_n l1 dX5_firstWordAt_37 rfl ?_
          obtain ⟨x21, e22, h⟩ := dtBind h
          refine dr_getR x21 dX5_firstWordAt_38 fl_RX5_25 e22 ?_
          refine dr_iload l4 dX5_firstWordAt_41 rfl ?_
          obtain ⟨x23, e24, h⟩ := dtBind h
          refine dr_iaload x23 dX5_firstWordAt_43 e24 ?_
          refine dr_iadd dX5_firstWordAt_44 ?_
          obtain ⟨x25, e26, h⟩ := dtBind h
          refine dr_iaload x25 dX5_firstWordAt_45 e26 ?_
          obtain ⟨ht28, hf29⟩ := dtIte h
          refine dr_if_le 52 dX5_firstWordAt_46 (by decide) (fun hc27 => ?_) (fun hc27 => ?_)
          · have h := ht28 hc27
            exact c_X5_firstWordAt_52 (f_X5_firstWordAt_3 n) ih l0 l1 l2 l3 l4 μ13 h
          · have h := hf29 hc27
            refine dr_iload l4 dX5_firstWordAt_49 rfl ?_
            cases h
            exact dr_ireturn dX5_firstWordAt_51 rfl
set_option maxRecDepth 100000 in
theorem c_X5_firstWordAt {r : Int32} {F : dtM} (p0 : Nat) (p1 : Nat) (p2 : Int32) (p3 : Int32) (μ : dtM) (h : f_X5_firstWordAt p0 p1 p2 p3 μ = some (r, F)) : dtMet yX5_firstWordAt cX5_firstWordAt 5 (some .int) 4 [.ref p0, .ref p1, .int p2, .int p3] μ (some (.int r)) F := by
  refine dtMet.of (by decide +kernel) (Nat.le_of_ble_eq_true rfl) (show dtW yX5_firstWordAt cX5_firstWordAt 5 (some .int) 4 (some (.int r)) F 0 [some (.ref p0), some (.ref p1), some (.int p2), some (.int p3)] [] μ from ?_)
  rw [f_X5_firstWordAt] at h
  refine dr_iconst (0 : Int32) dX5_firstWordAt_0 (by decide) ?_
  refine dr_istore [some (.ref p0), some (.ref p1), some (.int p2), some (.int p3), some (.int (0 : Int32))] dX5_firstWordAt_1 rfl rfl rfl ?_
  exact c_X5_firstWordAt_3 dtFuel p0 p1 p2 p3 (0 : Int32) μ h
/-! X5_wordsOfFirst -/
theorem dX5_wordsOfFirst_0 : decode cX5_wordsOfFirst 0 = .ok (.aload_n 0, 1) := by decide +kernel
theorem dX5_wordsOfFirst_1 : decode cX5_wordsOfFirst 1 = .ok (.aload_n 1, 1) := by decide +kernel
theorem dX5_wordsOfFirst_2 : decode cX5_wordsOfFirst 2 = .ok (.iload_n 2, 1) := by decide +kernel
theorem dX5_wordsOfFirst_3 : decode cX5_wordsOfFirst 3 = .ok (.invokevirtual 62, 3) := by decide +kernel
theorem dX5_wordsOfFirst_6 : decode cX5_wordsOfFirst 6 = .ok (.ifCond .ne 5, 3) := by decide +kernel
theorem dX5_wordsOfFirst_9 : decode cX5_wordsOfFirst 9 = .ok (.iconst (-1), 1) := by decide +kernel
theorem dX5_wordsOfFirst_10 : decode cX5_wordsOfFirst 10 = .ok (.ireturn, 1) := by decide +kernel
theorem dX5_wordsOfFirst_11 : decode cX5_wordsOfFirst 11 = .ok (.iconst 0, 1) := by decide +kernel
theorem dX5_wordsOfFirst_12 : decode cX5_wordsOfFirst 12 = .ok (.istore_n 3, 1) := by decide +kernel
theorem dX5_wordsOfFirst_13 : decode cX5_wordsOfFirst 13 = .ok (.iconst 0, 1) := by decide +kernel
theorem dX5_wordsOfFirst_14 : decode cX5_wordsOfFirst 14 = .ok (.istore 4, 2) := by decide +kernel
theorem dX5_wordsOfFirst_16 : decode cX5_wordsOfFirst 16 = .ok (.iconst 0, 1) := by decide +kernel
theorem dX5_wordsOfFirst_17 : decode cX5_wordsOfFirst 17 = .ok (.istore 5, 2) := by decide +kernel
theorem dX5_wordsOfFirst_19 : decode cX5_wordsOfFirst 19 = .ok (.iload 5, 2) := by decide +kernel
theorem dX5_wordsOfFirst_21 : decode cX5_wordsOfFirst 21 = .ok (.bipush 24, 2) := by decide +kernel
theorem dX5_wordsOfFirst_23 : decode cX5_wordsOfFirst 23 = .ok (.if_icmp .ge 39, 3) := by decide +kernel
theorem dX5_wordsOfFirst_26 : decode cX5_wordsOfFirst 26 = .ok (.iload 4, 2) := by decide +kernel
theorem dX5_wordsOfFirst_28 : decode cX5_wordsOfFirst 28 = .ok (.aload_n 0, 1) := by decide +kernel
theorem dX5_wordsOfFirst_29 : decode cX5_wordsOfFirst 29 = .ok (.getfield 21, 3) := by decide +kernel
theorem dX5_wordsOfFirst_32 : decode cX5_wordsOfFirst 32 = .ok (.if_icmp .ge 30, 3) := by decide +kernel
theorem dX5_wordsOfFirst_35 : decode cX5_wordsOfFirst 35 = .ok (.iload 4, 2) := by decide +kernel
theorem dX5_wordsOfFirst_37 : decode cX5_wordsOfFirst 37 = .ok (.aload_n 1, 1) := by decide +kernel
theorem dX5_wordsOfFirst_38 : decode cX5_wordsOfFirst 38 = .ok (.getfield 25, 3) := by decide +kernel
theorem dX5_wordsOfFirst_41 : decode cX5_wordsOfFirst 41 = .ok (.aload_n 0, 1) := by decide +kernel
theorem dX5_wordsOfFirst_42 : decode cX5_wordsOfFirst 42 = .ok (.aload_n 1, 1) := by decide +kernel
theorem dX5_wordsOfFirst_43 : decode cX5_wordsOfFirst 43 = .ok (.iload_n 2, 1) := by decide +kernel
theorem dX5_wordsOfFirst_44 : decode cX5_wordsOfFirst 44 = .ok (.iload 4, 2) := by decide +kernel
theorem dX5_wordsOfFirst_46 : decode cX5_wordsOfFirst 46 = .ok (.invokevirtual 66, 3) := by decide +kernel
theorem dX5_wordsOfFirst_49 : decode cX5_wordsOfFirst 49 = .ok (.iaload, 1) := by decide +kernel
theorem dX5_wordsOfFirst_50 : decode cX5_wordsOfFirst 50 = .ok (.iadd, 1) := by decide +kernel
theorem dX5_wordsOfFirst_51 : decode cX5_wordsOfFirst 51 = .ok (.istore 4, 2) := by decide +kernel
theorem dX5_wordsOfFirst_53 : decode cX5_wordsOfFirst 53 = .ok (.iinc 3 1, 3) := by decide +kernel
theorem dX5_wordsOfFirst_56 : decode cX5_wordsOfFirst 56 = .ok (.iinc 5 1, 3) := by decide +kernel
theorem dX5_wordsOfFirst_59 : decode cX5_wordsOfFirst 59 = .ok (.goto (-40), 3) := by decide +kernel
theorem dX5_wordsOfFirst_62 : decode cX5_wordsOfFirst 62 = .ok (.iload_n 3, 1) := by decide +kernel
theorem dX5_wordsOfFirst_63 : decode cX5_wordsOfFirst 63 = .ok (.ireturn, 1) := by decide +kernel
set_option maxRecDepth 100000 in
def f_X5_wordsOfFirst_62 (l3 : Int32) (μ : dtM) : Option (Int32 × dtM) :=
  some (l3, μ)
set_option maxRecDepth 100000 in
def f_X5_wordsOfFirst_19 : Nat → Nat → Nat → Int32 → Int32 → Int32 → Int32 → dtM → Option (Int32 × dtM)
  | 0, _, _, _, _, _, _, _ => none
  | n + 1, l0, l1, l2, l3, l4, l5, μ =>
    if (24 : Int32) ≤ l5 then (f_X5_wordsOfFirst_62 l3 μ) else ((opGI 5 1 μ l0).bind fun x4 => if x4 ≤ l4 then (f_X5_wordsOfFirst_62 l3 μ) else ((opGR 3 12 μ l1).bind fun x9 => (opRv 5 μ l0).bind fun _ => opCall (f_X5_firstWordAt l0 l1 l2 l4 μ) fun x14 μ12 => (opLI 1 μ12 x9 x14).bind fun x15 => (some (l4 + x15)).bind fun x17 => f_X5_wordsOfFirst_19 n l0 l1 l2 (l3 + 1) x17 (l5 + 1) μ12))
set_option maxRecDepth 100000 in
def f_X5_wordsOfFirst (p0 : Nat) (p1 : Nat) (p2 : Int32) (μ : dtM) : Option (Int32 × dtM) :=
  (opRv 5 μ p0).bind fun _ => opCall (f_X5_countReadings p0 p1 p2 μ) fun x4 μ2 => if x4 = 0 then (some ((-1 : Int32), μ2)) else (f_X5_wordsOfFirst_19 dtFuel p0 p1 p2 (0 : Int32) (0 : Int32) (0 : Int32) μ2)
set_option maxRecDepth 100000 in
theorem c_X5_wordsOfFirst_62 {r : Int32} {F : dtM} (l3 : Int32) (μ : dtM) (h : f_X5_wordsOfFirst_62 l3 μ = some (r, F)) : dtW yX5_wordsOfFirst cX5_wordsOfFirst 6 (some .int) 5 (some (.int r)) F 62 [none, none, none, some (.int l3)] [] μ := by
  rw [f_X5_wordsOfFirst_62] at h
  refine dr_iload_n l3 dX5_wordsOfFirst_62 rfl ?_
  cases h
  exact dr_ireturn dX5_wordsOfFirst_63 rfl
set_option maxRecDepth 100000 in
theorem c_X5_wordsOfFirst_19 {r : Int32} {F : dtM} : ∀ (n : Nat) (l0 : Nat) (l1 : Nat) (l2 : Int32) (l3 : Int32) (l4 : Int32) (l5 : Int32) (μ : dtM), f_X5_wordsOfFirst_19 n l0 l1 l2 l3 l4 l5 μ = some (r, F) → dtW yX5_wordsOfFirst cX5_wordsOfFirst 6 (some .int) 5 (some (.int r)) F 19 [some (.ref l0), some (.ref l1), some (.int l2), some (.int l3), some (.int l4), some (.int l5)] [] μ := by
  intro n
  induction n with
  | zero => intro l0 l1 l2 l3 l4 l5 μ h; cases h
  | succ n ih =>
    intro l0 l1 l2 l3 l4 l5 μ h
    have h := (show f_X5_wordsOfFirst_19 (n + 1) l0 l1 l2 l3 l4 l5 μ = some _ from h)
    rw [f_X5_wordsOfFirst_19] at h
    refine dr_iload l5 dX5_wordsOfFirst_19 rfl ?_
    refine dr_bipush (24 : Int32) dX5_wordsOfFirst_21 (by decide) ?_
    obtain ⟨ht2, hf3⟩ := dtIte h
    refine dr_icmp_ge 62 dX5_wordsOfFirst_23 (by decide) (fun hc1 => ?_) (fun hc1 => ?_)
    · have h := ht2 hc1
      refine dr_mask [false, false, false, true] [none, none, none, some (.int l3)] rfl ?_
      exact c_X5_wordsOfFirst_62 l3 μ h
    · have h := hf3 hc1
      refine dr_iload l4 dX5_wordsOfFirst_26 rfl ?_
      refine dr_aload_n l0 dX5_wordsOfFirst_28 rfl ?_
      obtain ⟨x4, e5, h⟩ := dtBind h
      refine dr_getI x4 dX5_wordsOfFirst_29 fl_RX5_21 e5 ?_
      obtain ⟨ht7, hf8⟩ := dtIte h
      refine dr_icmp_ge 62 dX5_wordsOfFirst_32 (by decide) (fun hc6 => ?_) (fun hc6 => ?_)
      · have h := ht7 hc6
        refine dr_mask [false, false, false, true] [none, none, none, some (.int l3)] rfl ?_
        exact c_X5_wordsOfFirst_62 l3 μ h
      · have h := hf8 hc6
        refine dr_iload l4 dX5_wordsOfFirst_35 rfl ?_
        refine dr_aload_n l1 dX5_wordsOfFirst_37 rfl ?_
        obtain ⟨x9, e10, h⟩ := dtBind h
        refine dr_getR x9 dX5_wordsOfFirst_38 fl_RX5_25 e10 ?_
        refine dr_aload_n l0 dX5_wordsOfFirst_41 rfl ?_
        refine dr_aload_n l1 dX5_wordsOfFirst_42 rfl ?_
        refine dr_iload_n l2 dX5_wordsOfFirst_43 rfl ?_
        refine dr_iload l4 dX5_wordsOfFirst_44 rfl ?_
        obtain ⟨_, hb11, h⟩ := dtBind h
        obtain ⟨x14, μ12, e13, h⟩ := dtCall h
        refine dr_callV_i (S0 := [.ref x9, .int l4]) [.ref l1, .int l2, .int l4] x14 μ12 dX5_wordsOfFirst_46 (c_X5_firstWordAt l0 l1 l2 l4 μ e13) mf_X5_firstWordAt wt_1086 ws_36 wt_1084 rfl (dtRv hb11) (by decide) rfl (Nat.le_of_ble_eq_true rfl) (Nat.le_of_ble_eq_true rfl) rfl ?_
        obtain ⟨x15, e16, h⟩ := dtBind h
        refine dr_iaload x15 dX5_wordsOfFirst_49 e16 ?_
        refine dr_iadd dX5_wordsOfFirst_50 ?_
        obtain ⟨x17, e18, h⟩ := dtBind h
        refine dr_nmi e18 ?_
        refine dr_istore [some (.ref l0), some (.ref l1), some (.int l2), some (.int l3), some (.int x17), some (.int l5)] dX5_wordsOfFirst_51 rfl rfl rfl ?_
        refine dr_iinc l3 (l3 + 1) [some (.ref l0), some (.ref l1), some (.int l2), some (.int (l3 + 1)), some (.int x17), some (.int l5)] dX5_wordsOfFirst_53 rfl rfl rfl rfl rfl ?_
        refine dr_iinc l5 (l5 + 1) [some (.ref l0), some (.ref l1), some (.int l2), some (.int (l3 + 1)), some (.int x17), some (.int (l5 + 1))] dX5_wordsOfFirst_56 rfl rfl rfl rfl rfl ?_
        refine dr_goto 19 dX5_wordsOfFirst_59 (by decide) ?_
        exact ih l0 l1 l2 (l3 + 1) x17 (l5 + 1) μ12 h
set_option maxRecDepth 100000 in
theorem c_X5_wordsOfFirst {r : Int32} {F : dtM} (p0 : Nat) (p1 : Nat) (p2 : Int32) (μ : dtM) (h : f_X5_wordsOfFirst p0 p1 p2 μ = some (r, F)) : dtMet yX5_wordsOfFirst cX5_wordsOfFirst 6 (some .int) 5 [.ref p0, .ref p1, .int p2] μ (some (.int r)) F := by
  refine dtMet.of (by decide +kernel) (Nat.le_of_ble_eq_true rfl) (show dtW yX5_wordsOfFirst cX5_wordsOfFirst 6 (some .int) 5 (some (.int r)) F 0 [some (.ref p0), some (.ref p1), some (.int p2)] [] μ from ?_)
  rw [f_X5_wordsOfFirst] at h
  refine dr_aload_n p0 dX5_wordsOfFirst_0 rfl ?_
  refine dr_aload_n p1 dX5_wordsOfFirst_1 rfl ?_
  refine dr_iload_n p2 dX5_wordsOfFirst_2 rfl ?_
  obtain ⟨_, hb1, h⟩ := dtBind h
  obtain ⟨x4, μ2, e3, h⟩ := dtCall h
  refine dr_callV_i (S0 := []) [.ref p1, .int p2] x4 μ2 dX5_wordsOfFirst_3 (c_X5_countReadings p0 p1 p2 μ e3) mf_X5_countReadings wt_1062 wt_1063 wt_1083 rfl (dtRv hb1) (by decide) rfl (Nat.le_of_ble_eq_true rfl) (Nat.le_of_ble_eq_true rfl) rfl ?_
  obtain ⟨ht6, hf7⟩ := dtIte h
  refine dr_if_ne 11 dX5_wordsOfFirst_6 (by decide) (fun hc5 => ?_) (fun hc5 => ?_)
  · have h := hf7 hc5
    refine dr_iconst (0 : Int32) dX5_wordsOfFirst_11 (by decide) ?_
    refine dr_istore_n 3 [some (.ref p0), some (.ref p1), some (.int p2), some (.int (0 : Int32))] dX5_wordsOfFirst_12 rfl rfl rfl rfl ?_
    refine dr_iconst (0 : Int32) dX5_wordsOfFirst_13 (by decide) ?_
    refine dr_istore [some (.ref p0), some (.ref p1), some (.int p2), some (.int (0 : Int32)), some (.int (0 : Int32))] dX5_wordsOfFirst_14 rfl rfl rfl ?_
    refine dr_iconst (0 : Int32) dX5_wordsOfFirst_16 (by decide) ?_
    refine dr_istore [some (.ref p0), some (.ref p1), some (.int p2), some (.int (0 : Int32)), some (.int (0 : Int32)), some (.int (0 : Int32))] dX5_wordsOfFirst_17 rfl rfl rfl ?_
    exact c_X5_wordsOfFirst_19 dtFuel p0 p1 p2 (0 : Int32) (0 : Int32) (0 : Int32) μ2 h
  · have h := ht6 hc5
    refine dr_iconst (-1 : Int32) dX5_wordsOfFirst_9 (by decide) ?_
    cases h
    exact dr_ireturn dX5_wordsOfFirst_10 rfl
/-! X5_wordOfFirst -/
theorem dX5_wordOfFirst_0 : decode cX5_wordOfFirst 0 = .ok (.iload_n 3, 1) := by decide +kernel
theorem dX5_wordOfFirst_1 : decode cX5_wordOfFirst 1 = .ok (.aload_n 0, 1) := by decide +kernel
theorem dX5_wordOfFirst_2 : decode cX5_wordOfFirst 2 = .ok (.aload_n 1, 1) := by decide +kernel
theorem dX5_wordOfFirst_3 : decode cX5_wordOfFirst 3 = .ok (.iload_n 2, 1) := by decide +kernel
theorem dX5_wordOfFirst_4 : decode cX5_wordOfFirst 4 = .ok (.invokevirtual 70, 3) := by decide +kernel
theorem dX5_wordOfFirst_7 : decode cX5_wordOfFirst 7 = .ok (.if_icmp .lt 5, 3) := by decide +kernel
theorem dX5_wordOfFirst_10 : decode cX5_wordOfFirst 10 = .ok (.iconst (-1), 1) := by decide +kernel
theorem dX5_wordOfFirst_11 : decode cX5_wordOfFirst 11 = .ok (.ireturn, 1) := by decide +kernel
theorem dX5_wordOfFirst_12 : decode cX5_wordOfFirst 12 = .ok (.iconst 0, 1) := by decide +kernel
theorem dX5_wordOfFirst_13 : decode cX5_wordOfFirst 13 = .ok (.istore 4, 2) := by decide +kernel
theorem dX5_wordOfFirst_15 : decode cX5_wordOfFirst 15 = .ok (.iconst 0, 1) := by decide +kernel
theorem dX5_wordOfFirst_16 : decode cX5_wordOfFirst 16 = .ok (.istore 5, 2) := by decide +kernel
theorem dX5_wordOfFirst_18 : decode cX5_wordOfFirst 18 = .ok (.iload 5, 2) := by decide +kernel
theorem dX5_wordOfFirst_20 : decode cX5_wordOfFirst 20 = .ok (.iload_n 3, 1) := by decide +kernel
theorem dX5_wordOfFirst_21 : decode cX5_wordOfFirst 21 = .ok (.if_icmp .ge 27, 3) := by decide +kernel
theorem dX5_wordOfFirst_24 : decode cX5_wordOfFirst 24 = .ok (.iload 4, 2) := by decide +kernel
theorem dX5_wordOfFirst_26 : decode cX5_wordOfFirst 26 = .ok (.aload_n 1, 1) := by decide +kernel
theorem dX5_wordOfFirst_27 : decode cX5_wordOfFirst 27 = .ok (.getfield 25, 3) := by decide +kernel
theorem dX5_wordOfFirst_30 : decode cX5_wordOfFirst 30 = .ok (.aload_n 0, 1) := by decide +kernel
theorem dX5_wordOfFirst_31 : decode cX5_wordOfFirst 31 = .ok (.aload_n 1, 1) := by decide +kernel
theorem dX5_wordOfFirst_32 : decode cX5_wordOfFirst 32 = .ok (.iload_n 2, 1) := by decide +kernel
theorem dX5_wordOfFirst_33 : decode cX5_wordOfFirst 33 = .ok (.iload 4, 2) := by decide +kernel
theorem dX5_wordOfFirst_35 : decode cX5_wordOfFirst 35 = .ok (.invokevirtual 66, 3) := by decide +kernel
theorem dX5_wordOfFirst_38 : decode cX5_wordOfFirst 38 = .ok (.iaload, 1) := by decide +kernel
theorem dX5_wordOfFirst_39 : decode cX5_wordOfFirst 39 = .ok (.iadd, 1) := by decide +kernel
theorem dX5_wordOfFirst_40 : decode cX5_wordOfFirst 40 = .ok (.istore 4, 2) := by decide +kernel
theorem dX5_wordOfFirst_42 : decode cX5_wordOfFirst 42 = .ok (.iinc 5 1, 3) := by decide +kernel
theorem dX5_wordOfFirst_45 : decode cX5_wordOfFirst 45 = .ok (.goto (-27), 3) := by decide +kernel
theorem dX5_wordOfFirst_48 : decode cX5_wordOfFirst 48 = .ok (.aload_n 0, 1) := by decide +kernel
theorem dX5_wordOfFirst_49 : decode cX5_wordOfFirst 49 = .ok (.aload_n 1, 1) := by decide +kernel
theorem dX5_wordOfFirst_50 : decode cX5_wordOfFirst 50 = .ok (.iload_n 2, 1) := by decide +kernel
theorem dX5_wordOfFirst_51 : decode cX5_wordOfFirst 51 = .ok (.iload 4, 2) := by decide +kernel
theorem dX5_wordOfFirst_53 : decode cX5_wordOfFirst 53 = .ok (.invokevirtual 66, 3) := by decide +kernel
theorem dX5_wordOfFirst_56 : decode cX5_wordOfFirst 56 = .ok (.ireturn, 1) := by decide +kernel
set_option maxRecDepth 100000 in
def f_X5_wordOfFirst_18 : Nat → Nat → Nat → Int32 → Int32 → Int32 → Int32 → dtM → Option (Int32 × dtM)
  | 0, _, _, _, _, _, _, _ => none
  | n + 1, l0, l1, l2, l3, l4, l5, μ =>
    if l3 ≤ l5 then ((opRv 5 μ l0).bind fun _ => opCall (f_X5_firstWordAt l0 l1 l2 l4 μ) fun x7 μ5 => some (x7, μ5)) else ((opGR 3 12 μ l1).bind fun x8 => (opRv 5 μ l0).bind fun _ => opCall (f_X5_firstWordAt l0 l1 l2 l4 μ) fun x13 μ11 => (opLI 1 μ11 x8 x13).bind fun x14 => (some (l4 + x14)).bind fun x16 => f_X5_wordOfFirst_18 n l0 l1 l2 l3 x16 (l5 + 1) μ11)
set_option maxRecDepth 100000 in
def f_X5_wordOfFirst (p0 : Nat) (p1 : Nat) (p2 : Int32) (p3 : Int32) (μ : dtM) : Option (Int32 × dtM) :=
  (opRv 5 μ p0).bind fun _ => opCall (f_X5_wordsOfFirst p0 p1 p2 μ) fun x4 μ2 => if p3 < x4 then (f_X5_wordOfFirst_18 dtFuel p0 p1 p2 p3 (0 : Int32) (0 : Int32) μ2) else (some ((-1 : Int32), μ2))
set_option maxRecDepth 100000 in
theorem c_X5_wordOfFirst_18 {r : Int32} {F : dtM} : ∀ (n : Nat) (l0 : Nat) (l1 : Nat) (l2 : Int32) (l3 : Int32) (l4 : Int32) (l5 : Int32) (μ : dtM), f_X5_wordOfFirst_18 n l0 l1 l2 l3 l4 l5 μ = some (r, F) → dtW yX5_wordOfFirst cX5_wordOfFirst 6 (some .int) 6 (some (.int r)) F 18 [some (.ref l0), some (.ref l1), some (.int l2), some (.int l3), some (.int l4), some (.int l5)] [] μ := by
  intro n
  induction n with
  | zero => intro l0 l1 l2 l3 l4 l5 μ h; cases h
  | succ n ih =>
    intro l0 l1 l2 l3 l4 l5 μ h
    have h := (show f_X5_wordOfFirst_18 (n + 1) l0 l1 l2 l3 l4 l5 μ = some _ from h)
    rw [f_X5_wordOfFirst_18] at h
    refine dr_iload l5 dX5_wordOfFirst_18 rfl ?_
    refine dr_iload_n l3 dX5_wordOfFirst_20 rfl ?_
    obtain ⟨ht2, hf3⟩ := dtIte h
    refine dr_icmp_ge 48 dX5_wordOfFirst_21 (by decide) (fun hc1 => ?_) (fun hc1 => ?_)
    · have h := ht2 hc1
      refine dr_aload_n l0 dX5_wordOfFirst_48 rfl ?_
      refine dr_aload_n l1 dX5_wordOfFirst_49 rfl ?_
      refine dr_iload_n l2 dX5_wordOfFirst_50 rfl ?_
      refine dr_iload l4 dX5_wordOfFirst_51 rfl ?_
      obtain ⟨_, hb4, h⟩ := dtBind h
      obtain ⟨x7, μ5, e6, h⟩ := dtCall h
      refine dr_callV_i (S0 := []) [.ref l1, .int l2, .int l4] x7 μ5 dX5_wordOfFirst_53 (c_X5_firstWordAt l0 l1 l2 l4 μ e6) mf_X5_firstWordAt wt_1086 ws_36 wt_1084 rfl (dtRv hb4) (by decide) rfl (Nat.le_of_ble_eq_true rfl) (Nat.le_of_ble_eq_true rfl) rfl ?_
      cases h
      exact dr_ireturn dX5_wordOfFirst_56 rfl
    · have h := hf3 hc1
      refine dr_iload l4 dX5_wordOfFirst_24 rfl ?_
      refine dr_aload_n l1 dX5_wordOfFirst_26 rfl ?_
      obtain ⟨x8, e9, h⟩ := dtBind h
      refine dr_getR x8 dX5_wordOfFirst_27 fl_RX5_25 e9 ?_
      refine dr_aload_n l0 dX5_wordOfFirst_30 rfl ?_
      refine dr_aload_n l1 dX5_wordOfFirst_31 rfl ?_
      refine dr_iload_n l2 dX5_wordOfFirst_32 rfl ?_
      refine dr_iload l4 dX5_wordOfFirst_33 rfl ?_
      obtain ⟨_, hb10, h⟩ := dtBind h
      obtain ⟨x13, μ11, e12, h⟩ := dtCall h
      refine dr_callV_i (S0 := [.ref x8, .int l4]) [.ref l1, .int l2, .int l4] x13 μ11 dX5_wordOfFirst_35 (c_X5_firstWordAt l0 l1 l2 l4 μ e12) mf_X5_firstWordAt wt_1086 ws_36 wt_1084 rfl (dtRv hb10) (by decide) rfl (Nat.le_of_ble_eq_true rfl) (Nat.le_of_ble_eq_true rfl) rfl ?_
      obtain ⟨x14, e15, h⟩ := dtBind h
      refine dr_iaload x14 dX5_wordOfFirst_38 e15 ?_
      refine dr_iadd dX5_wordOfFirst_39 ?_
      obtain ⟨x16, e17, h⟩ := dtBind h
      refine dr_nmi e17 ?_
      refine dr_istore [some (.ref l0), some (.ref l1), some (.int l2), some (.int l3), some (.int x16), some (.int l5)] dX5_wordOfFirst_40 rfl rfl rfl ?_
      refine dr_iinc l5 (l5 + 1) [some (.ref l0), some (.ref l1), some (.int l2), some (.int l3), some (.int x16), some (.int (l5 + 1))] dX5_wordOfFirst_42 rfl rfl rfl rfl rfl ?_
      refine dr_goto 18 dX5_wordOfFirst_45 (by decide) ?_
      exact ih l0 l1 l2 l3 x16 (l5 + 1) μ11 h
set_option maxRecDepth 100000 in
theorem c_X5_wordOfFirst {r : Int32} {F : dtM} (p0 : Nat) (p1 : Nat) (p2 : Int32) (p3 : Int32) (μ : dtM) (h : f_X5_wordOfFirst p0 p1 p2 p3 μ = some (r, F)) : dtMet yX5_wordOfFirst cX5_wordOfFirst 6 (some .int) 6 [.ref p0, .ref p1, .int p2, .int p3] μ (some (.int r)) F := by
  refine dtMet.of (by decide +kernel) (Nat.le_of_ble_eq_true rfl) (show dtW yX5_wordOfFirst cX5_wordOfFirst 6 (some .int) 6 (some (.int r)) F 0 [some (.ref p0), some (.ref p1), some (.int p2), some (.int p3)] [] μ from ?_)
  rw [f_X5_wordOfFirst] at h
  refine dr_iload_n p3 dX5_wordOfFirst_0 rfl ?_
  refine dr_aload_n p0 dX5_wordOfFirst_1 rfl ?_
  refine dr_aload_n p1 dX5_wordOfFirst_2 rfl ?_
  refine dr_iload_n p2 dX5_wordOfFirst_3 rfl ?_
  obtain ⟨_, hb1, h⟩ := dtBind h
  obtain ⟨x4, μ2, e3, h⟩ := dtCall h
  refine dr_callV_i (S0 := [.int p3]) [.ref p1, .int p2] x4 μ2 dX5_wordOfFirst_4 (c_X5_wordsOfFirst p0 p1 p2 μ e3) mf_X5_wordsOfFirst wt_1080 wt_1081 wt_1096 rfl (dtRv hb1) (by decide) rfl (Nat.le_of_ble_eq_true rfl) (Nat.le_of_ble_eq_true rfl) rfl ?_
  obtain ⟨ht6, hf7⟩ := dtIte h
  refine dr_icmp_lt 12 dX5_wordOfFirst_7 (by decide) (fun hc5 => ?_) (fun hc5 => ?_)
  · have h := ht6 hc5
    refine dr_iconst (0 : Int32) dX5_wordOfFirst_12 (by decide) ?_
    refine dr_istore [some (.ref p0), some (.ref p1), some (.int p2), some (.int p3), some (.int (0 : Int32))] dX5_wordOfFirst_13 rfl rfl rfl ?_
    refine dr_iconst (0 : Int32) dX5_wordOfFirst_15 (by decide) ?_
    refine dr_istore [some (.ref p0), some (.ref p1), some (.int p2), some (.int p3), some (.int (0 : Int32)), some (.int (0 : Int32))] dX5_wordOfFirst_16 rfl rfl rfl ?_
    exact c_X5_wordOfFirst_18 dtFuel p0 p1 p2 p3 (0 : Int32) (0 : Int32) μ2 h
  · have h := hf7 hc5
    refine dr_iconst (-1 : Int32) dX5_wordOfFirst_10 (by decide) ?_
    cases h
    exact dr_ireturn dX5_wordOfFirst_11 rfl
/-! X5_wordsShared -/
theorem dX5_wordsShared_0 : decode cX5_wordsShared 0 = .ok (.iconst 0, 1) := by decide +kernel
theorem dX5_wordsShared_1 : decode cX5_wordsShared 1 = .ok (.istore 4, 2) := by decide +kernel
theorem dX5_wordsShared_3 : decode cX5_wordsShared 3 = .ok (.iconst 0, 1) := by decide +kernel
theorem dX5_wordsShared_4 : decode cX5_wordsShared 4 = .ok (.istore 5, 2) := by decide +kernel
theorem dX5_wordsShared_6 : decode cX5_wordsShared 6 = .ok (.iload 5, 2) := by decide +kernel
theorem dX5_wordsShared_8 : decode cX5_wordsShared 8 = .ok (.aload_n 1, 1) := by decide +kernel
theorem dX5_wordsShared_9 : decode cX5_wordsShared 9 = .ok (.getfield 47, 3) := by decide +kernel
theorem dX5_wordsShared_12 : decode cX5_wordsShared 12 = .ok (.if_icmp .ge 47, 3) := by decide +kernel
theorem dX5_wordsShared_15 : decode cX5_wordsShared 15 = .ok (.iload_n 2, 1) := by decide +kernel
theorem dX5_wordsShared_16 : decode cX5_wordsShared 16 = .ok (.iload 5, 2) := by decide +kernel
theorem dX5_wordsShared_18 : decode cX5_wordsShared 18 = .ok (.invokestatic 50, 3) := by decide +kernel
theorem dX5_wordsShared_21 : decode cX5_wordsShared 21 = .ok (.ifCond .eq 32, 3) := by decide +kernel
theorem dX5_wordsShared_24 : decode cX5_wordsShared 24 = .ok (.aload_n 0, 1) := by decide +kernel
theorem dX5_wordsShared_25 : decode cX5_wordsShared 25 = .ok (.invokevirtual 38, 3) := by decide +kernel
theorem dX5_wordsShared_28 : decode cX5_wordsShared 28 = .ok (.aload_n 0, 1) := by decide +kernel
theorem dX5_wordsShared_29 : decode cX5_wordsShared 29 = .ok (.aload_n 1, 1) := by decide +kernel
theorem dX5_wordsShared_30 : decode cX5_wordsShared 30 = .ok (.iload 5, 2) := by decide +kernel
theorem dX5_wordsShared_32 : decode cX5_wordsShared 32 = .ok (.invokevirtual 73, 3) := by decide +kernel
theorem dX5_wordsShared_35 : decode cX5_wordsShared 35 = .ok (.aload_n 0, 1) := by decide +kernel
theorem dX5_wordsShared_36 : decode cX5_wordsShared 36 = .ok (.aload_n 1, 1) := by decide +kernel
theorem dX5_wordsShared_37 : decode cX5_wordsShared 37 = .ok (.iload_n 3, 1) := by decide +kernel
theorem dX5_wordsShared_38 : decode cX5_wordsShared 38 = .ok (.invokevirtual 62, 3) := by decide +kernel
theorem dX5_wordsShared_41 : decode cX5_wordsShared 41 = .ok (.ifCond .le 12, 3) := by decide +kernel
theorem dX5_wordsShared_44 : decode cX5_wordsShared 44 = .ok (.iload 4, 2) := by decide +kernel
theorem dX5_wordsShared_46 : decode cX5_wordsShared 46 = .ok (.iconst 1, 1) := by decide +kernel
theorem dX5_wordsShared_47 : decode cX5_wordsShared 47 = .ok (.iload 5, 2) := by decide +kernel
theorem dX5_wordsShared_49 : decode cX5_wordsShared 49 = .ok (.ishl, 1) := by decide +kernel
theorem dX5_wordsShared_50 : decode cX5_wordsShared 50 = .ok (.ior, 1) := by decide +kernel
theorem dX5_wordsShared_51 : decode cX5_wordsShared 51 = .ok (.istore 4, 2) := by decide +kernel
theorem dX5_wordsShared_53 : decode cX5_wordsShared 53 = .ok (.iinc 5 1, 3) := by decide +kernel
theorem dX5_wordsShared_56 : decode cX5_wordsShared 56 = .ok (.goto (-50), 3) := by decide +kernel
theorem dX5_wordsShared_59 : decode cX5_wordsShared 59 = .ok (.iload 4, 2) := by decide +kernel
theorem dX5_wordsShared_61 : decode cX5_wordsShared 61 = .ok (.ireturn, 1) := by decide +kernel
set_option maxRecDepth 100000 in
def f_X5_wordsShared_53 (k6 : Nat → Nat → Int32 → Int32 → Int32 → Int32 → dtM → Option (Int32 × dtM)) (l0 : Nat) (l1 : Nat) (l2 : Int32) (l3 : Int32) (l4 : Int32) (l5 : Int32) (μ : dtM) : Option (Int32 × dtM) :=
  k6 l0 l1 l2 l3 l4 (l5 + 1) μ
set_option maxRecDepth 100000 in
def f_X5_wordsShared_6 : Nat → Nat → Nat → Int32 → Int32 → Int32 → Int32 → dtM → Option (Int32 × dtM)
  | 0, _, _, _, _, _, _, _ => none
  | n + 1, l0, l1, l2, l3, l4, l5, μ =>
    (opGI 3 2 μ l1).bind fun x1 => if x1 ≤ l5 then (some (l4, μ)) else (opCall (f_X11_contains l2 l5 μ) fun x8 μ6 => if x8 = 0 then (f_X5_wordsShared_53 (f_X5_wordsShared_6 n) l0 l1 l2 l3 l4 l5 μ6) else ((opRv 5 μ6 l0).bind fun _ => (f_X5_beginRow l0 μ6).bind fun μ13 => (opRv 5 μ13 l0).bind fun _ => (f_X5_addWord l0 l1 l5 μ13).bind fun μ16 => (opRv 5 μ16 l0).bind fun _ => opCall (f_X5_countReadings l0 l1 l3 μ16) fun x21 μ19 => if x21 ≤ 0 then (f_X5_wordsShared_53 (f_X5_wordsShared_6 n) l0 l1 l2 l3 l4 l5 μ19) else ((some (l4 ||| ((1 : Int32) <<< (l5 &&& 31)))).bind fun x25 => f_X5_wordsShared_53 (f_X5_wordsShared_6 n) l0 l1 l2 l3 x25 l5 μ19)))
set_option maxRecDepth 100000 in
def f_X5_wordsShared (p0 : Nat) (p1 : Nat) (p2 : Int32) (p3 : Int32) (μ : dtM) : Option (Int32 × dtM) :=
  f_X5_wordsShared_6 dtFuel p0 p1 p2 p3 (0 : Int32) (0 : Int32) μ
set_option maxRecDepth 100000 in
theorem c_X5_wordsShared_53 {r : Int32} {F : dtM} (k6 : Nat → Nat → Int32 → Int32 → Int32 → Int32 → dtM → Option (Int32 × dtM)) (hk6 : ∀ (l0 : Nat) (l1 : Nat) (l2 : Int32) (l3 : Int32) (l4 : Int32) (l5 : Int32) (μ : dtM), k6 l0 l1 l2 l3 l4 l5 μ = some (r, F) → dtW yX5_wordsShared cX5_wordsShared 6 (some .int) 5 (some (.int r)) F 6 [some (.ref l0), some (.ref l1), some (.int l2), some (.int l3), some (.int l4), some (.int l5)] [] μ) (l0 : Nat) (l1 : Nat) (l2 : Int32) (l3 : Int32) (l4 : Int32) (l5 : Int32) (μ : dtM) (h : f_X5_wordsShared_53 k6 l0 l1 l2 l3 l4 l5 μ = some (r, F)) : dtW yX5_wordsShared cX5_wordsShared 6 (some .int) 5 (some (.int r)) F 53 [some (.ref l0), some (.ref l1), some (.int l2), some (.int l3), some (.int l4), some (.int l5)] [] μ := by
  rw [f_X5_wordsShared_53] at h
  refine dr_iinc l5 (l5 + 1) [some (.ref l0), some (.ref l1), some (.int l2), some (.int l3), some (.int l4), some (.int (l5 + 1))] dX5_wordsShared_53 rfl rfl rfl rfl rfl ?_
  refine dr_goto 6 dX5_wordsShared_56 (by decide) ?_
  exact hk6 l0 l1 l2 l3 l4 (l5 + 1) μ h
set_option maxRecDepth 100000 in
theorem c_X5_wordsShared_6 {r : Int32} {F : dtM} : ∀ (n : Nat) (l0 : Nat) (l1 : Nat) (l2 : Int32) (l3 : Int32) (l4 : Int32) (l5 : Int32) (μ : dtM), f_X5_wordsShared_6 n l0 l1 l2 l3 l4 l5 μ = some (r, F) → dtW yX5_wordsShared cX5_wordsShared 6 (some .int) 5 (some (.int r)) F 6 [some (.ref l0), some (.ref l1), some (.int l2), some (.int l3), some (.int l4), some (.int l5)] [] μ := by
  intro n
  induction n with
  | zero => intro l0 l1 l2 l3 l4 l5 μ h; cases h
  | succ n ih =>
    intro l0 l1 l2 l3 l4 l5 μ h
    have h := (show f_X5_wordsShared_6 (n + 1) l0 l1 l2 l3 l4 l5 μ = some _ from h)
    rw [f_X5_wordsShared_6] at h
    refine dr_iload l5 dX5_wordsShared_6 rfl ?_
    refine dr_aload_n l1 dX5_wordsShared_8 rfl ?_
    obtain ⟨x1, e2, h⟩ := dtBind h
    refine dr_getI x1 dX5_wordsShared_9 fl_RX5_47 e2 ?_
    obtain ⟨ht4, hf5⟩ := dtIte h
    refine dr_icmp_ge 59 dX5_wordsShared_12 (by decide) (fun hc3 => ?_) (fun hc3 => ?_)
    · have h := ht4 hc3
      refine dr_iload l4 dX5_wordsShared_59 rfl ?_
      cases h
      exact dr_ireturn dX5_wordsShared_61 rfl
    · have h := hf5 hc3
      refine dr_iload_n l2 dX5_wordsShared_15 rfl ?_
      refine dr_iload l5 dX5_wordsShared_16 rfl ?_
      obtain ⟨x8, μ6, e7, h⟩ := dtCall h
      refine dr_callSN_i (S0 := []) [.int l2, .int l5] x8 μ6 dX5_wordsShared_18 (c_X11_contains l2 l5 μ e7) mf_X11_contains wt_748 wn_1065 rfl (Nat.le_of_ble_eq_true rfl) (Nat.le_of_ble_eq_true rfl) rfl ?_
      obtain ⟨ht10, hf11⟩ := dtIte h
      refine dr_if_eq 53 dX5_wordsShared_21 (by decide) (fun hc9 => ?_) (fun hc9 => ?_)
      · have h := ht10 hc9
        exact c_X5_wordsShared_53 (f_X5_wordsShared_6 n) ih l0 l1 l2 l3 l4 l5 μ6 h
      · have h := hf11 hc9
        refine dr_aload_n l0 dX5_wordsShared_24 rfl ?_
        obtain ⟨_, hb12, h⟩ := dtBind h
        obtain ⟨μ13, e14, h⟩ := dtBind h
        refine dr_callV_v (S0 := []) [] μ13 dX5_wordsShared_25 (c_X5_beginRow l0 μ6 e14) mf_X5_beginRow wt_1054 wt_1055 wt_1053 rfl (dtRv hb12) (by decide) rfl (Nat.le_of_ble_eq_true rfl) (Nat.le_of_ble_eq_true rfl) rfl ?_
        refine dr_aload_n l0 dX5_wordsShared_28 rfl ?_
        refine dr_aload_n l1 dX5_wordsShared_29 rfl ?_
        refine dr_iload l5 dX5_wordsShared_30 rfl ?_
        obtain ⟨_, hb15, h⟩ := dtBind h
        obtain ⟨μ16, e17, h⟩ := dtBind h
        refine dr_callV_v (S0 := []) [.ref l1, .int l5] μ16 dX5_wordsShared_32 (c_X5_addWord l0 l1 l5 μ13 e17) mf_X5_addWord wt_1108 wt_1109 wt_1154 rfl (dtRv hb15) (by decide) rfl (Nat.le_of_ble_eq_true rfl) (Nat.le_of_ble_eq_true rfl) rfl ?_
        refine dr_aload_n l0 dX5_wordsShared_35 rfl ?_
        refine dr_aload_n l1 dX5_wordsShared_36 rfl ?_
        refine dr_iload_n l3 dX5_wordsShared_37 rfl ?_
        obtain ⟨_, hb18, h⟩ := dtBind h
        obtain ⟨x21, μ19, e20, h⟩ := dtCall h
        refine dr_callV_i (S0 := []) [.ref l1, .int l3] x21 μ19 dX5_wordsShared_38 (c_X5_countReadings l0 l1 l3 μ16 e20) mf_X5_countReadings wt_1062 wt_1063 wt_1083 rfl (dtRv hb18) (by decide) rfl (Nat.le_of_ble_eq_true rfl) (Nat.le_of_ble_eq_true rfl) rfl ?_
        obtain ⟨ht23, hf24⟩ := dtIte h
        refine dr_if_le 53 dX5_wordsShared_41 (by decide) (fun hc22 => ?_) (fun hc22 => ?_)
        · have h := ht23 hc22
          exact c_X5_wordsShared_53 (f_X5_wordsShared_6 n) ih l0 l1 l2 l3 l4 l5 μ19 h
        · have h := hf24 hc22
          refine dr_iload l4 dX5_wordsShared_44 rfl ?_
          refine dr_iconst (1 : Int32) dX5_wordsShared_46 (by decide) ?_
          refine dr_iload l5 dX5_wordsShared_47 rfl ?_
          refine dr_ishl dX5_wordsShared_49 ?_
          refine dr_ior dX5_wordsShared_50 ?_
          obtain ⟨x25, e26, h⟩ := dtBind h
          refine dr_nmi e26 ?_
          refine dr_istore [some (.ref l0), some (.ref l1), some (.int l2), some (.int l3), some (.int x25), some (.int l5)] dX5_wordsShared_51 rfl rfl rfl ?_
          exact c_X5_wordsShared_53 (f_X5_wordsShared_6 n) ih l0 l1 l2 l3 x25 l5 μ19 h
set_option maxRecDepth 100000 in
theorem c_X5_wordsShared {r : Int32} {F : dtM} (p0 : Nat) (p1 : Nat) (p2 : Int32) (p3 : Int32) (μ : dtM) (h : f_X5_wordsShared p0 p1 p2 p3 μ = some (r, F)) : dtMet yX5_wordsShared cX5_wordsShared 6 (some .int) 5 [.ref p0, .ref p1, .int p2, .int p3] μ (some (.int r)) F := by
  refine dtMet.of (by decide +kernel) (Nat.le_of_ble_eq_true rfl) (show dtW yX5_wordsShared cX5_wordsShared 6 (some .int) 5 (some (.int r)) F 0 [some (.ref p0), some (.ref p1), some (.int p2), some (.int p3)] [] μ from ?_)
  rw [f_X5_wordsShared] at h
  refine dr_iconst (0 : Int32) dX5_wordsShared_0 (by decide) ?_
  refine dr_istore [some (.ref p0), some (.ref p1), some (.int p2), some (.int p3), some (.int (0 : Int32))] dX5_wordsShared_1 rfl rfl rfl ?_
  refine dr_iconst (0 : Int32) dX5_wordsShared_3 (by decide) ?_
  refine dr_istore [some (.ref p0), some (.ref p1), some (.int p2), some (.int p3), some (.int (0 : Int32)), some (.int (0 : Int32))] dX5_wordsShared_4 rfl rfl rfl ?_
  exact c_X5_wordsShared_6 dtFuel p0 p1 p2 p3 (0 : Int32) (0 : Int32) μ h
/-! X5_countBegun -/
theorem dX5_countBegun_0 : decode cX5_countBegun 0 = .ok (.iconst 0, 1) := by decide +kernel
theorem dX5_countBegun_1 : decode cX5_countBegun 1 = .ok (.istore 4, 2) := by decide +kernel
theorem dX5_countBegun_3 : decode cX5_countBegun 3 = .ok (.aload_n 0, 1) := by decide +kernel
theorem dX5_countBegun_4 : decode cX5_countBegun 4 = .ok (.getfield 21, 3) := by decide +kernel
theorem dX5_countBegun_7 : decode cX5_countBegun 7 = .ok (.iload_n 3, 1) := by decide +kernel
theorem dX5_countBegun_8 : decode cX5_countBegun 8 = .ok (.isub, 1) := by decide +kernel
theorem dX5_countBegun_9 : decode cX5_countBegun 9 = .ok (.istore 5, 2) := by decide +kernel
theorem dX5_countBegun_11 : decode cX5_countBegun 11 = .ok (.iconst 0, 1) := by decide +kernel
theorem dX5_countBegun_12 : decode cX5_countBegun 12 = .ok (.istore 6, 2) := by decide +kernel
theorem dX5_countBegun_14 : decode cX5_countBegun 14 = .ok (.iload 6, 2) := by decide +kernel
theorem dX5_countBegun_16 : decode cX5_countBegun 16 = .ok (.aload_n 1, 1) := by decide +kernel
theorem dX5_countBegun_17 : decode cX5_countBegun 17 = .ok (.getfield 47, 3) := by decide +kernel
theorem dX5_countBegun_20 : decode cX5_countBegun 20 = .ok (.if_icmp .ge 46, 3) := by decide +kernel
theorem dX5_countBegun_23 : decode cX5_countBegun 23 = .ok (.iload_n 2, 1) := by decide +kernel
theorem dX5_countBegun_24 : decode cX5_countBegun 24 = .ok (.iload 6, 2) := by decide +kernel
theorem dX5_countBegun_26 : decode cX5_countBegun 26 = .ok (.invokestatic 50, 3) := by decide +kernel
theorem dX5_countBegun_29 : decode cX5_countBegun 29 = .ok (.ifCond .eq 31, 3) := by decide +kernel
theorem dX5_countBegun_32 : decode cX5_countBegun 32 = .ok (.aload_n 1, 1) := by decide +kernel
theorem dX5_countBegun_33 : decode cX5_countBegun 33 = .ok (.getfield 25, 3) := by decide +kernel
theorem dX5_countBegun_36 : decode cX5_countBegun 36 = .ok (.iload 6, 2) := by decide +kernel
theorem dX5_countBegun_38 : decode cX5_countBegun 38 = .ok (.iaload, 1) := by decide +kernel
theorem dX5_countBegun_39 : decode cX5_countBegun 39 = .ok (.iload 5, 2) := by decide +kernel
theorem dX5_countBegun_41 : decode cX5_countBegun 41 = .ok (.if_icmp .le 19, 3) := by decide +kernel
theorem dX5_countBegun_44 : decode cX5_countBegun 44 = .ok (.aload_n 0, 1) := by decide +kernel
theorem dX5_countBegun_45 : decode cX5_countBegun 45 = .ok (.aload_n 1, 1) := by decide +kernel
theorem dX5_countBegun_46 : decode cX5_countBegun 46 = .ok (.iload 6, 2) := by decide +kernel
theorem dX5_countBegun_48 : decode cX5_countBegun 48 = .ok (.iload_n 3, 1) := by decide +kernel
theorem dX5_countBegun_49 : decode cX5_countBegun 49 = .ok (.iload 5, 2) := by decide +kernel
theorem dX5_countBegun_51 : decode cX5_countBegun 51 = .ok (.invokevirtual 58, 3) := by decide +kernel
theorem dX5_countBegun_54 : decode cX5_countBegun 54 = .ok (.ifCond .eq 6, 3) := by decide +kernel
theorem dX5_countBegun_57 : decode cX5_countBegun 57 = .ok (.iinc 4 1, 3) := by decide +kernel
theorem dX5_countBegun_60 : decode cX5_countBegun 60 = .ok (.iinc 6 1, 3) := by decide +kernel
theorem dX5_countBegun_63 : decode cX5_countBegun 63 = .ok (.goto (-49), 3) := by decide +kernel
theorem dX5_countBegun_66 : decode cX5_countBegun 66 = .ok (.iload 4, 2) := by decide +kernel
theorem dX5_countBegun_68 : decode cX5_countBegun 68 = .ok (.ireturn, 1) := by decide +kernel
set_option maxRecDepth 100000 in
def f_X5_countBegun_60 (k14 : Nat → Nat → Int32 → Int32 → Int32 → Int32 → Int32 → dtM → Option (Int32 × dtM)) (l0 : Nat) (l1 : Nat) (l2 : Int32) (l3 : Int32) (l4 : Int32) (l5 : Int32) (l6 : Int32) (μ : dtM) : Option (Int32 × dtM) :=
  k14 l0 l1 l2 l3 l4 l5 (l6 + 1) μ
set_option maxRecDepth 100000 in
def f_X5_countBegun_14 : Nat → Nat → Nat → Int32 → Int32 → Int32 → Int32 → Int32 → dtM → Option (Int32 × dtM)
  | 0, _, _, _, _, _, _, _, _ => none
  | n + 1, l0, l1, l2, l3, l4, l5, l6, μ =>
    (opGI 3 2 μ l1).bind fun x1 => if x1 ≤ l6 then (some (l4, μ)) else (opCall (f_X11_contains l2 l6 μ) fun x8 μ6 => if x8 = 0 then (f_X5_countBegun_60 (f_X5_countBegun_14 n) l0 l1 l2 l3 l4 l5 l6 μ6) else ((opGR 3 12 μ6 l1).bind fun x12 => (opLI 1 μ6 x12 l6).bind fun x14 => if x14 ≤ l5 then (f_X5_countBegun_60 (f_X5_countBegun_14 n) l0 l1 l2 l3 l4 l5 l6 μ6) else ((opRv 5 μ6 l0).bind fun _ => opCall (f_X5_agrees l0 l1 l6 l3 l5 μ6) fun x22 μ20 => if x22 = 0 then (f_X5_countBegun_60 (f_X5_countBegun_14 n) l0 l1 l2 l3 l4 l5 l6 μ20) else (f_X5_countBegun_60 (f_X5_countBegun_14 n) l0 l1 l2 l3 (l4 + 1) l5 l6 μ20))))
set_option maxRecDepth 100000 in
def f_X5_countBegun (p0 : Nat) (p1 : Nat) (p2 : Int32) (p3 : Int32) (μ : dtM) : Option (Int32 × dtM) :=
  (opGI 5 1 μ p0).bind fun x1 => (some (x1 - p3)).bind fun x3 => f_X5_countBegun_14 dtFuel p0 p1 p2 p3 (0 : Int32) x3 (0 : Int32) μ
set_option maxRecDepth 100000 in
theorem c_X5_countBegun_60 {r : Int32} {F : dtM} (k14 : Nat → Nat → Int32 → Int32 → Int32 → Int32 → Int32 → dtM → Option (Int32 × dtM)) (hk14 : ∀ (l0 : Nat) (l1 : Nat) (l2 : Int32) (l3 : Int32) (l4 : Int32) (l5 : Int32) (l6 : Int32) (μ : dtM), k14 l0 l1 l2 l3 l4 l5 l6 μ = some (r, F) → dtW yX5_countBegun cX5_countBegun 7 (some .int) 3 (some (.int r)) F 14 [some (.ref l0), some (.ref l1), some (.int l2), some (.int l3), some (.int l4), some (.int l5), some (.int l6)] [] μ) (l0 : Nat) (l1 : Nat) (l2 : Int32) (l3 : Int32) (l4 : Int32) (l5 : Int32) (l6 : Int32) (μ : dtM) (h : f_X5_countBegun_60 k14 l0 l1 l2 l3 l4 l5 l6 μ = some (r, F)) : dtW yX5_countBegun cX5_countBegun 7 (some .int) 3 (some (.int r)) F 60 [some (.ref l0), some (.ref l1), some (.int l2), some (.int l3), some (.int l4), some (.int l5), some (.int l6)] [] μ := by
  rw [f_X5_countBegun_60] at h
  refine dr_iinc l6 (l6 + 1) [some (.ref l0), some (.ref l1), some (.int l2), some (.int l3), some (.int l4), some (.int l5), some (.int (l6 + 1))] dX5_countBegun_60 rfl rfl rfl rfl rfl ?_
  refine dr_goto 14 dX5_countBegun_63 (by decide) ?_
  exact hk14 l0 l1 l2 l3 l4 l5 (l6 + 1) μ h
set_option maxRecDepth 100000 in
theorem c_X5_countBegun_14 {r : Int32} {F : dtM} : ∀ (n : Nat) (l0 : Nat) (l1 : Nat) (l2 : Int32) (l3 : Int32) (l4 : Int32) (l5 : Int32) (l6 : Int32) (μ : dtM), f_X5_countBegun_14 n l0 l1 l2 l3 l4 l5 l6 μ = some (r, F) → dtW yX5_countBegun cX5_countBegun 7 (some .int) 3 (some (.int r)) F 14 [some (.ref l0), some (.ref l1), some (.int l2), some (.int l3), some (.int l4), some (.int l5), some (.int l6)] [] μ := by
  intro n
  induction n with
  | zero => intro l0 l1 l2 l3 l4 l5 l6 μ h; cases h
  | succ n ih =>
    intro l0 l1 l2 l3 l4 l5 l6 μ h
    have h := (show f_X5_countBegun_14 (n + 1) l0 l1 l2 l3 l4 l5 l6 μ = some _ from h)
    rw [f_X5_countBegun_14] at h
    refine dr_iload l6 dX5_countBegun_14 rfl ?_
    refine dr_aload_n l1 dX5_countBegun_16 rfl ?_
    obtain ⟨x1, e2, h⟩ := dtBind h
    refine dr_getI x1 dX5_countBegun_17 fl_RX5_47 e2 ?_
    obtain ⟨ht4, hf5⟩ := dtIte h
    refine dr_icmp_ge 66 dX5_countBegun_20 (by decide) (fun hc3 => ?_) (fun hc3 => ?_)
    · have h := ht4 hc3
      refine dr_iload l4 dX5_countBegun_66 rfl ?_
      cases h
      exact dr_ireturn dX5_countBegun_68 rfl
    · have h := hf5 hc3
      refine dr_iload_n l2 dX5_countBegun_23 rfl ?_
      refine dr_iload l6 dX5_countBegun_24 rfl ?_
      obtain ⟨x8, μ6, e7, h⟩ := dtCall h
      refine dr_callSN_i (S0 := []) [.int l2, .int l6] x8 μ6 dX5_countBegun_26 (c_X11_contains l2 l6 μ e7) mf_X11_contains wt_748 wn_1065 rfl (Nat.le_of_ble_eq_true rfl) (Nat.le_of_ble_eq_true rfl) rfl ?_
      obtain ⟨ht10, hf11⟩ := dtIte h
      refine dr_if_eq 60 dX5_countBegun_29 (by decide) (fun hc9 => ?_) (fun hc9 => ?_)
      · have h := ht10 hc9
        exact c_X5_countBegun_60 (f_X5_countBegun_14 n) ih l0 l1 l2 l3 l4 l5 l6 μ6 h
      · have h := hf11 hc9
        refine dr_aload_n l1 dX5_countBegun_32 rfl ?_
        obtain ⟨x12, e13, h⟩ := dtBind h
        refine dr_getR x12 dX5_countBegun_33 fl_RX5_25 e13 ?_
        refine dr_iload l6 dX5_countBegun_36 rfl ?_
        obtain ⟨x14, e15, h⟩ := dtBind h
        refine dr_iaload x14 dX5_countBegun_38 e15 ?_
        refine dr_iload l5 dX5_countBegun_39 rfl ?_
        obtain ⟨ht17, hf18⟩ := dtIte h
        refine dr_icmp_le 60 dX5_countBegun_41 (by decide) (fun hc16 => ?_) (fun hc16 => ?_)
        · have h := ht17 hc16
          exact c_X5_countBegun_60 (f_X5_countBegun_14 n) ih l0 l1 l2 l3 l4 l5 l6 μ6 h
        · have h := hf18 hc16
          refine dr_aload_n l0 dX5_countBegun_44 rfl ?_
          refine dr_aload_n l1 dX5_countBegun_45 rfl ?_
          refine dr_iload l6 dX5_countBegun_46 rfl ?_
          refine dr_iload_n l3 dX5_countBegun_48 rfl ?_
          refine dr_iload l5 dX5_countBegun_49 rfl ?_
          obtain ⟨_, hb19, h⟩ := dtBind h
          obtain ⟨x22, μ20, e21, h⟩ := dtCall h
          refine dr_callV_i (S0 := []) [.ref l1, .int l6, .int l3, .int l5] x22 μ20 dX5_countBegun_51 (c_X5_agrees l0 l1 l6 l3 l5 μ6 e21) mf_X5_agrees wt_1072 ws_35 wt_1070 rfl (dtRv hb19) (by decide) rfl (Nat.le_of_ble_eq_true rfl) (Nat.le_of_ble_eq_true rfl) rfl ?_
          obtain ⟨ht24, hf25⟩ := dtIte h
          refine dr_if_eq 60 dX5_countBegun_54 (by decide) (fun hc23 => ?_) (fun hc23 => ?_)
          · have h := ht24 hc23
            exact c_X5_countBegun_60 (f_X5_countBegun_14 n) ih l0 l1 l2 l3 l4 l5 l6 μ20 h
          · have h := hf25 hc23
            refine dr_iinc l4 (l4 + 1) [some (.ref l0), some (.ref l1), some (.int l2), some (.int l3), some (.int (l4 + 1)), some (.int l5), some (.int l6)] dX5_countBegun_57 rfl rfl rfl rfl rfl ?_
            exact c_X5_countBegun_60 (f_X5_countBegun_14 n) ih l0 l1 l2 l3 (l4 + 1) l5 l6 μ20 h
set_option maxRecDepth 100000 in
theorem c_X5_countBegun {r : Int32} {F : dtM} (p0 : Nat) (p1 : Nat) (p2 : Int32) (p3 : Int32) (μ : dtM) (h : f_X5_countBegun p0 p1 p2 p3 μ = some (r, F)) : dtMet yX5_countBegun cX5_countBegun 7 (some .int) 3 [.ref p0, .ref p1, .int p2, .int p3] μ (some (.int r)) F := by
  refine dtMet.of (by decide +kernel) (Nat.le_of_ble_eq_true rfl) (show dtW yX5_countBegun cX5_countBegun 7 (some .int) 3 (some (.int r)) F 0 [some (.ref p0), some (.ref p1), some (.int p2), some (.int p3)] [] μ from ?_)
  rw [f_X5_countBegun] at h
  refine dr_iconst (0 : Int32) dX5_countBegun_0 (by decide) ?_
  refine dr_istore [some (.ref p0), some (.ref p1), some (.int p2), some (.int p3), some (.int (0 : Int32))] dX5_countBegun_1 rfl rfl rfl ?_
  refine dr_aload_n p0 dX5_countBegun_3 rfl ?_
  obtain ⟨x1, e2, h⟩ := dtBind h
  refine dr_getI x1 dX5_countBegun_4 fl_RX5_21 e2 ?_
  refine dr_iload_n p3 dX5_countBegun_7 rfl ?_
  refine dr_isub dX5_countBegun_8 ?_
  obtain ⟨x3, e4, h⟩ := dtBind h
  refine dr_nmi e4 ?_
  refine dr_istore [some (.ref p0), some (.ref p1), some (.int p2), some (.int p3), some (.int (0 : Int32)), some (.int x3)] dX5_countBegun_9 rfl rfl rfl ?_
  refine dr_iconst (0 : Int32) dX5_countBegun_11 (by decide) ?_
  refine dr_istore [some (.ref p0), some (.ref p1), some (.int p2), some (.int p3), some (.int (0 : Int32)), some (.int x3), some (.int (0 : Int32))] dX5_countBegun_12 rfl rfl rfl ?_
  exact c_X5_countBegun_14 dtFuel p0 p1 p2 p3 (0 : Int32) x3 (0 : Int32) μ h
/-! X5_canBeTwo -/
theorem dX5_canBeTwo_0 : decode cX5_canBeTwo 0 = .ok (.aload_n 0, 1) := by decide +kernel
theorem dX5_canBeTwo_1 : decode cX5_canBeTwo 1 = .ok (.getfield 18, 3) := by decide +kernel
theorem dX5_canBeTwo_4 : decode cX5_canBeTwo 4 = .ok (.aload_n 0, 1) := by decide +kernel
theorem dX5_canBeTwo_5 : decode cX5_canBeTwo 5 = .ok (.getfield 21, 3) := by decide +kernel
theorem dX5_canBeTwo_8 : decode cX5_canBeTwo 8 = .ok (.iaload, 1) := by decide +kernel
theorem dX5_canBeTwo_9 : decode cX5_canBeTwo 9 = .ok (.istore_n 3, 1) := by decide +kernel
theorem dX5_canBeTwo_10 : decode cX5_canBeTwo 10 = .ok (.iconst 0, 1) := by decide +kernel
theorem dX5_canBeTwo_11 : decode cX5_canBeTwo 11 = .ok (.aload_n 0, 1) := by decide +kernel
theorem dX5_canBeTwo_12 : decode cX5_canBeTwo 12 = .ok (.getfield 21, 3) := by decide +kernel
theorem dX5_canBeTwo_15 : decode cX5_canBeTwo 15 = .ok (.iconst 4, 1) := by decide +kernel
theorem dX5_canBeTwo_16 : decode cX5_canBeTwo 16 = .ok (.isub, 1) := by decide +kernel
theorem dX5_canBeTwo_17 : decode cX5_canBeTwo 17 = .ok (.iconst 1, 1) := by decide +kernel
theorem dX5_canBeTwo_18 : decode cX5_canBeTwo 18 = .ok (.iadd, 1) := by decide +kernel
theorem dX5_canBeTwo_19 : decode cX5_canBeTwo 19 = .ok (.invokestatic 87, 3) := by decide +kernel
theorem dX5_canBeTwo_22 : decode cX5_canBeTwo 22 = .ok (.istore 4, 2) := by decide +kernel
theorem dX5_canBeTwo_24 : decode cX5_canBeTwo 24 = .ok (.iload 4, 2) := by decide +kernel
theorem dX5_canBeTwo_26 : decode cX5_canBeTwo 26 = .ok (.aload_n 0, 1) := by decide +kernel
theorem dX5_canBeTwo_27 : decode cX5_canBeTwo 27 = .ok (.getfield 21, 3) := by decide +kernel
theorem dX5_canBeTwo_30 : decode cX5_canBeTwo 30 = .ok (.if_icmp .ge 28, 3) := by decide +kernel
theorem dX5_canBeTwo_33 : decode cX5_canBeTwo 33 = .ok (.iload_n 3, 1) := by decide +kernel
theorem dX5_canBeTwo_34 : decode cX5_canBeTwo 34 = .ok (.aload_n 0, 1) := by decide +kernel
theorem dX5_canBeTwo_35 : decode cX5_canBeTwo 35 = .ok (.getfield 18, 3) := by decide +kernel
theorem dX5_canBeTwo_38 : decode cX5_canBeTwo 38 = .ok (.iload 4, 2) := by decide +kernel
theorem dX5_canBeTwo_40 : decode cX5_canBeTwo 40 = .ok (.iaload, 1) := by decide +kernel
theorem dX5_canBeTwo_41 : decode cX5_canBeTwo 41 = .ok (.aload_n 0, 1) := by decide +kernel
theorem dX5_canBeTwo_42 : decode cX5_canBeTwo 42 = .ok (.aload_n 1, 1) := by decide +kernel
theorem dX5_canBeTwo_43 : decode cX5_canBeTwo 43 = .ok (.iload_n 2, 1) := by decide +kernel
theorem dX5_canBeTwo_44 : decode cX5_canBeTwo 44 = .ok (.iload 4, 2) := by decide +kernel
theorem dX5_canBeTwo_46 : decode cX5_canBeTwo 46 = .ok (.invokevirtual 92, 3) := by decide +kernel
theorem dX5_canBeTwo_49 : decode cX5_canBeTwo 49 = .ok (.imul, 1) := by decide +kernel
theorem dX5_canBeTwo_50 : decode cX5_canBeTwo 50 = .ok (.iadd, 1) := by decide +kernel
theorem dX5_canBeTwo_51 : decode cX5_canBeTwo 51 = .ok (.istore_n 3, 1) := by decide +kernel
theorem dX5_canBeTwo_52 : decode cX5_canBeTwo 52 = .ok (.iinc 4 1, 3) := by decide +kernel
theorem dX5_canBeTwo_55 : decode cX5_canBeTwo 55 = .ok (.goto (-31), 3) := by decide +kernel
theorem dX5_canBeTwo_58 : decode cX5_canBeTwo 58 = .ok (.iload_n 3, 1) := by decide +kernel
theorem dX5_canBeTwo_59 : decode cX5_canBeTwo 59 = .ok (.iconst 1, 1) := by decide +kernel
theorem dX5_canBeTwo_60 : decode cX5_canBeTwo 60 = .ok (.if_icmp .le 7, 3) := by decide +kernel
theorem dX5_canBeTwo_63 : decode cX5_canBeTwo 63 = .ok (.iconst 1, 1) := by decide +kernel
theorem dX5_canBeTwo_64 : decode cX5_canBeTwo 64 = .ok (.goto 4, 3) := by decide +kernel
theorem dX5_canBeTwo_67 : decode cX5_canBeTwo 67 = .ok (.iconst 0, 1) := by decide +kernel
theorem dX5_canBeTwo_68 : decode cX5_canBeTwo 68 = .ok (.ireturn, 1) := by decide +kernel
set_option maxRecDepth 100000 in
def f_X5_canBeTwo_68 (s0 : Int32) (μ : dtM) : Option (Int32 × dtM) :=
  opRet s0 μ
set_option maxRecDepth 100000 in
def f_X5_canBeTwo_24 : Nat → Nat → Nat → Int32 → Int32 → Int32 → dtM → Option (Int32 × dtM)
  | 0, _, _, _, _, _, _ => none
  | n + 1, l0, l1, l2, l3, l4, μ =>
    (opGI 5 1 μ l0).bind fun x1 => if x1 ≤ l4 then (if l3 ≤ (1 : Int32) then (f_X5_canBeTwo_68 (0 : Int32) μ) else (f_X5_canBeTwo_68 (1 : Int32) μ)) else ((opGR 5 3 μ l0).bind fun x9 => (opLI 1 μ x9 l4).bind fun x11 => (opRv 5 μ l0).bind fun _ => opCall (f_X5_countBegun l0 l1 l2 l4 μ) fun x16 μ14 => (some (l3 + (x11 * x16))).bind fun x17 => f_X5_canBeTwo_24 n l0 l1 l2 x17 (l4 + 1) μ14)
set_option maxRecDepth 100000 in
def f_X5_canBeTwo (p0 : Nat) (p1 : Nat) (p2 : Int32) (μ : dtM) : Option (Int32 × dtM) :=
  (opGR 5 3 μ p0).bind fun x1 => (opGI 5 1 μ p0).bind fun x3 => (opLI 1 μ x1 x3).bind fun x5 => (opGI 5 1 μ p0).bind fun x7 => (some (if (0 : Int32) < ((x7 - (4 : Int32)) + (1 : Int32)) then ((x7 - (4 : Int32)) + (1 : Int32)) else (0 : Int32))).bind fun x9 => f_X5_canBeTwo_24 dtFuel p0 p1 p2 x5 x9 μ
set_option maxRecDepth 100000 in
theorem c_X5_canBeTwo_68 {r : Int32} {F : dtM} (s0 : Int32) (μ : dtM) (h : f_X5_canBeTwo_68 s0 μ = some (r, F)) : dtW yX5_canBeTwo cX5_canBeTwo 5 (some .boolean) 4 (some (.int r)) F 68 [] [.int s0] μ := by
  rw [f_X5_canBeTwo_68] at h
  obtain ⟨hz, rfl, rfl⟩ := dtRet h
  exact dr_ireturn dX5_canBeTwo_68 (dtNz hz)
set_option maxRecDepth 100000 in
theorem c_X5_canBeTwo_24 {r : Int32} {F : dtM} : ∀ (n : Nat) (l0 : Nat) (l1 : Nat) (l2 : Int32) (l3 : Int32) (l4 : Int32) (μ : dtM), f_X5_canBeTwo_24 n l0 l1 l2 l3 l4 μ = some (r, F) → dtW yX5_canBeTwo cX5_canBeTwo 5 (some .boolean) 4 (some (.int r)) F 24 [some (.ref l0), some (.ref l1), some (.int l2), some (.int l3), some (.int l4)] [] μ := by
  intro n
  induction n with
  | zero => intro l0 l1 l2 l3 l4 μ h; cases h
  | succ n ih =>
    intro l0 l1 l2 l3 l4 μ h
    have h := (show f_X5_canBeTwo_24 (n + 1) l0 l1 l2 l3 l4 μ = some _ from h)
    rw [f_X5_canBeTwo_24] at h
    refine dr_iload l4 dX5_canBeTwo_24 rfl ?_
    refine dr_aload_n l0 dX5_canBeTwo_26 rfl ?_
    obtain ⟨x1, e2, h⟩ := dtBind h
    refine dr_getI x1 dX5_canBeTwo_27 fl_RX5_21 e2 ?_
    obtain ⟨ht4, hf5⟩ := dtIte h
    refine dr_icmp_ge 58 dX5_canBeTwo_30 (by decide) (fun hc3 => ?_) (fun hc3 => ?_)
    · have h := ht4 hc3
      refine dr_iload_n l3 dX5_canBeTwo_58 rfl ?_
      refine dr_iconst (1 : Int32) dX5_canBeTwo_59 (by decide) ?_
      obtain ⟨ht7, hf8⟩ := dtIte h
      refine dr_icmp_le 67 dX5_canBeTwo_60 (by decide) (fun hc6 => ?_) (fun hc6 => ?_)
      · have h := ht7 hc6
        refine dr_iconst (0 : Int32) dX5_canBeTwo_67 (by decide) ?_
        refine dr_mask [] [] rfl ?_
        exact c_X5_canBeTwo_68 (0 : Int32) μ h
      · have h := hf8 hc6
        refine dr_iconst (1 : Int32) dX5_canBeTwo_63 (by decide) ?_
        refine dr_goto 68 dX5_canBeTwo_64 (by decide) ?_
        refine dr_mask [] [] rfl ?_
        exact c_X5_canBeTwo_68 (1 : Int32) μ h
    · have h := hf5 hc3
      refine dr_iload_n l3 dX5_canBeTwo_33 rfl ?_
      refine dr_aload_n l0 dX5_canBeTwo_34 rfl ?_
      obtain ⟨x9, e10, h⟩ := dtBind h
      refine dr_getR x9 dX5_canBeTwo_35 fl_RX5_18 e10 ?_
      refine dr_iload l4 dX5_canBeTwo_38 rfl ?_
      obtain ⟨x11, e12, h⟩ := dtBind h
      refine dr_iaload x11 dX5_canBeTwo_40 e12 ?_
      refine dr_aload_n l0 dX5_canBeTwo_41 rfl ?_
      refine dr_aload_n l1 dX5_canBeTwo_42 rfl ?_
      refine dr_iload_n l2 dX5_canBeTwo_43 rfl ?_
      refine dr_iload l4 dX5_canBeTwo_44 rfl ?_
      obtain ⟨_, hb13, h⟩ := dtBind h
      obtain ⟨x16, μ14, e15, h⟩ := dtCall h
      refine dr_callV_i (S0 := [.int x11, .int l3]) [.ref l1, .int l2, .int l4] x16 μ14 dX5_canBeTwo_46 (c_X5_countBegun l0 l1 l2 l4 μ e15) mf_X5_countBegun wt_1136 ws_40 wt_1134 rfl (dtRv hb13) (by decide) rfl (Nat.le_of_ble_eq_true rfl) (Nat.le_of_ble_eq_true rfl) rfl ?_
      refine dr_imul dX5_canBeTwo_49 ?_
      refine dr_iadd dX5_canBeTwo_50 ?_
      obtain ⟨x17, e18, h⟩ := dtBind h
      refine dr_nmi e18 ?_
      refine dr_istore_n 3 [some (.ref l0), some (.ref l1), some (.int l2), some (.int x17), some (.int l4)] dX5_canBeTwo_51 rfl rfl rfl rfl ?_
      refine dr_iinc l4 (l4 + 1) [some (.ref l0), some (.ref l1), some (.int l2), some (.int x17), some (.int (l4 + 1))] dX5_canBeTwo_52 rfl rfl rfl rfl rfl ?_
      refine dr_goto 24 dX5_canBeTwo_55 (by decide) ?_
      exact ih l0 l1 l2 x17 (l4 + 1) μ14 h
set_option maxRecDepth 100000 in
theorem c_X5_canBeTwo {r : Int32} {F : dtM} (p0 : Nat) (p1 : Nat) (p2 : Int32) (μ : dtM) (h : f_X5_canBeTwo p0 p1 p2 μ = some (r, F)) : dtMet yX5_canBeTwo cX5_canBeTwo 5 (some .boolean) 4 [.ref p0, .ref p1, .int p2] μ (some (.int r)) F := by
  refine dtMet.of (by decide +kernel) (Nat.le_of_ble_eq_true rfl) (show dtW yX5_canBeTwo cX5_canBeTwo 5 (some .boolean) 4 (some (.int r)) F 0 [some (.ref p0), some (.ref p1), some (.int p2)] [] μ from ?_)
  rw [f_X5_canBeTwo] at h
  refine dr_aload_n p0 dX5_canBeTwo_0 rfl ?_
  obtain ⟨x1, e2, h⟩ := dtBind h
  refine dr_getR x1 dX5_canBeTwo_1 fl_RX5_18 e2 ?_
  refine dr_aload_n p0 dX5_canBeTwo_4 rfl ?_
  obtain ⟨x3, e4, h⟩ := dtBind h
  refine dr_getI x3 dX5_canBeTwo_5 fl_RX5_21 e4 ?_
  obtain ⟨x5, e6, h⟩ := dtBind h
  refine dr_iaload x5 dX5_canBeTwo_8 e6 ?_
  refine dr_istore_n 3 [some (.ref p0), some (.ref p1), some (.int p2), some (.int x5)] dX5_canBeTwo_9 rfl rfl rfl rfl ?_
  refine dr_iconst (0 : Int32) dX5_canBeTwo_10 (by decide) ?_
  refine dr_aload_n p0 dX5_canBeTwo_11 rfl ?_
  obtain ⟨x7, e8, h⟩ := dtBind h
  refine dr_getI x7 dX5_canBeTwo_12 fl_RX5_21 e8 ?_
  refine dr_iconst (4 : Int32) dX5_canBeTwo_15 (by decide) ?_
  refine dr_isub dX5_canBeTwo_16 ?_
  refine dr_iconst (1 : Int32) dX5_canBeTwo_17 (by decide) ?_
  refine dr_iadd dX5_canBeTwo_18 ?_
  refine dr_max dX5_canBeTwo_19 wt_1131 wt_1132 wt_15 wt_1133 (Nat.le_of_ble_eq_true rfl) rfl ?_
  obtain ⟨x9, e10, h⟩ := dtBind h
  refine dr_nmi e10 ?_
  refine dr_istore [some (.ref p0), some (.ref p1), some (.int p2), some (.int x5), some (.int x9)] dX5_canBeTwo_22 rfl rfl rfl ?_
  exact c_X5_canBeTwo_24 dtFuel p0 p1 p2 x5 x9 μ h
/-! X5_countEndings -/
theorem dX5_countEndings_0 : decode cX5_countEndings 0 = .ok (.iconst 0, 1) := by decide +kernel
theorem dX5_countEndings_1 : decode cX5_countEndings 1 = .ok (.istore_n 3, 1) := by decide +kernel
theorem dX5_countEndings_2 : decode cX5_countEndings 2 = .ok (.iconst 0, 1) := by decide +kernel
theorem dX5_countEndings_3 : decode cX5_countEndings 3 = .ok (.istore 4, 2) := by decide +kernel
theorem dX5_countEndings_5 : decode cX5_countEndings 5 = .ok (.iload 4, 2) := by decide +kernel
theorem dX5_countEndings_7 : decode cX5_countEndings 7 = .ok (.aload_n 1, 1) := by decide +kernel
theorem dX5_countEndings_8 : decode cX5_countEndings 8 = .ok (.getfield 47, 3) := by decide +kernel
theorem dX5_countEndings_11 : decode cX5_countEndings 11 = .ok (.if_icmp .ge 54, 3) := by decide +kernel
theorem dX5_countEndings_14 : decode cX5_countEndings 14 = .ok (.aload_n 0, 1) := by decide +kernel
theorem dX5_countEndings_15 : decode cX5_countEndings 15 = .ok (.getfield 21, 3) := by decide +kernel
theorem dX5_countEndings_18 : decode cX5_countEndings 18 = .ok (.aload_n 1, 1) := by decide +kernel
theorem dX5_countEndings_19 : decode cX5_countEndings 19 = .ok (.getfield 25, 3) := by decide +kernel
theorem dX5_countEndings_22 : decode cX5_countEndings 22 = .ok (.iload 4, 2) := by decide +kernel
theorem dX5_countEndings_24 : decode cX5_countEndings 24 = .ok (.iaload, 1) := by decide +kernel
theorem dX5_countEndings_25 : decode cX5_countEndings 25 = .ok (.isub, 1) := by decide +kernel
theorem dX5_countEndings_26 : decode cX5_countEndings 26 = .ok (.istore 5, 2) := by decide +kernel
theorem dX5_countEndings_28 : decode cX5_countEndings 28 = .ok (.iload_n 2, 1) := by decide +kernel
theorem dX5_countEndings_29 : decode cX5_countEndings 29 = .ok (.iload 4, 2) := by decide +kernel
theorem dX5_countEndings_31 : decode cX5_countEndings 31 = .ok (.invokestatic 50, 3) := by decide +kernel
theorem dX5_countEndings_34 : decode cX5_countEndings 34 = .ok (.ifCond .eq 25, 3) := by decide +kernel
theorem dX5_countEndings_37 : decode cX5_countEndings 37 = .ok (.aload_n 0, 1) := by decide +kernel
theorem dX5_countEndings_38 : decode cX5_countEndings 38 = .ok (.aload_n 1, 1) := by decide +kernel
theorem dX5_countEndings_39 : decode cX5_countEndings 39 = .ok (.iload 4, 2) := by decide +kernel
theorem dX5_countEndings_41 : decode cX5_countEndings 41 = .ok (.iload 5, 2) := by decide +kernel
theorem dX5_countEndings_43 : decode cX5_countEndings 43 = .ok (.invokevirtual 54, 3) := by decide +kernel
theorem dX5_countEndings_46 : decode cX5_countEndings 46 = .ok (.ifCond .eq 13, 3) := by decide +kernel
theorem dX5_countEndings_49 : decode cX5_countEndings 49 = .ok (.iload_n 3, 1) := by decide +kernel
theorem dX5_countEndings_50 : decode cX5_countEndings 50 = .ok (.aload_n 0, 1) := by decide +kernel
theorem dX5_countEndings_51 : decode cX5_countEndings 51 = .ok (.getfield 18, 3) := by decide +kernel
theorem dX5_countEndings_54 : decode cX5_countEndings 54 = .ok (.iload 5, 2) := by decide +kernel
theorem dX5_countEndings_56 : decode cX5_countEndings 56 = .ok (.iaload, 1) := by decide +kernel
theorem dX5_countEndings_57 : decode cX5_countEndings 57 = .ok (.iadd, 1) := by decide +kernel
theorem dX5_countEndings_58 : decode cX5_countEndings 58 = .ok (.istore_n 3, 1) := by decide +kernel
theorem dX5_countEndings_59 : decode cX5_countEndings 59 = .ok (.iinc 4 1, 3) := by decide +kernel
theorem dX5_countEndings_62 : decode cX5_countEndings 62 = .ok (.goto (-57), 3) := by decide +kernel
theorem dX5_countEndings_65 : decode cX5_countEndings 65 = .ok (.iload_n 3, 1) := by decide +kernel
theorem dX5_countEndings_66 : decode cX5_countEndings 66 = .ok (.ireturn, 1) := by decide +kernel
set_option maxRecDepth 100000 in
def f_X5_countEndings_59 (k5 : Nat → Nat → Int32 → Int32 → Int32 → dtM → Option (Int32 × dtM)) (l0 : Nat) (l1 : Nat) (l2 : Int32) (l3 : Int32) (l4 : Int32) (μ : dtM) : Option (Int32 × dtM) :=
  k5 l0 l1 l2 l3 (l4 + 1) μ
set_option maxRecDepth 100000 in
def f_X5_countEndings_5 : Nat → Nat → Nat → Int32 → Int32 → Int32 → dtM → Option (Int32 × dtM)
  | 0, _, _, _, _, _, _ => none
  | n + 1, l0, l1, l2, l3, l4, μ =>
    (opGI 3 2 μ l1).bind fun x1 => if x1 ≤ l4 then (some (l3, μ)) else ((opGI 5 1 μ l0).bind fun x6 => (opGR 3 12 μ l1).bind fun x8 => (opLI 1 μ x8 l4).bind fun x10 => (some (x6 - x10)).bind fun x12 => opCall (f_X11_contains l2 l4 μ) fun x16 μ14 => if x16 = 0 then (f_X5_countEndings_59 (f_X5_countEndings_5 n) l0 l1 l2 l3 l4 μ14) else ((opRv 5 μ14 l0).bind fun _ => opCall (f_X5_fits l0 l1 l4 x12 μ14) fun x23 μ21 => if x23 = 0 then (f_X5_countEndings_59 (f_X5_countEndings_5 n) l0 l1 l2 l3 l4 μ21) else ((opGR 5 3 μ21 l0).bind fun x27 => (opLI 1 μ21 x27 x12).bind fun x29 => (some (l3 + x29)).bind fun x31 => f_X5_countEndings_59 (f_X5_countEndings_5 n) l0 l1 l2 x31 l4 μ21)))
set_option maxRecDepth 100000 in
def f_X5_countEndings (p0 : Nat) (p1 : Nat) (p2 : Int32) (μ : dtM) : Option (Int32 × dtM) :=
  f_X5_countEndings_5 dtFuel p0 p1 p2 (0 : Int32) (0 : Int32) μ
set_option maxRecDepth 100000 in
theorem c_X5_countEndings_59 {r : Int32} {F : dtM} (k5 : Nat → Nat → Int32 → Int32 → Int32 → dtM → Option (Int32 × dtM)) (hk5 : ∀ (l0 : Nat) (l1 : Nat) (l2 : Int32) (l3 : Int32) (l4 : Int32) (μ : dtM), k5 l0 l1 l2 l3 l4 μ = some (r, F) → dtW yX5_countEndings cX5_countEndings 6 (some .int) 4 (some (.int r)) F 5 [some (.ref l0), some (.ref l1), some (.int l2), some (.int l3), some (.int l4)] [] μ) (l0 : Nat) (l1 : Nat) (l2 : Int32) (l3 : Int32) (l4 : Int32) (μ : dtM) (h : f_X5_countEndings_59 k5 l0 l1 l2 l3 l4 μ = some (r, F)) : dtW yX5_countEndings cX5_countEndings 6 (some .int) 4 (some (.int r)) F 59 [some (.ref l0), some (.ref l1), some (.int l2), some (.int l3), some (.int l4)] [] μ := by
  rw [f_X5_countEndings_59] at h
  refine dr_iinc l4 (l4 + 1) [some (.ref l0), some (.ref l1), some (.int l2), some (.int l3), some (.int (l4 + 1))] dX5_countEndings_59 rfl rfl rfl rfl rfl ?_
  refine dr_goto 5 dX5_countEndings_62 (by decide) ?_
  exact hk5 l0 l1 l2 l3 (l4 + 1) μ h
set_option maxRecDepth 100000 in
theorem c_X5_countEndings_5 {r : Int32} {F : dtM} : ∀ (n : Nat) (l0 : Nat) (l1 : Nat) (l2 : Int32) (l3 : Int32) (l4 : Int32) (μ : dtM), f_X5_countEndings_5 n l0 l1 l2 l3 l4 μ = some (r, F) → dtW yX5_countEndings cX5_countEndings 6 (some .int) 4 (some (.int r)) F 5 [some (.ref l0), some (.ref l1), some (.int l2), some (.int l3), some (.int l4)] [] μ := by
  intro n
  induction n with
  | zero => intro l0 l1 l2 l3 l4 μ h; cases h
  | succ n ih =>
    intro l0 l1 l2 l3 l4 μ h
    have h := (show f_X5_countEndings_5 (n + 1) l0 l1 l2 l3 l4 μ = some _ from h)
    rw [f_X5_countEndings_5] at h
    refine dr_iload l4 dX5_countEndings_5 rfl ?_
    refine dr_aload_n l1 dX5_countEndings_7 rfl ?_
    obtain ⟨x1, e2, h⟩ := dtBind h
    refine dr_getI x1 dX5_countEndings_8 fl_RX5_47 e2 ?_
    obtain ⟨ht4, hf5⟩ := dtIte h
    refine dr_icmp_ge 65 dX5_countEndings_11 (by decide) (fun hc3 => ?_) (fun hc3 => ?_)
    · have h := ht4 hc3
      refine dr_iload_n l3 dX5_countEndings_65 rfl ?_
      cases h
      exact dr_ireturn dX5_countEndings_66 rfl
    · have h := hf5 hc3
      refine dr_aload_n l0 dX5_countEndings_14 rfl ?_
      obtain ⟨x6, e7, h⟩ := dtBind h
      refine dr_getI x6 dX5_countEndings_15 fl_RX5_21 e7 ?_
      refine dr_aload_n l1 dX5_countEndings_18 rfl ?_
      obtain ⟨x8, e9, h⟩ := dtBind h
      refine dr_getR x8 dX5_countEndings_19 fl_RX5_25 e9 ?_
      refine dr_iload l4 dX5_countEndings_22 rfl ?_
      obtain ⟨x10, e11, h⟩ := dtBind h
      refine dr_iaload x10 dX5_countEndings_24 e11 ?_
      refine dr_isub dX5_countEndings_25 ?_
      obtain ⟨x12, e13, h⟩ := dtBind h
      refine dr_nmi e13 ?_
      refine dr_istore [some (.ref l0), some (.ref l1), some (.int l2), some (.int l3), some (.int l4), some (.int x12)] dX5_countEndings_26 rfl rfl rfl ?_
      refine dr_iload_n l2 dX5_countEndings_28 rfl ?_
      refine dr_iload l4 dX5_countEndings_29 rfl ?_
      obtain ⟨x16, μ14, e15, h⟩ := dtCall h
      refine dr_callSN_i (S0 := []) [.int l2, .int l4] x16 μ14 dX5_countEndings_31 (c_X11_contains l2 l4 μ e15) mf_X11_contains wt_748 wn_1065 rfl (Nat.le_of_ble_eq_true rfl) (Nat.le_of_ble_eq_true rfl) rfl ?_
      obtain ⟨ht18, hf19⟩ := dtIte h
      refine dr_if_eq 59 dX5_countEndings_34 (by decide) (fun hc17 => ?_) (fun hc17 => ?_)
      · have h := ht18 hc17
        refine dr_mask [true, true, true, true, true] [some (.ref l0), some (.ref l1), some (.int l2), some (.int l3), some (.int l4)] rfl ?_
        exact c_X5_countEndings_59 (f_X5_countEndings_5 n) ih l0 l1 l2 l3 l4 μ14 h
      · have h := hf19 hc17
        refine dr_aload_n l0 dX5_countEndings_37 rfl ?_
        refine dr_aload_n l1 dX5_countEndings_38 rfl ?_
        refine dr_iload l4 dX5_countEndings_39 rfl ?_
        refine dr_iload x12 dX5_countEndings_41 rfl ?_
        obtain ⟨_, hb20, h⟩ := dtBind h
        obtain ⟨x23, μ21, e22, h⟩ := dtCall h
        refine dr_callV_i (S0 := []) [.ref l1, .int l4, .int x12] x23 μ21 dX5_countEndings_43 (c_X5_fits l0 l1 l4 x12 μ14 e22) mf_X5_fits wt_1068 ws_34 wt_1066 rfl (dtRv hb20) (by decide) rfl (Nat.le_of_ble_eq_true rfl) (Nat.le_of_ble_eq_true rfl) rfl ?_
        obtain ⟨ht25, hf26⟩ := dtIte h
        refine dr_if_eq 59 dX5_countEndings_46 (by decide) (fun hc24 => ?_) (fun hc24 => ?_)
        · have h := ht25 hc24
          refine dr_mask [true, true, true, true, true] [some (.ref l0), some (.ref l1), some (.int l2), some (.int l3), some (.int l4)] rfl ?_
          exact c_X5_countEndings_59 (f_X5_countEndings_5 n) ih l0 l1 l2 l3 l4 μ21 h
        · have h := hf26 hc24
          refine dr_iload_n l3 dX5_countEndings_49 rfl ?_
          refine dr_aload_n l0 dX5_countEndings_50 rfl ?_
          obtain ⟨x27, e28, h⟩ := dtBind h
          refine dr_getR x27 dX5_countEndings_51 fl_RX5_18 e28 ?_
          refine dr_iload x12 dX5_countEndings_54 rfl ?_
          obtain ⟨x29, e30, h⟩ := dtBind h
          refine dr_iaload x29 dX5_countEndings_56 e30 ?_
          refine dr_iadd dX5_countEndings_57 ?_
          obtain ⟨x31, e32, h⟩ := dtBind h
          refine dr_nmi e32 ?_
          refine dr_istore_n 3 [some (.ref l0), some (.ref l1), some (.int l2), some (.int x31), some (.int l4), some (.int x12)] dX5_countEndings_58 rfl rfl rfl rfl ?_
          refine dr_mask [true, true, true, true, true] [some (.ref l0), some (.ref l1), some (.int l2), some (.int x31), some (.int l4)] rfl ?_
          exact c_X5_countEndings_59 (f_X5_countEndings_5 n) ih l0 l1 l2 x31 l4 μ21 h
set_option maxRecDepth 100000 in
theorem c_X5_countEndings {r : Int32} {F : dtM} (p0 : Nat) (p1 : Nat) (p2 : Int32) (μ : dtM) (h : f_X5_countEndings p0 p1 p2 μ = some (r, F)) : dtMet yX5_countEndings cX5_countEndings 6 (some .int) 4 [.ref p0, .ref p1, .int p2] μ (some (.int r)) F := by
  refine dtMet.of (by decide +kernel) (Nat.le_of_ble_eq_true rfl) (show dtW yX5_countEndings cX5_countEndings 6 (some .int) 4 (some (.int r)) F 0 [some (.ref p0), some (.ref p1), some (.int p2)] [] μ from ?_)
  rw [f_X5_countEndings] at h
  refine dr_iconst (0 : Int32) dX5_countEndings_0 (by decide) ?_
  refine dr_istore_n 3 [some (.ref p0), some (.ref p1), some (.int p2), some (.int (0 : Int32))] dX5_countEndings_1 rfl rfl rfl rfl ?_
  refine dr_iconst (0 : Int32) dX5_countEndings_2 (by decide) ?_
  refine dr_istore [some (.ref p0), some (.ref p1), some (.int p2), some (.int (0 : Int32)), some (.int (0 : Int32))] dX5_countEndings_3 rfl rfl rfl ?_
  exact c_X5_countEndings_5 dtFuel p0 p1 p2 (0 : Int32) (0 : Int32) μ h
/-! X5_extendToDoubt -/
theorem dX5_extendToDoubt_0 : decode cX5_extendToDoubt 0 = .ok (.iload_n 3, 1) := by decide +kernel
theorem dX5_extendToDoubt_1 : decode cX5_extendToDoubt 1 = .ok (.iload 4, 2) := by decide +kernel
theorem dX5_extendToDoubt_3 : decode cX5_extendToDoubt 3 = .ok (.if_icmp .lt 19, 3) := by decide +kernel
theorem dX5_extendToDoubt_6 : decode cX5_extendToDoubt 6 = .ok (.aload_n 0, 1) := by decide +kernel
theorem dX5_extendToDoubt_7 : decode cX5_extendToDoubt 7 = .ok (.getfield 18, 3) := by decide +kernel
theorem dX5_extendToDoubt_10 : decode cX5_extendToDoubt 10 = .ok (.iload_n 3, 1) := by decide +kernel
theorem dX5_extendToDoubt_11 : decode cX5_extendToDoubt 11 = .ok (.iaload, 1) := by decide +kernel
theorem dX5_extendToDoubt_12 : decode cX5_extendToDoubt 12 = .ok (.iconst 1, 1) := by decide +kernel
theorem dX5_extendToDoubt_13 : decode cX5_extendToDoubt 13 = .ok (.if_icmp .le 7, 3) := by decide +kernel
theorem dX5_extendToDoubt_16 : decode cX5_extendToDoubt 16 = .ok (.iconst 1, 1) := by decide +kernel
theorem dX5_extendToDoubt_17 : decode cX5_extendToDoubt 17 = .ok (.goto 4, 3) := by decide +kernel
theorem dX5_extendToDoubt_20 : decode cX5_extendToDoubt 20 = .ok (.iconst 0, 1) := by decide +kernel
theorem dX5_extendToDoubt_21 : decode cX5_extendToDoubt 21 = .ok (.ireturn, 1) := by decide +kernel
theorem dX5_extendToDoubt_22 : decode cX5_extendToDoubt 22 = .ok (.iconst 0, 1) := by decide +kernel
theorem dX5_extendToDoubt_23 : decode cX5_extendToDoubt 23 = .ok (.istore 5, 2) := by decide +kernel
theorem dX5_extendToDoubt_25 : decode cX5_extendToDoubt 25 = .ok (.iload 5, 2) := by decide +kernel
theorem dX5_extendToDoubt_27 : decode cX5_extendToDoubt 27 = .ok (.iconst 4, 1) := by decide +kernel
theorem dX5_extendToDoubt_28 : decode cX5_extendToDoubt 28 = .ok (.if_icmp .ge 64, 3) := by decide +kernel
theorem dX5_extendToDoubt_31 : decode cX5_extendToDoubt 31 = .ok (.aload_n 0, 1) := by decide +kernel
theorem dX5_extendToDoubt_32 : decode cX5_extendToDoubt 32 = .ok (.getfield 9, 3) := by decide +kernel
theorem dX5_extendToDoubt_35 : decode cX5_extendToDoubt 35 = .ok (.iload_n 3, 1) := by decide +kernel
theorem dX5_extendToDoubt_36 : decode cX5_extendToDoubt 36 = .ok (.iload 5, 2) := by decide +kernel
theorem dX5_extendToDoubt_38 : decode cX5_extendToDoubt 38 = .ok (.iastore, 1) := by decide +kernel
theorem dX5_extendToDoubt_39 : decode cX5_extendToDoubt 39 = .ok (.aload_n 0, 1) := by decide +kernel
theorem dX5_extendToDoubt_40 : decode cX5_extendToDoubt 40 = .ok (.iload_n 3, 1) := by decide +kernel
theorem dX5_extendToDoubt_41 : decode cX5_extendToDoubt 41 = .ok (.iconst 1, 1) := by decide +kernel
theorem dX5_extendToDoubt_42 : decode cX5_extendToDoubt 42 = .ok (.iadd, 1) := by decide +kernel
theorem dX5_extendToDoubt_43 : decode cX5_extendToDoubt 43 = .ok (.putfield 21, 3) := by decide +kernel
theorem dX5_extendToDoubt_46 : decode cX5_extendToDoubt 46 = .ok (.aload_n 0, 1) := by decide +kernel
theorem dX5_extendToDoubt_47 : decode cX5_extendToDoubt 47 = .ok (.getfield 18, 3) := by decide +kernel
theorem dX5_extendToDoubt_50 : decode cX5_extendToDoubt 50 = .ok (.aload_n 0, 1) := by decide +kernel
theorem dX5_extendToDoubt_51 : decode cX5_extendToDoubt 51 = .ok (.getfield 21, 3) := by decide +kernel
theorem dX5_extendToDoubt_54 : decode cX5_extendToDoubt 54 = .ok (.aload_n 0, 1) := by decide +kernel
theorem dX5_extendToDoubt_55 : decode cX5_extendToDoubt 55 = .ok (.aload_n 1, 1) := by decide +kernel
theorem dX5_extendToDoubt_56 : decode cX5_extendToDoubt 56 = .ok (.iload_n 2, 1) := by decide +kernel
theorem dX5_extendToDoubt_57 : decode cX5_extendToDoubt 57 = .ok (.invokevirtual 80, 3) := by decide +kernel
theorem dX5_extendToDoubt_60 : decode cX5_extendToDoubt 60 = .ok (.iastore, 1) := by decide +kernel
theorem dX5_extendToDoubt_61 : decode cX5_extendToDoubt 61 = .ok (.aload_n 0, 1) := by decide +kernel
theorem dX5_extendToDoubt_62 : decode cX5_extendToDoubt 62 = .ok (.aload_n 1, 1) := by decide +kernel
theorem dX5_extendToDoubt_63 : decode cX5_extendToDoubt 63 = .ok (.iload_n 2, 1) := by decide +kernel
theorem dX5_extendToDoubt_64 : decode cX5_extendToDoubt 64 = .ok (.invokevirtual 83, 3) := by decide +kernel
theorem dX5_extendToDoubt_67 : decode cX5_extendToDoubt 67 = .ok (.ifCond .eq 19, 3) := by decide +kernel
theorem dX5_extendToDoubt_70 : decode cX5_extendToDoubt 70 = .ok (.aload_n 0, 1) := by decide +kernel
theorem dX5_extendToDoubt_71 : decode cX5_extendToDoubt 71 = .ok (.aload_n 1, 1) := by decide +kernel
theorem dX5_extendToDoubt_72 : decode cX5_extendToDoubt 72 = .ok (.iload_n 2, 1) := by decide +kernel
theorem dX5_extendToDoubt_73 : decode cX5_extendToDoubt 73 = .ok (.iload_n 3, 1) := by decide +kernel
theorem dX5_extendToDoubt_74 : decode cX5_extendToDoubt 74 = .ok (.iconst 1, 1) := by decide +kernel
theorem dX5_extendToDoubt_75 : decode cX5_extendToDoubt 75 = .ok (.iadd, 1) := by decide +kernel
theorem dX5_extendToDoubt_76 : decode cX5_extendToDoubt 76 = .ok (.iload 4, 2) := by decide +kernel
theorem dX5_extendToDoubt_78 : decode cX5_extendToDoubt 78 = .ok (.invokevirtual 77, 3) := by decide +kernel
theorem dX5_extendToDoubt_81 : decode cX5_extendToDoubt 81 = .ok (.ifCond .eq 5, 3) := by decide +kernel
theorem dX5_extendToDoubt_84 : decode cX5_extendToDoubt 84 = .ok (.iconst 1, 1) := by decide +kernel
theorem dX5_extendToDoubt_85 : decode cX5_extendToDoubt 85 = .ok (.ireturn, 1) := by decide +kernel
theorem dX5_extendToDoubt_86 : decode cX5_extendToDoubt 86 = .ok (.iinc 5 1, 3) := by decide +kernel
theorem dX5_extendToDoubt_89 : decode cX5_extendToDoubt 89 = .ok (.goto (-64), 3) := by decide +kernel
theorem dX5_extendToDoubt_92 : decode cX5_extendToDoubt 92 = .ok (.iconst 0, 1) := by decide +kernel
theorem dX5_extendToDoubt_93 : decode cX5_extendToDoubt 93 = .ok (.ireturn, 1) := by decide +kernel
set_option maxRecDepth 100000 in
def f_X5_extendToDoubt_86 (rec : Nat → Nat → Int32 → Int32 → Int32 → dtM → Option (Int32 × dtM)) (k25 : Nat → Nat → Int32 → Int32 → Int32 → Int32 → dtM → Option (Int32 × dtM)) (l0 : Nat) (l1 : Nat) (l2 : Int32) (l3 : Int32) (l4 : Int32) (l5 : Int32) (μ : dtM) : Option (Int32 × dtM) :=
  k25 l0 l1 l2 l3 l4 (l5 + 1) μ
set_option maxRecDepth 100000 in
def f_X5_extendToDoubt_25 (rec : Nat → Nat → Int32 → Int32 → Int32 → dtM → Option (Int32 × dtM)) : Nat → Nat → Nat → Int32 → Int32 → Int32 → Int32 → dtM → Option (Int32 × dtM)
  | 0, _, _, _, _, _, _, _ => none
  | n + 1, l0, l1, l2, l3, l4, l5, μ =>
    if (4 : Int32) ≤ l5 then (opRet (0 : Int32) μ) else ((opGR 5 0 μ l0).bind fun x4 => (opSI μ x4 l3 l5).bind fun μ6 => (opPI 5 1 μ6 l0 (l3 + (1 : Int32))).bind fun μ8 => (opGR 5 3 μ8 l0).bind fun x10 => (opGI 5 1 μ8 l0).bind fun x12 => (opRv 5 μ8 l0).bind fun _ => opCall (f_X5_countEndings l0 l1 l2 μ8) fun x17 μ15 => (opSI μ15 x10 x12 x17).bind fun μ18 => (opRv 5 μ18 l0).bind fun _ => opCall (f_X5_canBeTwo l0 l1 l2 μ18) fun x23 μ21 => if x23 = 0 then (f_X5_extendToDoubt_86 rec (f_X5_extendToDoubt_25 rec n) l0 l1 l2 l3 l4 l5 μ21) else ((opRv 5 μ21 l0).bind fun _ => opCall (rec l0 l1 l2 (l3 + (1 : Int32)) l4 μ21) fun x30 μ28 => if x30 = 0 then (f_X5_extendToDoubt_86 rec (f_X5_extendToDoubt_25 rec n) l0 l1 l2 l3 l4 l5 μ28) else (opRet (1 : Int32) μ28)))
set_option maxRecDepth 100000 in
def f_X5_extendToDoubt_21 (rec : Nat → Nat → Int32 → Int32 → Int32 → dtM → Option (Int32 × dtM)) (s0 : Int32) (μ : dtM) : Option (Int32 × dtM) :=
  opRet s0 μ
set_option maxRecDepth 100000 in
def f_X5_extendToDoubt_b (rec : Nat → Nat → Int32 → Int32 → Int32 → dtM → Option (Int32 × dtM)) (p0 : Nat) (p1 : Nat) (p2 : Int32) (p3 : Int32) (p4 : Int32) (μ : dtM) : Option (Int32 × dtM) :=
  if p3 < p4 then (f_X5_extendToDoubt_25 rec dtFuel p0 p1 p2 p3 p4 (0 : Int32) μ) else ((opGR 5 3 μ p0).bind fun x4 => (opLI 1 μ x4 p3).bind fun x6 => if x6 ≤ (1 : Int32) then (f_X5_extendToDoubt_21 rec (0 : Int32) μ) else (f_X5_extendToDoubt_21 rec (1 : Int32) μ))
def f_X5_extendToDoubt : Nat → Nat → Nat → Int32 → Int32 → Int32 → dtM → Option (Int32 × dtM)
  | 0, _, _, _, _, _, _ => none
  | n + 1, p0, p1, p2, p3, p4, μ => f_X5_extendToDoubt_b (f_X5_extendToDoubt n) p0 p1 p2 p3 p4 μ
set_option maxRecDepth 100000 in
theorem c_X5_extendToDoubt_86 {r : Int32} {F : dtM} (rec : Nat → Nat → Int32 → Int32 → Int32 → dtM → Option (Int32 × dtM)) {dn : Nat} (hrec : ∀ (p0 : Nat) (p1 : Nat) (p2 : Int32) (p3 : Int32) (p4 : Int32) (μ : dtM) (r : Int32) (F : dtM), rec p0 p1 p2 p3 p4 μ = some (r, F) → dtMet yX5_extendToDoubt cX5_extendToDoubt 6 (some .boolean) (5 + dn) [.ref p0, .ref p1, .int p2, .int p3, .int p4] μ (some (.int r)) F) (k25 : Nat → Nat → Int32 → Int32 → Int32 → Int32 → dtM → Option (Int32 × dtM)) (hk25 : ∀ (l0 : Nat) (l1 : Nat) (l2 : Int32) (l3 : Int32) (l4 : Int32) (l5 : Int32) (μ : dtM), k25 l0 l1 l2 l3 l4 l5 μ = some (r, F) → dtW yX5_extendToDoubt cX5_extendToDoubt 6 (some .boolean) (6 + dn) (some (.int r)) F 25 [some (.ref l0), some (.ref l1), some (.int l2), some (.int l3), some (.int l4), some (.int l5)] [] μ) (l0 : Nat) (l1 : Nat) (l2 : Int32) (l3 : Int32) (l4 : Int32) (l5 : Int32) (μ : dtM) (h : f_X5_extendToDoubt_86 rec k25 l0 l1 l2 l3 l4 l5 μ = some (r, F)) : dtW yX5_extendToDoubt cX5_extendToDoubt 6 (some .boolean) (6 + dn) (some (.int r)) F 86 [some (.ref l0), some (.ref l1), some (.int l2), some (.int l3), some (.int l4), some (.int l5)] [] μ := by
  rw [f_X5_extendToDoubt_86] at h
  refine dr_iinc l5 (l5 + 1) [some (.ref l0), some (.ref l1), some (.int l2), some (.int l3), some (.int l4), some (.int (l5 + 1))] dX5_extendToDoubt_86 rfl rfl rfl rfl rfl ?_
  refine dr_goto 25 dX5_extendToDoubt_89 (by decide) ?_
  exact hk25 l0 l1 l2 l3 l4 (l5 + 1) μ h
set_option maxRecDepth 100000 in
theorem c_X5_extendToDoubt_25 {r : Int32} {F : dtM} (rec : Nat → Nat → Int32 → Int32 → Int32 → dtM → Option (Int32 × dtM)) {dn : Nat} (hrec : ∀ (p0 : Nat) (p1 : Nat) (p2 : Int32) (p3 : Int32) (p4 : Int32) (μ : dtM) (r : Int32) (F : dtM), rec p0 p1 p2 p3 p4 μ = some (r, F) → dtMet yX5_extendToDoubt cX5_extendToDoubt 6 (some .boolean) (5 + dn) [.ref p0, .ref p1, .int p2, .int p3, .int p4] μ (some (.int r)) F) : ∀ (n : Nat) (l0 : Nat) (l1 : Nat) (l2 : Int32) (l3 : Int32) (l4 : Int32) (l5 : Int32) (μ : dtM), f_X5_extendToDoubt_25 rec n l0 l1 l2 l3 l4 l5 μ = some (r, F) → dtW yX5_extendToDoubt cX5_extendToDoubt 6 (some .boolean) (6 + dn) (some (.int r)) F 25 [some (.ref l0), some (.ref l1), some (.int l2), some (.int l3), some (.int l4), some (.int l5)] [] μ := by
  intro n
  induction n with
  | zero => intro l0 l1 l2 l3 l4 l5 μ h; cases h
  | succ n ih =>
    intro l0 l1 l2 l3 l4 l5 μ h
    have h := (show f_X5_extendToDoubt_25 rec (n + 1) l0 l1 l2 l3 l4 l5 μ = some _ from h)
    rw [f_X5_extendToDoubt_25] at h
    refine dr_iload l5 dX5_extendToDoubt_25 rfl ?_
    refine dr_iconst (4 : Int32) dX5_extendToDoubt_27 (by decide) ?_
    obtain ⟨ht2, hf3⟩ := dtIte h
    refine dr_icmp_ge 92 dX5_extendToDoubt_28 (by decide) (fun hc1 => ?_) (fun hc1 => ?_)
    · have h := ht2 hc1
      refine dr_iconst (0 : Int32) dX5_extendToDoubt_92 (by decide) ?_
      obtain ⟨hz, rfl, rfl⟩ := dtRet h
      exact dr_ireturn dX5_extendToDoubt_93 (dtNz hz)
    · have h := hf3 hc1
      refine dr_aload_n l0 dX5_extendToDoubt_31 rfl ?_
      obtain ⟨x4, e5, h⟩ := dtBind h
      refine dr_getR x4 dX5_extendToDoubt_32 fl_RX5_9 e5 ?_
      refine dr_iload_n l3 dX5_extendToDoubt_35 rfl ?_
      refine dr_iload l5 dX5_extendToDoubt_36 rfl ?_
      obtain ⟨μ6, e7, h⟩ := dtBind h
      refine dr_iastore μ6 dX5_extendToDoubt_38 e7 ?_
      refine dr_aload_n l0 dX5_extendToDoubt_39 rfl ?_
      refine dr_iload_n l3 dX5_extendToDoubt_40 rfl ?_
      refine dr_iconst (1 : Int32) dX5_extendToDoubt_41 (by decide) ?_
      refine dr_iadd dX5_extendToDoubt_42 ?_
      obtain ⟨μ8, e9, h⟩ := dtBind h
      refine dr_putI μ8 dX5_extendToDoubt_43 fl_RX5_21 rfl e9 ?_
      refine dr_aload_n l0 dX5_extendToDoubt_46 rfl ?_
      obtain ⟨x10, e11, h⟩ := dtBind h
      refine dr_getR x10 dX5_extendToDoubt_47 fl_RX5_18 e11 ?_
      refine dr_aload_n l0 dX5_extendToDoubt_50 rfl ?_
      obtain ⟨x12, e13, h⟩ := dtBind h
      refine dr_getI x12 dX5_extendToDoubt_51 fl_RX5_21 e13 ?_
      refine dr_aload_n l0 dX5_extendToDoubt_54 rfl ?_
      refine dr_aload_n l1 dX5_extendToDoubt_55 rfl ?_
      refine dr_iload_n l2 dX5_extendToDoubt_56 rfl ?_
      obtain ⟨_, hb14, h⟩ := dtBind h
      obtain ⟨x17, μ15, e16, h⟩ := dtCall h
      refine dr_callV_i (S0 := [.int x12, .ref x10]) [.ref l1, .int l2] x17 μ15 dX5_extendToDoubt_57 (c_X5_countEndings l0 l1 l2 μ8 e16) mf_X5_countEndings wt_1125 ws_38 wt_1123 rfl (dtRv hb14) (by decide) rfl (by omega) (Nat.le_of_ble_eq_true rfl) rfl ?_
      obtain ⟨μ18, e19, h⟩ := dtBind h
      refine dr_iastore μ18 dX5_extendToDoubt_60 e19 ?_
      refine dr_aload_n l0 dX5_extendToDoubt_61 rfl ?_
      refine dr_aload_n l1 dX5_extendToDoubt_62 rfl ?_
      refine dr_iload_n l2 dX5_extendToDoubt_63 rfl ?_
      obtain ⟨_, hb20, h⟩ := dtBind h
      obtain ⟨x23, μ21, e22, h⟩ := dtCall h
      refine dr_callV_i (S0 := []) [.ref l1, .int l2] x23 μ21 dX5_extendToDoubt_64 (c_X5_canBeTwo l0 l1 l2 μ18 e22) mf_X5_canBeTwo wt_1129 ws_39 wt_1127 rfl (dtRv hb20) (by decide) rfl (by omega) (Nat.le_of_ble_eq_true rfl) rfl ?_
      obtain ⟨ht25, hf26⟩ := dtIte h
      refine dr_if_eq 86 dX5_extendToDoubt_67 (by decide) (fun hc24 => ?_) (fun hc24 => ?_)
      · have h := ht25 hc24
        exact c_X5_extendToDoubt_86 rec hrec (f_X5_extendToDoubt_25 rec n) ih l0 l1 l2 l3 l4 l5 μ21 h
      · have h := hf26 hc24
        refine dr_aload_n l0 dX5_extendToDoubt_70 rfl ?_
        refine dr_aload_n l1 dX5_extendToDoubt_71 rfl ?_
        refine dr_iload_n l2 dX5_extendToDoubt_72 rfl ?_
        refine dr_iload_n l3 dX5_extendToDoubt_73 rfl ?_
        refine dr_iconst (1 : Int32) dX5_extendToDoubt_74 (by decide) ?_
        refine dr_iadd dX5_extendToDoubt_75 ?_
        refine dr_iload l4 dX5_extendToDoubt_76 rfl ?_
        obtain ⟨_, hb27, h⟩ := dtBind h
        obtain ⟨x30, μ28, e29, h⟩ := dtCall h
        refine dr_callV_i (S0 := []) [.ref l1, .int l2, .int (l3 + (1 : Int32)), .int l4] x30 μ28 dX5_extendToDoubt_78 (hrec l0 l1 l2 (l3 + (1 : Int32)) l4 μ21 x30 μ28 e29) mf_X5_extendToDoubt wt_1121 ws_37 wt_1119 rfl (dtRv hb27) (by decide) rfl (by omega) (Nat.le_of_ble_eq_true rfl) rfl ?_
        obtain ⟨ht32, hf33⟩ := dtIte h
        refine dr_if_eq 86 dX5_extendToDoubt_81 (by decide) (fun hc31 => ?_) (fun hc31 => ?_)
        · have h := ht32 hc31
          exact c_X5_extendToDoubt_86 rec hrec (f_X5_extendToDoubt_25 rec n) ih l0 l1 l2 l3 l4 l5 μ28 h
        · have h := hf33 hc31
          refine dr_iconst (1 : Int32) dX5_extendToDoubt_84 (by decide) ?_
          obtain ⟨hz, rfl, rfl⟩ := dtRet h
          exact dr_ireturn dX5_extendToDoubt_85 (dtNz hz)
set_option maxRecDepth 100000 in
theorem c_X5_extendToDoubt_21 {r : Int32} {F : dtM} (rec : Nat → Nat → Int32 → Int32 → Int32 → dtM → Option (Int32 × dtM)) {dn : Nat} (hrec : ∀ (p0 : Nat) (p1 : Nat) (p2 : Int32) (p3 : Int32) (p4 : Int32) (μ : dtM) (r : Int32) (F : dtM), rec p0 p1 p2 p3 p4 μ = some (r, F) → dtMet yX5_extendToDoubt cX5_extendToDoubt 6 (some .boolean) (5 + dn) [.ref p0, .ref p1, .int p2, .int p3, .int p4] μ (some (.int r)) F) (s0 : Int32) (μ : dtM) (h : f_X5_extendToDoubt_21 rec s0 μ = some (r, F)) : dtW yX5_extendToDoubt cX5_extendToDoubt 6 (some .boolean) (6 + dn) (some (.int r)) F 21 [] [.int s0] μ := by
  rw [f_X5_extendToDoubt_21] at h
  obtain ⟨hz, rfl, rfl⟩ := dtRet h
  exact dr_ireturn dX5_extendToDoubt_21 (dtNz hz)
set_option maxRecDepth 100000 in
theorem c_X5_extendToDoubt_b {r : Int32} {F : dtM} (rec : Nat → Nat → Int32 → Int32 → Int32 → dtM → Option (Int32 × dtM)) {dn : Nat} (hrec : ∀ (p0 : Nat) (p1 : Nat) (p2 : Int32) (p3 : Int32) (p4 : Int32) (μ : dtM) (r : Int32) (F : dtM), rec p0 p1 p2 p3 p4 μ = some (r, F) → dtMet yX5_extendToDoubt cX5_extendToDoubt 6 (some .boolean) (5 + dn) [.ref p0, .ref p1, .int p2, .int p3, .int p4] μ (some (.int r)) F) (p0 : Nat) (p1 : Nat) (p2 : Int32) (p3 : Int32) (p4 : Int32) (μ : dtM) (h : f_X5_extendToDoubt_b rec p0 p1 p2 p3 p4 μ = some (r, F)) : dtMet yX5_extendToDoubt cX5_extendToDoubt 6 (some .boolean) (6 + dn) [.ref p0, .ref p1, .int p2, .int p3, .int p4] μ (some (.int r)) F := by
  refine dtMet.of (by decide +kernel) (Nat.le_of_ble_eq_true rfl) (show dtW yX5_extendToDoubt cX5_extendToDoubt 6 (some .boolean) (6 + dn) (some (.int r)) F 0 [some (.ref p0), some (.ref p1), some (.int p2), some (.int p3), some (.int p4)] [] μ from ?_)
  rw [f_X5_extendToDoubt_b] at h
  refine dr_iload_n p3 dX5_extendToDoubt_0 rfl ?_
  refine dr_iload p4 dX5_extendToDoubt_1 rfl ?_
  obtain ⟨ht2, hf3⟩ := dtIte h
  refine dr_icmp_lt 22 dX5_extendToDoubt_3 (by decide) (fun hc1 => ?_) (fun hc1 => ?_)
  · have h := ht2 hc1
    refine dr_iconst (0 : Int32) dX5_extendToDoubt_22 (by decide) ?_
    refine dr_istore [some (.ref p0), some (.ref p1), some (.int p2), some (.int p3), some (.int p4), some (.int (0 : Int32))] dX5_extendToDoubt_23 rfl rfl rfl ?_
    exact c_X5_extendToDoubt_25 rec hrec dtFuel p0 p1 p2 p3 p4 (0 : Int32) μ h
  · have h := hf3 hc1
    refine dr_aload_n p0 dX5_extendToDoubt_6 rfl ?_
    obtain ⟨x4, e5, h⟩ := dtBind h
    refine dr_getR x4 dX5_extendToDoubt_7 fl_RX5_18 e5 ?_
    refine dr_iload_n p3 dX5_extendToDoubt_10 rfl ?_
    obtain ⟨x6, e7, h⟩ := dtBind h
    refine dr_iaload x6 dX5_extendToDoubt_11 e7 ?_
    refine dr_iconst (1 : Int32) dX5_extendToDoubt_12 (by decide) ?_
    obtain ⟨ht9, hf10⟩ := dtIte h
    refine dr_icmp_le 20 dX5_extendToDoubt_13 (by decide) (fun hc8 => ?_) (fun hc8 => ?_)
    · have h := ht9 hc8
      refine dr_iconst (0 : Int32) dX5_extendToDoubt_20 (by decide) ?_
      refine dr_mask [] [] rfl ?_
      exact c_X5_extendToDoubt_21 rec hrec (0 : Int32) μ h
    · have h := hf10 hc8
      refine dr_iconst (1 : Int32) dX5_extendToDoubt_16 (by decide) ?_
      refine dr_goto 21 dX5_extendToDoubt_17 (by decide) ?_
      refine dr_mask [] [] rfl ?_
      exact c_X5_extendToDoubt_21 rec hrec (1 : Int32) μ h
theorem c_X5_extendToDoubt : ∀ (n : Nat) (p0 : Nat) (p1 : Nat) (p2 : Int32) (p3 : Int32) (p4 : Int32) (μ : dtM) (r : Int32) (F : dtM), f_X5_extendToDoubt n p0 p1 p2 p3 p4 μ = some (r, F) → dtMet yX5_extendToDoubt cX5_extendToDoubt 6 (some .boolean) (5 + n) [.ref p0, .ref p1, .int p2, .int p3, .int p4] μ (some (.int r)) F
  | 0, p0, p1, p2, p3, p4, μ, r, F, h => by cases h
  | n + 1, p0, p1, p2, p3, p4, μ, r, F, h => by
    have := c_X5_extendToDoubt_b (rec := f_X5_extendToDoubt n) (dn := n) (fun p0 p1 p2 p3 p4 μ r F h => c_X5_extendToDoubt n p0 p1 p2 p3 p4 μ r F h) p0 p1 p2 p3 p4 μ h
    rw [show 5 + (n + 1) = 6 + n by omega]
    exact this
/-! X5_findDoubt -/
theorem dX5_findDoubt_0 : decode cX5_findDoubt 0 = .ok (.aload_n 0, 1) := by decide +kernel
theorem dX5_findDoubt_1 : decode cX5_findDoubt 1 = .ok (.getfield 18, 3) := by decide +kernel
theorem dX5_findDoubt_4 : decode cX5_findDoubt 4 = .ok (.iconst 0, 1) := by decide +kernel
theorem dX5_findDoubt_5 : decode cX5_findDoubt 5 = .ok (.iconst 1, 1) := by decide +kernel
theorem dX5_findDoubt_6 : decode cX5_findDoubt 6 = .ok (.iastore, 1) := by decide +kernel
theorem dX5_findDoubt_7 : decode cX5_findDoubt 7 = .ok (.iconst 1, 1) := by decide +kernel
theorem dX5_findDoubt_8 : decode cX5_findDoubt 8 = .ok (.istore_n 3, 1) := by decide +kernel
theorem dX5_findDoubt_9 : decode cX5_findDoubt 9 = .ok (.iload_n 3, 1) := by decide +kernel
theorem dX5_findDoubt_10 : decode cX5_findDoubt 10 = .ok (.bipush 7, 2) := by decide +kernel
theorem dX5_findDoubt_12 : decode cX5_findDoubt 12 = .ok (.if_icmp .gt 22, 3) := by decide +kernel
theorem dX5_findDoubt_15 : decode cX5_findDoubt 15 = .ok (.aload_n 0, 1) := by decide +kernel
theorem dX5_findDoubt_16 : decode cX5_findDoubt 16 = .ok (.aload_n 1, 1) := by decide +kernel
theorem dX5_findDoubt_17 : decode cX5_findDoubt 17 = .ok (.iload_n 2, 1) := by decide +kernel
theorem dX5_findDoubt_18 : decode cX5_findDoubt 18 = .ok (.iconst 0, 1) := by decide +kernel
theorem dX5_findDoubt_19 : decode cX5_findDoubt 19 = .ok (.iload_n 3, 1) := by decide +kernel
theorem dX5_findDoubt_20 : decode cX5_findDoubt 20 = .ok (.invokevirtual 77, 3) := by decide +kernel
theorem dX5_findDoubt_23 : decode cX5_findDoubt 23 = .ok (.ifCond .eq 5, 3) := by decide +kernel
theorem dX5_findDoubt_26 : decode cX5_findDoubt 26 = .ok (.iload_n 3, 1) := by decide +kernel
theorem dX5_findDoubt_27 : decode cX5_findDoubt 27 = .ok (.ireturn, 1) := by decide +kernel
theorem dX5_findDoubt_28 : decode cX5_findDoubt 28 = .ok (.iinc 3 1, 3) := by decide +kernel
theorem dX5_findDoubt_31 : decode cX5_findDoubt 31 = .ok (.goto (-22), 3) := by decide +kernel
theorem dX5_findDoubt_34 : decode cX5_findDoubt 34 = .ok (.iconst (-1), 1) := by decide +kernel
theorem dX5_findDoubt_35 : decode cX5_findDoubt 35 = .ok (.ireturn, 1) := by decide +kernel
set_option maxRecDepth 100000 in
def f_X5_findDoubt_9 : Nat → Nat → Nat → Int32 → Int32 → dtM → Option (Int32 × dtM)
  | 0, _, _, _, _, _ => none
  | n + 1, l0, l1, l2, l3, μ =>
    if (7 : Int32) < l3 then (some ((-1 : Int32), μ)) else ((opRv 5 μ l0).bind fun _ => opCall (f_X5_extendToDoubt dtRecFuel l0 l1 l2 (0 : Int32) l3 μ) fun x7 μ5 => if x7 = 0 then (f_X5_findDoubt_9 n l0 l1 l2 (l3 + 1) μ5) else (some (l3, μ5)))
set_option maxRecDepth 100000 in
def f_X5_findDoubt (p0 : Nat) (p1 : Nat) (p2 : Int32) (μ : dtM) : Option (Int32 × dtM) :=
  (opGR 5 3 μ p0).bind fun x1 => (opSI μ x1 (0 : Int32) (1 : Int32)).bind fun μ3 => f_X5_findDoubt_9 dtFuel p0 p1 p2 (1 : Int32) μ3
set_option maxRecDepth 100000 in
theorem c_X5_findDoubt_9 {r : Int32} {F : dtM} : ∀ (n : Nat) (l0 : Nat) (l1 : Nat) (l2 : Int32) (l3 : Int32) (μ : dtM), f_X5_findDoubt_9 n l0 l1 l2 l3 μ = some (r, F) → dtW yX5_findDoubt cX5_findDoubt 4 (some .int) 47 (some (.int r)) F 9 [some (.ref l0), some (.ref l1), some (.int l2), some (.int l3)] [] μ := by
  intro n
  induction n with
  | zero => intro l0 l1 l2 l3 μ h; cases h
  | succ n ih =>
    intro l0 l1 l2 l3 μ h
    have h := (show f_X5_findDoubt_9 (n + 1) l0 l1 l2 l3 μ = some _ from h)
    rw [f_X5_findDoubt_9] at h
    refine dr_iload_n l3 dX5_findDoubt_9 rfl ?_
    refine dr_bipush (7 : Int32) dX5_findDoubt_10 (by decide) ?_
    obtain ⟨ht2, hf3⟩ := dtIte h
    refine dr_icmp_gt 34 dX5_findDoubt_12 (by decide) (fun hc1 => ?_) (fun hc1 => ?_)
    · have h := ht2 hc1
      refine dr_iconst (-1 : Int32) dX5_findDoubt_34 (by decide) ?_
      cases h
      exact dr_ireturn dX5_findDoubt_35 rfl
    · have h := hf3 hc1
      refine dr_aload_n l0 dX5_findDoubt_15 rfl ?_
      refine dr_aload_n l1 dX5_findDoubt_16 rfl ?_
      refine dr_iload_n l2 dX5_findDoubt_17 rfl ?_
      refine dr_iconst (0 : Int32) dX5_findDoubt_18 (by decide) ?_
      refine dr_iload_n l3 dX5_findDoubt_19 rfl ?_
      obtain ⟨_, hb4, h⟩ := dtBind h
      obtain ⟨x7, μ5, e6, h⟩ := dtCall h
      refine dr_callV_i (S0 := []) [.ref l1, .int l2, .int (0 : Int32), .int l3] x7 μ5 dX5_findDoubt_20 (c_X5_extendToDoubt dtRecFuel l0 l1 l2 (0 : Int32) l3 μ x7 μ5 e6) mf_X5_extendToDoubt wt_1121 ws_37 wt_1119 rfl (dtRv hb4) (by decide) rfl (Nat.le_of_ble_eq_true rfl) (Nat.le_of_ble_eq_true rfl) rfl ?_
      obtain ⟨ht9, hf10⟩ := dtIte h
      refine dr_if_eq 28 dX5_findDoubt_23 (by decide) (fun hc8 => ?_) (fun hc8 => ?_)
      · have h := ht9 hc8
        refine dr_iinc l3 (l3 + 1) [some (.ref l0), some (.ref l1), some (.int l2), some (.int (l3 + 1))] dX5_findDoubt_28 rfl rfl rfl rfl rfl ?_
        refine dr_goto 9 dX5_findDoubt_31 (by decide) ?_
        exact ih l0 l1 l2 (l3 + 1) μ5 h
      · have h := hf10 hc8
        refine dr_iload_n l3 dX5_findDoubt_26 rfl ?_
        cases h
        exact dr_ireturn dX5_findDoubt_27 rfl
set_option maxRecDepth 100000 in
theorem c_X5_findDoubt {r : Int32} {F : dtM} (p0 : Nat) (p1 : Nat) (p2 : Int32) (μ : dtM) (h : f_X5_findDoubt p0 p1 p2 μ = some (r, F)) : dtMet yX5_findDoubt cX5_findDoubt 4 (some .int) 47 [.ref p0, .ref p1, .int p2] μ (some (.int r)) F := by
  refine dtMet.of (by decide +kernel) (Nat.le_of_ble_eq_true rfl) (show dtW yX5_findDoubt cX5_findDoubt 4 (some .int) 47 (some (.int r)) F 0 [some (.ref p0), some (.ref p1), some (.int p2)] [] μ from ?_)
  rw [f_X5_findDoubt] at h
  refine dr_aload_n p0 dX5_findDoubt_0 rfl ?_
  obtain ⟨x1, e2, h⟩ := dtBind h
  refine dr_getR x1 dX5_findDoubt_1 fl_RX5_18 e2 ?_
  refine dr_iconst (0 : Int32) dX5_findDoubt_4 (by decide) ?_
  refine dr_iconst (1 : Int32) dX5_findDoubt_5 (by decide) ?_
  obtain ⟨μ3, e4, h⟩ := dtBind h
  refine dr_iastore μ3 dX5_findDoubt_6 e4 ?_
  refine dr_iconst (1 : Int32) dX5_findDoubt_7 (by decide) ?_
  refine dr_istore_n 3 [some (.ref p0), some (.ref p1), some (.int p2), some (.int (1 : Int32))] dX5_findDoubt_8 rfl rfl rfl rfl ?_
  exact c_X5_findDoubt_9 dtFuel p0 p1 p2 (1 : Int32) μ3 h
/-! X6_init -/
theorem dX6_init_0 : decode cX6_init 0 = .ok (.aload_n 0, 1) := by decide +kernel
theorem dX6_init_1 : decode cX6_init 1 = .ok (.invokespecial 3, 3) := by decide +kernel
theorem dX6_init_4 : decode cX6_init 4 = .ok (.aload_n 0, 1) := by decide +kernel
theorem dX6_init_5 : decode cX6_init 5 = .ok (.bipush 60, 2) := by decide +kernel
theorem dX6_init_7 : decode cX6_init 7 = .ok (.newarray .int, 2) := by decide +kernel
theorem dX6_init_9 : decode cX6_init 9 = .ok (.putfield 9, 3) := by decide +kernel
theorem dX6_init_12 : decode cX6_init 12 = .ok (.return_, 1) := by decide +kernel
set_option maxRecDepth 100000 in
def f_X6_init (p0 : Nat) (μ : dtM) : Option dtM :=
  (opLt p0).bind fun _ => opCall (opNA 1 μ (60 : Int32)) fun q2 μ3 => (opPR 6 0 μ3 p0 q2).bind fun μ5 => some μ5
set_option maxRecDepth 100000 in
theorem c_X6_init {F : dtM} (p0 : Nat) (μ : dtM) (h : f_X6_init p0 μ = some F) : dtMet yX6_init cX6_init 1 (none) 1 [.ref p0] μ (none) F := by
  refine dtMet.of (by decide +kernel) (Nat.le_of_ble_eq_true rfl) (show dtW yX6_init cX6_init 1 (none) 1 (none) F 0 [some (.ref p0)] [] μ from ?_)
  rw [f_X6_init] at h
  refine dr_aload_n p0 dX6_init_0 rfl ?_
  obtain ⟨_, hb1, h⟩ := dtBind h
  refine dr_objInit dX6_init_1 wt_368 wt_27 wt_28 (dtLt hb1) (Nat.le_of_ble_eq_true rfl) rfl ?_
  refine dr_aload_n p0 dX6_init_4 rfl ?_
  refine dr_bipush (60 : Int32) dX6_init_5 (by decide) ?_
  obtain ⟨q2, μ3, e4, h⟩ := dtCall h
  refine dr_newarray_i q2 μ3 dX6_init_7 wt_192 e4 ?_
  obtain ⟨μ5, e6, h⟩ := dtBind h
  refine dr_putRF μ5 dX6_init_9 fl_RX6_9 rfl rfl rfl e6 ?_
  cases h
  exact dr_return dX6_init_12
/-! X6_draw -/
theorem dX6_draw_0 : decode cX6_draw 0 = .ok (.iload_n 1, 1) := by decide +kernel
theorem dX6_draw_1 : decode cX6_draw 1 = .ok (.ifCond .gt 5, 3) := by decide +kernel
theorem dX6_draw_4 : decode cX6_draw 4 = .ok (.iconst (-1), 1) := by decide +kernel
theorem dX6_draw_5 : decode cX6_draw 5 = .ok (.ireturn, 1) := by decide +kernel
theorem dX6_draw_6 : decode cX6_draw 6 = .ok (.aload_n 0, 1) := by decide +kernel
theorem dX6_draw_7 : decode cX6_draw 7 = .ok (.aload_n 0, 1) := by decide +kernel
theorem dX6_draw_8 : decode cX6_draw 8 = .ok (.getfield 21, 3) := by decide +kernel
theorem dX6_draw_11 : decode cX6_draw 11 = .ok (.sipush 3221, 3) := by decide +kernel
theorem dX6_draw_14 : decode cX6_draw 14 = .ok (.imul, 1) := by decide +kernel
theorem dX6_draw_15 : decode cX6_draw 15 = .ok (.sipush 11449, 3) := by decide +kernel
theorem dX6_draw_18 : decode cX6_draw 18 = .ok (.iadd, 1) := by decide +kernel
theorem dX6_draw_19 : decode cX6_draw 19 = .ok (.ldc 139, 2) := by decide +kernel
theorem dX6_draw_21 : decode cX6_draw 21 = .ok (.irem, 1) := by decide +kernel
theorem dX6_draw_22 : decode cX6_draw 22 = .ok (.putfield 21, 3) := by decide +kernel
theorem dX6_draw_25 : decode cX6_draw 25 = .ok (.aload_n 0, 1) := by decide +kernel
theorem dX6_draw_26 : decode cX6_draw 26 = .ok (.getfield 21, 3) := by decide +kernel
theorem dX6_draw_29 : decode cX6_draw 29 = .ok (.bipush 8, 2) := by decide +kernel
theorem dX6_draw_31 : decode cX6_draw 31 = .ok (.idiv, 1) := by decide +kernel
theorem dX6_draw_32 : decode cX6_draw 32 = .ok (.iload_n 1, 1) := by decide +kernel
theorem dX6_draw_33 : decode cX6_draw 33 = .ok (.irem, 1) := by decide +kernel
theorem dX6_draw_34 : decode cX6_draw 34 = .ok (.ireturn, 1) := by decide +kernel
set_option maxRecDepth 100000 in
def f_X6_draw (p0 : Nat) (p1 : Int32) (μ : dtM) : Option (Int32 × dtM) :=
  if 0 < p1 then ((opGI 6 1 μ p0).bind fun x4 => (opRem ((x4 * (3221 : Int32)) + (11449 : Int32)) (65536 : Int32)).bind fun x6 => (opPI 6 1 μ p0 x6).bind fun μ8 => (opGI 6 1 μ8 p0).bind fun x10 => (opDiv x10 (8 : Int32)).bind fun x12 => (opRem x12 p1).bind fun x14 => some (x14, μ8)) else (some ((-1 : Int32), μ))
set_option maxRecDepth 100000 in
theorem c_X6_draw {r : Int32} {F : dtM} (p0 : Nat) (p1 : Int32) (μ : dtM) (h : f_X6_draw p0 p1 μ = some (r, F)) : dtMet yX6_draw cX6_draw 2 (some .int) 1 [.ref p0, .int p1] μ (some (.int r)) F := by
  refine dtMet.of (by decide +kernel) (Nat.le_of_ble_eq_true rfl) (show dtW yX6_draw cX6_draw 2 (some .int) 1 (some (.int r)) F 0 [some (.ref p0), some (.int p1)] [] μ from ?_)
  rw [f_X6_draw] at h
  refine dr_iload_n p1 dX6_draw_0 rfl ?_
  obtain ⟨ht2, hf3⟩ := dtIte h
  refine dr_if_gt 6 dX6_draw_1 (by decide) (fun hc1 => ?_) (fun hc1 => ?_)
  · have h := ht2 hc1
    refine dr_aload_n p0 dX6_draw_6 rfl ?_
    refine dr_aload_n p0 dX6_draw_7 rfl ?_
    obtain ⟨x4, e5, h⟩ := dtBind h
    refine dr_getI x4 dX6_draw_8 fl_RX6_21 e5 ?_
    refine dr_sipush (3221 : Int32) dX6_draw_11 (by decide) ?_
    refine dr_imul dX6_draw_14 ?_
    refine dr_sipush (11449 : Int32) dX6_draw_15 (by decide) ?_
    refine dr_iadd dX6_draw_18 ?_
    refine dr_ldc (65536 : Int32) dX6_draw_19 wt_1300 ?_
    obtain ⟨x6, e7, h⟩ := dtBind h
    refine dr_irem_n x6 dX6_draw_21 e7 ?_
    obtain ⟨μ8, e9, h⟩ := dtBind h
    refine dr_putI μ8 dX6_draw_22 fl_RX6_21 rfl e9 ?_
    refine dr_aload_n p0 dX6_draw_25 rfl ?_
    obtain ⟨x10, e11, h⟩ := dtBind h
    refine dr_getI x10 dX6_draw_26 fl_RX6_21 e11 ?_
    refine dr_bipush (8 : Int32) dX6_draw_29 (by decide) ?_
    obtain ⟨x12, e13, h⟩ := dtBind h
    refine dr_idiv_n x12 dX6_draw_31 e13 ?_
    refine dr_iload_n p1 dX6_draw_32 rfl ?_
    obtain ⟨x14, e15, h⟩ := dtBind h
    refine dr_irem_n x14 dX6_draw_33 e15 ?_
    cases h
    exact dr_ireturn dX6_draw_34 rfl
  · have h := hf3 hc1
    refine dr_iconst (-1 : Int32) dX6_draw_4 (by decide) ?_
    cases h
    exact dr_ireturn dX6_draw_5 rfl
/-! X6_forgetAll -/
theorem dX6_forgetAll_0 : decode cX6_forgetAll 0 = .ok (.aload_n 0, 1) := by decide +kernel
theorem dX6_forgetAll_1 : decode cX6_forgetAll 1 = .ok (.getfield 85, 3) := by decide +kernel
theorem dX6_forgetAll_4 : decode cX6_forgetAll 4 = .ok (.iload_n 1, 1) := by decide +kernel
theorem dX6_forgetAll_5 : decode cX6_forgetAll 5 = .ok (.iaload, 1) := by decide +kernel
theorem dX6_forgetAll_6 : decode cX6_forgetAll 6 = .ok (.ifCond .ne 5, 3) := by decide +kernel
theorem dX6_forgetAll_9 : decode cX6_forgetAll 9 = .ok (.iconst 0, 1) := by decide +kernel
theorem dX6_forgetAll_10 : decode cX6_forgetAll 10 = .ok (.ireturn, 1) := by decide +kernel
theorem dX6_forgetAll_11 : decode cX6_forgetAll 11 = .ok (.aload_n 0, 1) := by decide +kernel
theorem dX6_forgetAll_12 : decode cX6_forgetAll 12 = .ok (.getfield 85, 3) := by decide +kernel
theorem dX6_forgetAll_15 : decode cX6_forgetAll 15 = .ok (.iload_n 1, 1) := by decide +kernel
theorem dX6_forgetAll_16 : decode cX6_forgetAll 16 = .ok (.iconst 0, 1) := by decide +kernel
theorem dX6_forgetAll_17 : decode cX6_forgetAll 17 = .ok (.iastore, 1) := by decide +kernel
theorem dX6_forgetAll_18 : decode cX6_forgetAll 18 = .ok (.iconst 1, 1) := by decide +kernel
theorem dX6_forgetAll_19 : decode cX6_forgetAll 19 = .ok (.ireturn, 1) := by decide +kernel
set_option maxRecDepth 100000 in
def f_X6_forgetAll (p0 : Nat) (p1 : Int32) (μ : dtM) : Option (Int32 × dtM) :=
  (opGR 3 17 μ p0).bind fun x1 => (opLI 1 μ x1 p1).bind fun x3 => if x3 = 0 then (opRet (0 : Int32) μ) else ((opGR 3 17 μ p0).bind fun x8 => (opSI μ x8 p1 (0 : Int32)).bind fun μ10 => opRet (1 : Int32) μ10)
set_option maxRecDepth 100000 in
theorem c_X6_forgetAll {r : Int32} {F : dtM} (p0 : Nat) (p1 : Int32) (μ : dtM) (h : f_X6_forgetAll p0 p1 μ = some (r, F)) : dtMet yX6_forgetAll cX6_forgetAll 2 (some .boolean) 1 [.ref p0, .int p1] μ (some (.int r)) F := by
  refine dtMet.of (by decide +kernel) (Nat.le_of_ble_eq_true rfl) (show dtW yX6_forgetAll cX6_forgetAll 2 (some .boolean) 1 (some (.int r)) F 0 [some (.ref p0), some (.int p1)] [] μ from ?_)
  rw [f_X6_forgetAll] at h
  refine dr_aload_n p0 dX6_forgetAll_0 rfl ?_
  obtain ⟨x1, e2, h⟩ := dtBind h
  refine dr_getR x1 dX6_forgetAll_1 fl_RX6_85 e2 ?_
  refine dr_iload_n p1 dX6_forgetAll_4 rfl ?_
  obtain ⟨x3, e4, h⟩ := dtBind h
  refine dr_iaload x3 dX6_forgetAll_5 e4 ?_
  obtain ⟨ht6, hf7⟩ := dtIte h
  refine dr_if_ne 11 dX6_forgetAll_6 (by decide) (fun hc5 => ?_) (fun hc5 => ?_)
  · have h := hf7 hc5
    refine dr_aload_n p0 dX6_forgetAll_11 rfl ?_
    obtain ⟨x8, e9, h⟩ := dtBind h
    refine dr_getR x8 dX6_forgetAll_12 fl_RX6_85 e9 ?_
    refine dr_iload_n p1 dX6_forgetAll_15 rfl ?_
    refine dr_iconst (0 : Int32) dX6_forgetAll_16 (by decide) ?_
    obtain ⟨μ10, e11, h⟩ := dtBind h
    refine dr_iastore μ10 dX6_forgetAll_17 e11 ?_
    refine dr_iconst (1 : Int32) dX6_forgetAll_18 (by decide) ?_
    obtain ⟨hz, rfl, rfl⟩ := dtRet h
    exact dr_ireturn dX6_forgetAll_19 (dtNz hz)
  · have h := ht6 hc5
    refine dr_iconst (0 : Int32) dX6_forgetAll_9 (by decide) ?_
    obtain ⟨hz, rfl, rfl⟩ := dtRet h
    exact dr_ireturn dX6_forgetAll_10 (dtNz hz)
/-! X6_pass -/
theorem dX6_pass_0 : decode cX6_pass 0 = .ok (.aload_n 1, 1) := by decide +kernel
theorem dX6_pass_1 : decode cX6_pass 1 = .ok (.iload_n 3, 1) := by decide +kernel
theorem dX6_pass_2 : decode cX6_pass 2 = .ok (.invokevirtual 81, 3) := by decide +kernel
theorem dX6_pass_5 : decode cX6_pass 5 = .ok (.ifCond .ne 5, 3) := by decide +kernel
theorem dX6_pass_8 : decode cX6_pass 8 = .ok (.iconst 0, 1) := by decide +kernel
theorem dX6_pass_9 : decode cX6_pass 9 = .ok (.ireturn, 1) := by decide +kernel
theorem dX6_pass_10 : decode cX6_pass 10 = .ok (.aload_n 1, 1) := by decide +kernel
theorem dX6_pass_11 : decode cX6_pass 11 = .ok (.iload_n 2, 1) := by decide +kernel
theorem dX6_pass_12 : decode cX6_pass 12 = .ok (.iload_n 3, 1) := by decide +kernel
theorem dX6_pass_13 : decode cX6_pass 13 = .ok (.invokevirtual 135, 3) := by decide +kernel
theorem dX6_pass_16 : decode cX6_pass 16 = .ok (.aload_n 0, 1) := by decide +kernel
theorem dX6_pass_17 : decode cX6_pass 17 = .ok (.dup, 1) := by decide +kernel
theorem dX6_pass_18 : decode cX6_pass 18 = .ok (.getfield 33, 3) := by decide +kernel
theorem dX6_pass_21 : decode cX6_pass 21 = .ok (.iconst 1, 1) := by decide +kernel
theorem dX6_pass_22 : decode cX6_pass 22 = .ok (.iadd, 1) := by decide +kernel
theorem dX6_pass_23 : decode cX6_pass 23 = .ok (.putfield 33, 3) := by decide +kernel
theorem dX6_pass_26 : decode cX6_pass 26 = .ok (.iconst 1, 1) := by decide +kernel
theorem dX6_pass_27 : decode cX6_pass 27 = .ok (.ireturn, 1) := by decide +kernel
set_option maxRecDepth 100000 in
def f_X6_pass (p0 : Nat) (p1 : Nat) (p2 : Int32) (p3 : Int32) (μ : dtM) : Option (Int32 × dtM) :=
  (opRv 3 μ p1).bind fun _ => opCall (f_X3_isOpen p1 p3 μ) fun x4 μ2 => if x4 = 0 then (opRet (0 : Int32) μ2) else ((opRv 3 μ2 p1).bind fun _ => (f_X3_passThrough p1 p2 p3 μ2).bind fun μ9 => (opGI 6 6 μ9 p0).bind fun x11 => (opPI 6 6 μ9 p0 (x11 + (1 : Int32))).bind fun μ13 => opRet (1 : Int32) μ13)
set_option maxRecDepth 100000 in
theorem c_X6_pass {r : Int32} {F : dtM} (p0 : Nat) (p1 : Nat) (p2 : Int32) (p3 : Int32) (μ : dtM) (h : f_X6_pass p0 p1 p2 p3 μ = some (r, F)) : dtMet yX6_pass cX6_pass 4 (some .boolean) 3 [.ref p0, .ref p1, .int p2, .int p3] μ (some (.int r)) F := by
  refine dtMet.of (by decide +kernel) (Nat.le_of_ble_eq_true rfl) (show dtW yX6_pass cX6_pass 4 (some .boolean) 3 (some (.int r)) F 0 [some (.ref p0), some (.ref p1), some (.int p2), some (.int p3)] [] μ from ?_)
  rw [f_X6_pass] at h
  refine dr_aload_n p1 dX6_pass_0 rfl ?_
  refine dr_iload_n p3 dX6_pass_1 rfl ?_
  obtain ⟨_, hb1, h⟩ := dtBind h
  obtain ⟨x4, μ2, e3, h⟩ := dtCall h
  refine dr_callV_i (S0 := []) [.int p3] x4 μ2 dX6_pass_2 (c_X3_isOpen p1 p3 μ e3) mf_X3_isOpen wt_845 wt_846 wt_1281 rfl (dtRv hb1) (by decide) rfl (Nat.le_of_ble_eq_true rfl) (Nat.le_of_ble_eq_true rfl) rfl ?_
  obtain ⟨ht6, hf7⟩ := dtIte h
  refine dr_if_ne 10 dX6_pass_5 (by decide) (fun hc5 => ?_) (fun hc5 => ?_)
  · have h := hf7 hc5
    refine dr_aload_n p1 dX6_pass_10 rfl ?_
    refine dr_iload_n p2 dX6_pass_11 rfl ?_
    refine dr_iload_n p3 dX6_pass_12 rfl ?_
    obtain ⟨_, hb8, h⟩ := dtBind h
    obtain ⟨μ9, e10, h⟩ := dtBind h
    refine dr_callV_v (S0 := []) [.int p2, .int p3] μ9 dX6_pass_13 (c_X3_passThrough p1 p2 p3 μ2 e10) mf_X3_passThrough wt_939 wt_940 wt_1292 rfl (dtRv hb8) (by decide) rfl (Nat.le_of_ble_eq_true rfl) (Nat.le_of_ble_eq_true rfl) rfl ?_
    refine dr_aload_n p0 dX6_pass_16 rfl ?_
    refine dr_dup dX6_pass_17 rfl ?_
    obtain ⟨x11, e12, h⟩ := dtBind h
    refine dr_getI x11 dX6_pass_18 fl_RX6_33 e12 ?_
    refine dr_iconst (1 : Int32) dX6_pass_21 (by decide) ?_
    refine dr_iadd dX6_pass_22 ?_
    obtain ⟨μ13, e14, h⟩ := dtBind h
    refine dr_putI μ13 dX6_pass_23 fl_RX6_33 rfl e14 ?_
    refine dr_iconst (1 : Int32) dX6_pass_26 (by decide) ?_
    obtain ⟨hz, rfl, rfl⟩ := dtRet h
    exact dr_ireturn dX6_pass_27 (dtNz hz)
  · have h := ht6 hc5
    refine dr_iconst (0 : Int32) dX6_pass_8 (by decide) ?_
    obtain ⟨hz, rfl, rfl⟩ := dtRet h
    exact dr_ireturn dX6_pass_9 (dtNz hz)
/-! J6_bitCount_0f7a4 -/
theorem dJ6_bitCount_0f7a4_0 : decode cJ6_bitCount_0f7a4 0 = .ok (.iload_n 0, 1) := by decide +kernel
theorem dJ6_bitCount_0f7a4_1 : decode cJ6_bitCount_0f7a4 1 = .ok (.iload_n 0, 1) := by decide +kernel
theorem dJ6_bitCount_0f7a4_2 : decode cJ6_bitCount_0f7a4 2 = .ok (.iconst 1, 1) := by decide +kernel
theorem dJ6_bitCount_0f7a4_3 : decode cJ6_bitCount_0f7a4 3 = .ok (.iushr, 1) := by decide +kernel
theorem dJ6_bitCount_0f7a4_4 : decode cJ6_bitCount_0f7a4 4 = .ok (.ldc_w 265, 3) := by decide +kernel
theorem dJ6_bitCount_0f7a4_7 : decode cJ6_bitCount_0f7a4 7 = .ok (.iand, 1) := by decide +kernel
theorem dJ6_bitCount_0f7a4_8 : decode cJ6_bitCount_0f7a4 8 = .ok (.isub, 1) := by decide +kernel
theorem dJ6_bitCount_0f7a4_9 : decode cJ6_bitCount_0f7a4 9 = .ok (.istore_n 0, 1) := by decide +kernel
theorem dJ6_bitCount_0f7a4_10 : decode cJ6_bitCount_0f7a4 10 = .ok (.iload_n 0, 1) := by decide +kernel
theorem dJ6_bitCount_0f7a4_11 : decode cJ6_bitCount_0f7a4 11 = .ok (.ldc_w 266, 3) := by decide +kernel
theorem dJ6_bitCount_0f7a4_14 : decode cJ6_bitCount_0f7a4 14 = .ok (.iand, 1) := by decide +kernel
theorem dJ6_bitCount_0f7a4_15 : decode cJ6_bitCount_0f7a4 15 = .ok (.iload_n 0, 1) := by decide +kernel
theorem dJ6_bitCount_0f7a4_16 : decode cJ6_bitCount_0f7a4 16 = .ok (.iconst 2, 1) := by decide +kernel
theorem dJ6_bitCount_0f7a4_17 : decode cJ6_bitCount_0f7a4 17 = .ok (.iushr, 1) := by decide +kernel
theorem dJ6_bitCount_0f7a4_18 : decode cJ6_bitCount_0f7a4 18 = .ok (.ldc_w 266, 3) := by decide +kernel
theorem dJ6_bitCount_0f7a4_21 : decode cJ6_bitCount_0f7a4 21 = .ok (.iand, 1) := by decide +kernel
theorem dJ6_bitCount_0f7a4_22 : decode cJ6_bitCount_0f7a4 22 = .ok (.iadd, 1) := by decide +kernel
theorem dJ6_bitCount_0f7a4_23 : decode cJ6_bitCount_0f7a4 23 = .ok (.istore_n 0, 1) := by decide +kernel
theorem dJ6_bitCount_0f7a4_24 : decode cJ6_bitCount_0f7a4 24 = .ok (.iload_n 0, 1) := by decide +kernel
theorem dJ6_bitCount_0f7a4_25 : decode cJ6_bitCount_0f7a4 25 = .ok (.iload_n 0, 1) := by decide +kernel
theorem dJ6_bitCount_0f7a4_26 : decode cJ6_bitCount_0f7a4 26 = .ok (.iconst 4, 1) := by decide +kernel
theorem dJ6_bitCount_0f7a4_27 : decode cJ6_bitCount_0f7a4 27 = .ok (.iushr, 1) := by decide +kernel
theorem dJ6_bitCount_0f7a4_28 : decode cJ6_bitCount_0f7a4 28 = .ok (.iadd, 1) := by decide +kernel
theorem dJ6_bitCount_0f7a4_29 : decode cJ6_bitCount_0f7a4 29 = .ok (.ldc_w 267, 3) := by decide +kernel
theorem dJ6_bitCount_0f7a4_32 : decode cJ6_bitCount_0f7a4 32 = .ok (.iand, 1) := by decide +kernel
theorem dJ6_bitCount_0f7a4_33 : decode cJ6_bitCount_0f7a4 33 = .ok (.istore_n 0, 1) := by decide +kernel
theorem dJ6_bitCount_0f7a4_34 : decode cJ6_bitCount_0f7a4 34 = .ok (.iload_n 0, 1) := by decide +kernel
theorem dJ6_bitCount_0f7a4_35 : decode cJ6_bitCount_0f7a4 35 = .ok (.iload_n 0, 1) := by decide +kernel
theorem dJ6_bitCount_0f7a4_36 : decode cJ6_bitCount_0f7a4 36 = .ok (.bipush 8, 2) := by decide +kernel
theorem dJ6_bitCount_0f7a4_38 : decode cJ6_bitCount_0f7a4 38 = .ok (.iushr, 1) := by decide +kernel
theorem dJ6_bitCount_0f7a4_39 : decode cJ6_bitCount_0f7a4 39 = .ok (.iadd, 1) := by decide +kernel
theorem dJ6_bitCount_0f7a4_40 : decode cJ6_bitCount_0f7a4 40 = .ok (.istore_n 0, 1) := by decide +kernel
theorem dJ6_bitCount_0f7a4_41 : decode cJ6_bitCount_0f7a4 41 = .ok (.iload_n 0, 1) := by decide +kernel
theorem dJ6_bitCount_0f7a4_42 : decode cJ6_bitCount_0f7a4 42 = .ok (.iload_n 0, 1) := by decide +kernel
theorem dJ6_bitCount_0f7a4_43 : decode cJ6_bitCount_0f7a4 43 = .ok (.bipush 16, 2) := by decide +kernel
theorem dJ6_bitCount_0f7a4_45 : decode cJ6_bitCount_0f7a4 45 = .ok (.iushr, 1) := by decide +kernel
theorem dJ6_bitCount_0f7a4_46 : decode cJ6_bitCount_0f7a4 46 = .ok (.iadd, 1) := by decide +kernel
theorem dJ6_bitCount_0f7a4_47 : decode cJ6_bitCount_0f7a4 47 = .ok (.istore_n 0, 1) := by decide +kernel
theorem dJ6_bitCount_0f7a4_48 : decode cJ6_bitCount_0f7a4 48 = .ok (.iload_n 0, 1) := by decide +kernel
theorem dJ6_bitCount_0f7a4_49 : decode cJ6_bitCount_0f7a4 49 = .ok (.bipush 63, 2) := by decide +kernel
theorem dJ6_bitCount_0f7a4_51 : decode cJ6_bitCount_0f7a4 51 = .ok (.iand, 1) := by decide +kernel
theorem dJ6_bitCount_0f7a4_52 : decode cJ6_bitCount_0f7a4 52 = .ok (.ireturn, 1) := by decide +kernel
set_option maxRecDepth 100000 in
def f_J6_bitCount_0f7a4 (p0 : Int32) (μ : dtM) : Option (Int32 × dtM) :=
  (some (p0 - (((p0.toUInt32 >>> ((1 : Int32).toUInt32 &&& Int32.toUInt32 31)).toInt32) &&& (1431655765 : Int32)))).bind fun x1 => (some ((x1 &&& (858993459 : Int32)) + (((x1.toUInt32 >>> ((2 : Int32).toUInt32 &&& Int32.toUInt32 31)).toInt32) &&& (858993459 : Int32)))).bind fun x3 => (some ((x3 + ((x3.toUInt32 >>> ((4 : Int32).toUInt32 &&& Int32.toUInt32 31)).toInt32)) &&& (252645135 : Int32))).bind fun x5 => (some (x5 + ((x5.toUInt32 >>> ((8 : Int32).toUInt32 &&& Int32.toUInt32 31)).toInt32))).bind fun x7 => (some (x7 + ((x7.toUInt32 >>> ((16 : Int32).toUInt32 &&& Int32.toUInt32 31)).toInt32))).bind fun x9 => some ((x9 &&& (63 : Int32)), μ)
set_option maxRecDepth 100000 in
theorem c_J6_bitCount_0f7a4 {r : Int32} {F : dtM} (p0 : Int32) (μ : dtM) (h : f_J6_bitCount_0f7a4 p0 μ = some (r, F)) : dtMet yJ6_bitCount_0f7a4 cJ6_bitCount_0f7a4 1 (some .int) 1 [.int p0] μ (some (.int r)) F := by
  refine dtMet.of (by decide +kernel) (Nat.le_of_ble_eq_true rfl) (show dtW yJ6_bitCount_0f7a4 cJ6_bitCount_0f7a4 1 (some .int) 1 (some (.int r)) F 0 [some (.int p0)] [] μ from ?_)
  rw [f_J6_bitCount_0f7a4] at h
  refine dr_iload_n p0 dJ6_bitCount_0f7a4_0 rfl ?_
  refine dr_iload_n p0 dJ6_bitCount_0f7a4_1 rfl ?_
  refine dr_iconst (1 : Int32) dJ6_bitCount_0f7a4_2 (by decide) ?_
  refine dr_iushr dJ6_bitCount_0f7a4_3 ?_
  refine dr_ldcw (1431655765 : Int32) dJ6_bitCount_0f7a4_4 wt_931 ?_
  refine dr_iand dJ6_bitCount_0f7a4_7 ?_
  refine dr_isub dJ6_bitCount_0f7a4_8 ?_
  obtain ⟨x1, e2, h⟩ := dtBind h
  refine dr_nmi e2 ?_
  refine dr_istore_n 0 [some (.int x1)] dJ6_bitCount_0f7a4_9 rfl rfl rfl rfl ?_
  refine dr_iload_n x1 dJ6_bitCount_0f7a4_10 rfl ?_
  refine dr_ldcw (858993459 : Int32) dJ6_bitCount_0f7a4_11 wt_932 ?_
  refine dr_iand dJ6_bitCount_0f7a4_14 ?_
  refine dr_iload_n x1 dJ6_bitCount_0f7a4_15 rfl ?_
  refine dr_iconst (2 : Int32) dJ6_bitCount_0f7a4_16 (by decide) ?_
  refine dr_iushr dJ6_bitCount_0f7a4_17 ?_
  refine dr_ldcw (858993459 : Int32) dJ6_bitCount_0f7a4_18 wt_932 ?_
  refine dr_iand dJ6_bitCount_0f7a4_21 ?_
  refine dr_iadd dJ6_bitCount_0f7a4_22 ?_
  obtain ⟨x3, e4, h⟩ := dtBind h
  refine dr_nmi e4 ?_
  refine dr_istore_n 0 [some (.int x3)] dJ6_bitCount_0f7a4_23 rfl rfl rfl rfl ?_
  refine dr_iload_n x3 dJ6_bitCount_0f7a4_24 rfl ?_
  refine dr_iload_n x3 dJ6_bitCount_0f7a4_25 rfl ?_
  refine dr_iconst (4 : Int32) dJ6_bitCount_0f7a4_26 (by decide) ?_
  refine dr_iushr dJ6_bitCount_0f7a4_27 ?_
  refine dr_iadd dJ6_bitCount_0f7a4_28 ?_
  refine dr_ldcw (252645135 : Int32) dJ6_bitCount_0f7a4_29 wt_933 ?_
  refine dr_iand dJ6_bitCount_0f7a4_32 ?_
  obtain ⟨x5, e6, h⟩ := dtBind h
  refine dr_nmi e6 ?_
  refine dr_istore_n 0 [some (.int x5)] dJ6_bitCount_0f7a4_33 rfl rfl rfl rfl ?_
  refine dr_iload_n x5 dJ6_bitCount_0f7a4_34 rfl ?_
  refine dr_iload_n x5 dJ6_bitCount_0f7a4_35 rfl ?_
  refine dr_bipush (8 : Int32) dJ6_bitCount_0f7a4_36 (by decide) ?_
  refine dr_iushr dJ6_bitCount_0f7a4_38 ?_
  refine dr_iadd dJ6_bitCount_0f7a4_39 ?_
  obtain ⟨x7, e8, h⟩ := dtBind h
  refine dr_nmi e8 ?_
  refine dr_istore_n 0 [some (.int x7)] dJ6_bitCount_0f7a4_40 rfl rfl rfl rfl ?_
  refine dr_iload_n x7 dJ6_bitCount_0f7a4_41 rfl ?_
  refine dr_iload_n x7 dJ6_bitCount_0f7a4_42 rfl ?_
  refine dr_bipush (16 : Int32) dJ6_bitCount_0f7a4_43 (by decide) ?_
  refine dr_iushr dJ6_bitCount_0f7a4_45 ?_
  refine dr_iadd dJ6_bitCount_0f7a4_46 ?_
  obtain ⟨x9, e10, h⟩ := dtBind h
  refine dr_nmi e10 ?_
  refine dr_istore_n 0 [some (.int x9)] dJ6_bitCount_0f7a4_47 rfl rfl rfl rfl ?_
  refine dr_iload_n x9 dJ6_bitCount_0f7a4_48 rfl ?_
  refine dr_bipush (63 : Int32) dJ6_bitCount_0f7a4_49 (by decide) ?_
  refine dr_iand dJ6_bitCount_0f7a4_51 ?_
  cases h
  exact dr_ireturn dJ6_bitCount_0f7a4_52 rfl
/-! X6_shutBy -/
theorem dX6_shutBy_0 : decode cX6_shutBy 0 = .ok (.aload_n 1, 1) := by decide +kernel
theorem dX6_shutBy_1 : decode cX6_shutBy 1 = .ok (.iload 4, 2) := by decide +kernel
theorem dX6_shutBy_3 : decode cX6_shutBy 3 = .ok (.invokevirtual 81, 3) := by decide +kernel
theorem dX6_shutBy_6 : decode cX6_shutBy 6 = .ok (.ifCond .ne 5, 3) := by decide +kernel
theorem dX6_shutBy_9 : decode cX6_shutBy 9 = .ok (.iconst 0, 1) := by decide +kernel
theorem dX6_shutBy_10 : decode cX6_shutBy 10 = .ok (.ireturn, 1) := by decide +kernel
theorem dX6_shutBy_11 : decode cX6_shutBy 11 = .ok (.aload_n 0, 1) := by decide +kernel
theorem dX6_shutBy_12 : decode cX6_shutBy 12 = .ok (.dup, 1) := by decide +kernel
theorem dX6_shutBy_13 : decode cX6_shutBy 13 = .ok (.getfield 30, 3) := by decide +kernel
theorem dX6_shutBy_16 : decode cX6_shutBy 16 = .ok (.aload_n 2, 1) := by decide +kernel
theorem dX6_shutBy_17 : decode cX6_shutBy 17 = .ok (.aload_n 1, 1) := by decide +kernel
theorem dX6_shutBy_18 : decode cX6_shutBy 18 = .ok (.iload_n 3, 1) := by decide +kernel
theorem dX6_shutBy_19 : decode cX6_shutBy 19 = .ok (.iload 4, 2) := by decide +kernel
theorem dX6_shutBy_21 : decode cX6_shutBy 21 = .ok (.iload 5, 2) := by decide +kernel
theorem dX6_shutBy_23 : decode cX6_shutBy 23 = .ok (.invokevirtual 123, 3) := by decide +kernel
theorem dX6_shutBy_26 : decode cX6_shutBy 26 = .ok (.invokestatic 129, 3) := by decide +kernel
theorem dX6_shutBy_29 : decode cX6_shutBy 29 = .ok (.iadd, 1) := by decide +kernel
theorem dX6_shutBy_30 : decode cX6_shutBy 30 = .ok (.putfield 30, 3) := by decide +kernel
theorem dX6_shutBy_33 : decode cX6_shutBy 33 = .ok (.iconst 1, 1) := by decide +kernel
theorem dX6_shutBy_34 : decode cX6_shutBy 34 = .ok (.ireturn, 1) := by decide +kernel
set_option maxRecDepth 100000 in
def f_X6_shutBy (p0 : Nat) (p1 : Nat) (p2 : Nat) (p3 : Int32) (p4 : Int32) (p5 : Int32) (μ : dtM) : Option (Int32 × dtM) :=
  (opRv 3 μ p1).bind fun _ => opCall (f_X3_isOpen p1 p4 μ) fun x4 μ2 => if x4 = 0 then (opRet (0 : Int32) μ2) else ((opGI 6 5 μ2 p0).bind fun x8 => (opRv 2 μ2 p2).bind fun _ => opCall (f_X2_shutWith p2 p1 p3 p4 p5 μ2) fun x13 μ11 => opCall (f_J6_bitCount_0f7a4 x13 μ11) fun x16 μ14 => (opPI 6 5 μ14 p0 (x8 + x16)).bind fun μ17 => opRet (1 : Int32) μ17)
set_option maxRecDepth 100000 in
theorem c_X6_shutBy {r : Int32} {F : dtM} (p0 : Nat) (p1 : Nat) (p2 : Nat) (p3 : Int32) (p4 : Int32) (p5 : Int32) (μ : dtM) (h : f_X6_shutBy p0 p1 p2 p3 p4 p5 μ = some (r, F)) : dtMet yX6_shutBy cX6_shutBy 6 (some .boolean) 4 [.ref p0, .ref p1, .ref p2, .int p3, .int p4, .int p5] μ (some (.int r)) F := by
  refine dtMet.of (by decide +kernel) (Nat.le_of_ble_eq_true rfl) (show dtW yX6_shutBy cX6_shutBy 6 (some .boolean) 4 (some (.int r)) F 0 [some (.ref p0), some (.ref p1), some (.ref p2), some (.int p3), some (.int p4), some (.int p5)] [] μ from ?_)
  rw [f_X6_shutBy] at h
  refine dr_aload_n p1 dX6_shutBy_0 rfl ?_
  refine dr_iload p4 dX6_shutBy_1 rfl ?_
  obtain ⟨_, hb1, h⟩ := dtBind h
  obtain ⟨x4, μ2, e3, h⟩ := dtCall h
  refine dr_callV_i (S0 := []) [.int p4] x4 μ2 dX6_shutBy_3 (c_X3_isOpen p1 p4 μ e3) mf_X3_isOpen wt_845 wt_846 wt_1281 rfl (dtRv hb1) (by decide) rfl (Nat.le_of_ble_eq_true rfl) (Nat.le_of_ble_eq_true rfl) rfl ?_
  obtain ⟨ht6, hf7⟩ := dtIte h
  refine dr_if_ne 11 dX6_shutBy_6 (by decide) (fun hc5 => ?_) (fun hc5 => ?_)
  · have h := hf7 hc5
    refine dr_aload_n p0 dX6_shutBy_11 rfl ?_
    refine dr_dup dX6_shutBy_12 rfl ?_
    obtain ⟨x8, e9, h⟩ := dtBind h
    refine dr_getI x8 dX6_shutBy_13 fl_RX6_30 e9 ?_
    refine dr_aload_n p2 dX6_shutBy_16 rfl ?_
    refine dr_aload_n p1 dX6_shutBy_17 rfl ?_
    refine dr_iload_n p3 dX6_shutBy_18 rfl ?_
    refine dr_iload p4 dX6_shutBy_19 rfl ?_
    refine dr_iload p5 dX6_shutBy_21 rfl ?_
    obtain ⟨_, hb10, h⟩ := dtBind h
    obtain ⟨x13, μ11, e12, h⟩ := dtCall h
    refine dr_callV_i (S0 := [.int x8, .ref p0]) [.ref p1, .int p3, .int p4, .int p5] x13 μ11 dX6_shutBy_23 (c_X2_shutWith p2 p1 p3 p4 p5 μ2 e12) mf_X2_shutWith wt_888 wt_889 wt_1282 rfl (dtRv hb10) (by decide) rfl (Nat.le_of_ble_eq_true rfl) (Nat.le_of_ble_eq_true rfl) rfl ?_
    obtain ⟨x16, μ14, e15, h⟩ := dtCall h
    refine dr_callS_i (S0 := [.int x8, .ref p0]) [.int x13] x16 μ14 dX6_shutBy_26 (c_J6_bitCount_0f7a4 x13 μ11 e15) mf_J6_bitCount_0f7a4 wt_929 wt_1283 rfl (Nat.le_of_ble_eq_true rfl) (Nat.le_of_ble_eq_true rfl) rfl ?_
    refine dr_iadd dX6_shutBy_29 ?_
    obtain ⟨μ17, e18, h⟩ := dtBind h
    refine dr_putI μ17 dX6_shutBy_30 fl_RX6_30 rfl e18 ?_
    refine dr_iconst (1 : Int32) dX6_shutBy_33 (by decide) ?_
    obtain ⟨hz, rfl, rfl⟩ := dtRet h
    exact dr_ireturn dX6_shutBy_34 (dtNz hz)
  · have h := ht6 hc5
    refine dr_iconst (0 : Int32) dX6_shutBy_9 (by decide) ?_
    obtain ⟨hz, rfl, rfl⟩ := dtRet h
    exact dr_ireturn dX6_shutBy_10 (dtNz hz)
/-! X6_unshut -/
theorem dX6_unshut_0 : decode cX6_unshut 0 = .ok (.aload_n 0, 1) := by decide +kernel
theorem dX6_unshut_1 : decode cX6_unshut 1 = .ok (.iload_n 1, 1) := by decide +kernel
theorem dX6_unshut_2 : decode cX6_unshut 2 = .ok (.invokevirtual 81, 3) := by decide +kernel
theorem dX6_unshut_5 : decode cX6_unshut 5 = .ok (.ifCond .eq 5, 3) := by decide +kernel
theorem dX6_unshut_8 : decode cX6_unshut 8 = .ok (.iconst 0, 1) := by decide +kernel
theorem dX6_unshut_9 : decode cX6_unshut 9 = .ok (.ireturn, 1) := by decide +kernel
theorem dX6_unshut_10 : decode cX6_unshut 10 = .ok (.aload_n 0, 1) := by decide +kernel
theorem dX6_unshut_11 : decode cX6_unshut 11 = .ok (.iload_n 1, 1) := by decide +kernel
theorem dX6_unshut_12 : decode cX6_unshut 12 = .ok (.invokevirtual 132, 3) := by decide +kernel
theorem dX6_unshut_15 : decode cX6_unshut 15 = .ok (.iconst 1, 1) := by decide +kernel
theorem dX6_unshut_16 : decode cX6_unshut 16 = .ok (.ireturn, 1) := by decide +kernel
set_option maxRecDepth 100000 in
def f_X6_unshut (p0 : Nat) (p1 : Int32) (μ : dtM) : Option (Int32 × dtM) :=
  (opRv 3 μ p0).bind fun _ => opCall (f_X3_isOpen p0 p1 μ) fun x4 μ2 => if x4 = 0 then ((opRv 3 μ2 p0).bind fun _ => (f_X3_unshut p0 p1 μ2).bind fun μ9 => opRet (1 : Int32) μ9) else (opRet (0 : Int32) μ2)
set_option maxRecDepth 100000 in
theorem c_X6_unshut {r : Int32} {F : dtM} (p0 : Nat) (p1 : Int32) (μ : dtM) (h : f_X6_unshut p0 p1 μ = some (r, F)) : dtMet yX6_unshut cX6_unshut 2 (some .boolean) 3 [.ref p0, .int p1] μ (some (.int r)) F := by
  refine dtMet.of (by decide +kernel) (Nat.le_of_ble_eq_true rfl) (show dtW yX6_unshut cX6_unshut 2 (some .boolean) 3 (some (.int r)) F 0 [some (.ref p0), some (.int p1)] [] μ from ?_)
  rw [f_X6_unshut] at h
  refine dr_aload_n p0 dX6_unshut_0 rfl ?_
  refine dr_iload_n p1 dX6_unshut_1 rfl ?_
  obtain ⟨_, hb1, h⟩ := dtBind h
  obtain ⟨x4, μ2, e3, h⟩ := dtCall h
  refine dr_callV_i (S0 := []) [.int p1] x4 μ2 dX6_unshut_2 (c_X3_isOpen p0 p1 μ e3) mf_X3_isOpen wt_845 wt_846 wt_1281 rfl (dtRv hb1) (by decide) rfl (Nat.le_of_ble_eq_true rfl) (Nat.le_of_ble_eq_true rfl) rfl ?_
  obtain ⟨ht6, hf7⟩ := dtIte h
  refine dr_if_eq 10 dX6_unshut_5 (by decide) (fun hc5 => ?_) (fun hc5 => ?_)
  · have h := ht6 hc5
    refine dr_aload_n p0 dX6_unshut_10 rfl ?_
    refine dr_iload_n p1 dX6_unshut_11 rfl ?_
    obtain ⟨_, hb8, h⟩ := dtBind h
    obtain ⟨μ9, e10, h⟩ := dtBind h
    refine dr_callV_v (S0 := []) [.int p1] μ9 dX6_unshut_12 (c_X3_unshut p0 p1 μ2 e10) mf_X3_unshut wt_694 wt_695 wt_1287 rfl (dtRv hb8) (by decide) rfl (Nat.le_of_ble_eq_true rfl) (Nat.le_of_ble_eq_true rfl) rfl ?_
    refine dr_iconst (1 : Int32) dX6_unshut_15 (by decide) ?_
    obtain ⟨hz, rfl, rfl⟩ := dtRet h
    exact dr_ireturn dX6_unshut_16 (dtNz hz)
  · have h := hf7 hc5
    refine dr_iconst (0 : Int32) dX6_unshut_8 (by decide) ?_
    obtain ⟨hz, rfl, rfl⟩ := dtRet h
    exact dr_ireturn dX6_unshut_9 (dtNz hz)
/-! X6_act -/
theorem dX6_act_0 : decode cX6_act 0 = .ok (.aload_n 2, 1) := by decide +kernel
theorem dX6_act_1 : decode cX6_act 1 = .ok (.getfield 78, 3) := by decide +kernel
theorem dX6_act_4 : decode cX6_act 4 = .ok (.iload 4, 2) := by decide +kernel
theorem dX6_act_6 : decode cX6_act 6 = .ok (.iaload, 1) := by decide +kernel
theorem dX6_act_7 : decode cX6_act 7 = .ok (.istore 5, 2) := by decide +kernel
theorem dX6_act_9 : decode cX6_act 9 = .ok (.aload_n 2, 1) := by decide +kernel
theorem dX6_act_10 : decode cX6_act 10 = .ok (.getfield 69, 3) := by decide +kernel
theorem dX6_act_13 : decode cX6_act 13 = .ok (.iload 4, 2) := by decide +kernel
theorem dX6_act_15 : decode cX6_act 15 = .ok (.iaload, 1) := by decide +kernel
theorem dX6_act_16 : decode cX6_act 16 = .ok (.istore 6, 2) := by decide +kernel
theorem dX6_act_18 : decode cX6_act 18 = .ok (.aload_n 2, 1) := by decide +kernel
theorem dX6_act_19 : decode cX6_act 19 = .ok (.getfield 46, 3) := by decide +kernel
theorem dX6_act_22 : decode cX6_act 22 = .ok (.iload 4, 2) := by decide +kernel
theorem dX6_act_24 : decode cX6_act 24 = .ok (.iaload, 1) := by decide +kernel
theorem dX6_act_25 : decode cX6_act 25 = .ok (.tableswitch 218 4 18 #[112, 218, 218, 218, 218, 218, 218, 218, 218, 218, 218, 75, 138, 167, 174], 75) := by decide +kernel
theorem dX6_act_100 : decode cX6_act 100 = .ok (.aload_n 1, 1) := by decide +kernel
theorem dX6_act_101 : decode cX6_act 101 = .ok (.iload 5, 2) := by decide +kernel
theorem dX6_act_103 : decode cX6_act 103 = .ok (.iload 6, 2) := by decide +kernel
theorem dX6_act_105 : decode cX6_act 105 = .ok (.invokevirtual 97, 3) := by decide +kernel
theorem dX6_act_108 : decode cX6_act 108 = .ok (.ifCond .eq 27, 3) := by decide +kernel
theorem dX6_act_111 : decode cX6_act 111 = .ok (.aload_n 0, 1) := by decide +kernel
theorem dX6_act_112 : decode cX6_act 112 = .ok (.aload_n 1, 1) := by decide +kernel
theorem dX6_act_113 : decode cX6_act 113 = .ok (.aload_n 3, 1) := by decide +kernel
theorem dX6_act_114 : decode cX6_act 114 = .ok (.iload 5, 2) := by decide +kernel
theorem dX6_act_116 : decode cX6_act 116 = .ok (.iload 6, 2) := by decide +kernel
theorem dX6_act_118 : decode cX6_act 118 = .ok (.aload_n 2, 1) := by decide +kernel
theorem dX6_act_119 : decode cX6_act 119 = .ok (.getfield 94, 3) := by decide +kernel
theorem dX6_act_122 : decode cX6_act 122 = .ok (.iload 4, 2) := by decide +kernel
theorem dX6_act_124 : decode cX6_act 124 = .ok (.iaload, 1) := by decide +kernel
theorem dX6_act_125 : decode cX6_act 125 = .ok (.invokevirtual 101, 3) := by decide +kernel
theorem dX6_act_128 : decode cX6_act 128 = .ok (.ifCond .eq 7, 3) := by decide +kernel
theorem dX6_act_131 : decode cX6_act 131 = .ok (.iconst 1, 1) := by decide +kernel
theorem dX6_act_132 : decode cX6_act 132 = .ok (.goto 4, 3) := by decide +kernel
theorem dX6_act_135 : decode cX6_act 135 = .ok (.iconst 0, 1) := by decide +kernel
theorem dX6_act_136 : decode cX6_act 136 = .ok (.ireturn, 1) := by decide +kernel
theorem dX6_act_137 : decode cX6_act 137 = .ok (.aload_n 1, 1) := by decide +kernel
theorem dX6_act_138 : decode cX6_act 138 = .ok (.iload 5, 2) := by decide +kernel
theorem dX6_act_140 : decode cX6_act 140 = .ok (.iload 6, 2) := by decide +kernel
theorem dX6_act_142 : decode cX6_act 142 = .ok (.invokevirtual 97, 3) := by decide +kernel
theorem dX6_act_145 : decode cX6_act 145 = .ok (.ifCond .eq 16, 3) := by decide +kernel
theorem dX6_act_148 : decode cX6_act 148 = .ok (.aload_n 1, 1) := by decide +kernel
theorem dX6_act_149 : decode cX6_act 149 = .ok (.iload 6, 2) := by decide +kernel
theorem dX6_act_151 : decode cX6_act 151 = .ok (.invokestatic 105, 3) := by decide +kernel
theorem dX6_act_154 : decode cX6_act 154 = .ok (.ifCond .eq 7, 3) := by decide +kernel
theorem dX6_act_157 : decode cX6_act 157 = .ok (.iconst 1, 1) := by decide +kernel
theorem dX6_act_158 : decode cX6_act 158 = .ok (.goto 4, 3) := by decide +kernel
theorem dX6_act_161 : decode cX6_act 161 = .ok (.iconst 0, 1) := by decide +kernel
theorem dX6_act_162 : decode cX6_act 162 = .ok (.ireturn, 1) := by decide +kernel
theorem dX6_act_163 : decode cX6_act 163 = .ok (.aload_n 1, 1) := by decide +kernel
theorem dX6_act_164 : decode cX6_act 164 = .ok (.iload 5, 2) := by decide +kernel
theorem dX6_act_166 : decode cX6_act 166 = .ok (.iload 6, 2) := by decide +kernel
theorem dX6_act_168 : decode cX6_act 168 = .ok (.invokevirtual 97, 3) := by decide +kernel
theorem dX6_act_171 : decode cX6_act 171 = .ok (.ifCond .eq 19, 3) := by decide +kernel
theorem dX6_act_174 : decode cX6_act 174 = .ok (.aload_n 0, 1) := by decide +kernel
theorem dX6_act_175 : decode cX6_act 175 = .ok (.aload_n 1, 1) := by decide +kernel
theorem dX6_act_176 : decode cX6_act 176 = .ok (.iload 5, 2) := by decide +kernel
theorem dX6_act_178 : decode cX6_act 178 = .ok (.iload 6, 2) := by decide +kernel
theorem dX6_act_180 : decode cX6_act 180 = .ok (.invokevirtual 109, 3) := by decide +kernel
theorem dX6_act_183 : decode cX6_act 183 = .ok (.ifCond .eq 7, 3) := by decide +kernel
theorem dX6_act_186 : decode cX6_act 186 = .ok (.iconst 1, 1) := by decide +kernel
theorem dX6_act_187 : decode cX6_act 187 = .ok (.goto 4, 3) := by decide +kernel
theorem dX6_act_190 : decode cX6_act 190 = .ok (.iconst 0, 1) := by decide +kernel
theorem dX6_act_191 : decode cX6_act 191 = .ok (.ireturn, 1) := by decide +kernel
theorem dX6_act_192 : decode cX6_act 192 = .ok (.aload_n 1, 1) := by decide +kernel
theorem dX6_act_193 : decode cX6_act 193 = .ok (.iload 5, 2) := by decide +kernel
theorem dX6_act_195 : decode cX6_act 195 = .ok (.invokestatic 113, 3) := by decide +kernel
theorem dX6_act_198 : decode cX6_act 198 = .ok (.ireturn, 1) := by decide +kernel
theorem dX6_act_199 : decode cX6_act 199 = .ok (.aload_n 0, 1) := by decide +kernel
theorem dX6_act_200 : decode cX6_act 200 = .ok (.aload_n 1, 1) := by decide +kernel
theorem dX6_act_201 : decode cX6_act 201 = .ok (.getfield 116, 3) := by decide +kernel
theorem dX6_act_204 : decode cX6_act 204 = .ok (.invokevirtual 119, 3) := by decide +kernel
theorem dX6_act_207 : decode cX6_act 207 = .ok (.istore 7, 2) := by decide +kernel
theorem dX6_act_209 : decode cX6_act 209 = .ok (.iload 7, 2) := by decide +kernel
theorem dX6_act_211 : decode cX6_act 211 = .ok (.iconst (-1), 1) := by decide +kernel
theorem dX6_act_212 : decode cX6_act 212 = .ok (.if_icmp .eq 29, 3) := by decide +kernel
theorem dX6_act_215 : decode cX6_act 215 = .ok (.aload_n 0, 1) := by decide +kernel
theorem dX6_act_216 : decode cX6_act 216 = .ok (.aload_n 1, 1) := by decide +kernel
theorem dX6_act_217 : decode cX6_act 217 = .ok (.aload_n 3, 1) := by decide +kernel
theorem dX6_act_218 : decode cX6_act 218 = .ok (.iconst (-1), 1) := by decide +kernel
theorem dX6_act_219 : decode cX6_act 219 = .ok (.iload 7, 2) := by decide +kernel
theorem dX6_act_221 : decode cX6_act 221 = .ok (.iconst 0, 1) := by decide +kernel
theorem dX6_act_222 : decode cX6_act 222 = .ok (.invokevirtual 101, 3) := by decide +kernel
theorem dX6_act_225 : decode cX6_act 225 = .ok (.ifCond .ne 12, 3) := by decide +kernel
theorem dX6_act_228 : decode cX6_act 228 = .ok (.aload_n 1, 1) := by decide +kernel
theorem dX6_act_229 : decode cX6_act 229 = .ok (.iload 7, 2) := by decide +kernel
theorem dX6_act_231 : decode cX6_act 231 = .ok (.invokestatic 105, 3) := by decide +kernel
theorem dX6_act_234 : decode cX6_act 234 = .ok (.ifCond .eq 7, 3) := by decide +kernel
theorem dX6_act_237 : decode cX6_act 237 = .ok (.iconst 1, 1) := by decide +kernel
theorem dX6_act_238 : decode cX6_act 238 = .ok (.goto 4, 3) := by decide +kernel
theorem dX6_act_241 : decode cX6_act 241 = .ok (.iconst 0, 1) := by decide +kernel
theorem dX6_act_242 : decode cX6_act 242 = .ok (.ireturn, 1) := by decide +kernel
theorem dX6_act_243 : decode cX6_act 243 = .ok (.iconst 1, 1) := by decide +kernel
theorem dX6_act_244 : decode cX6_act 244 = .ok (.ireturn, 1) := by decide +kernel
set_option maxRecDepth 100000 in
def f_X6_act_243  (μ : dtM) : Option (Int32 × dtM) :=
  opRet (1 : Int32) μ
set_option maxRecDepth 100000 in
def f_X6_act_162 (s0 : Int32) (μ : dtM) : Option (Int32 × dtM) :=
  opRet s0 μ
set_option maxRecDepth 100000 in
def f_X6_act_161  (μ : dtM) : Option (Int32 × dtM) :=
  f_X6_act_162 (0 : Int32) μ
set_option maxRecDepth 100000 in
def f_X6_act_137 (l1 : Nat) (l5 : Int32) (l6 : Int32) (μ : dtM) : Option (Int32 × dtM) :=
  (opRv 3 μ l1).bind fun _ => opCall (f_X3_isAt l1 l5 l6 μ) fun x4 μ2 => if x4 = 0 then (f_X6_act_161 μ2) else (opCall (f_X6_unshut l1 l6 μ2) fun x10 μ8 => if x10 = 0 then (f_X6_act_161 μ8) else (f_X6_act_162 (1 : Int32) μ8))
set_option maxRecDepth 100000 in
def f_X6_act_136 (s0 : Int32) (μ : dtM) : Option (Int32 × dtM) :=
  opRet s0 μ
set_option maxRecDepth 100000 in
def f_X6_act_135  (μ : dtM) : Option (Int32 × dtM) :=
  f_X6_act_136 (0 : Int32) μ
set_option maxRecDepth 100000 in
def f_X6_act_100 (l0 : Nat) (l1 : Nat) (l2 : Nat) (l3 : Nat) (l4 : Int32) (l5 : Int32) (l6 : Int32) (μ : dtM) : Option (Int32 × dtM) :=
  (opRv 3 μ l1).bind fun _ => opCall (f_X3_isAt l1 l5 l6 μ) fun x4 μ2 => if x4 = 0 then (f_X6_act_135 μ2) else ((opGR 0 7 μ2 l2).bind fun x8 => (opLI 1 μ2 x8 l4).bind fun x10 => (opRv 6 μ2 l0).bind fun _ => opCall (f_X6_shutBy l0 l1 l3 l5 l6 x10 μ2) fun x15 μ13 => if x15 = 0 then (f_X6_act_135 μ13) else (f_X6_act_136 (1 : Int32) μ13))
set_option maxRecDepth 100000 in
def f_X6_act_191 (s0 : Int32) (μ : dtM) : Option (Int32 × dtM) :=
  opRet s0 μ
set_option maxRecDepth 100000 in
def f_X6_act_190  (μ : dtM) : Option (Int32 × dtM) :=
  f_X6_act_191 (0 : Int32) μ
set_option maxRecDepth 100000 in
def f_X6_act_163 (l0 : Nat) (l1 : Nat) (l5 : Int32) (l6 : Int32) (μ : dtM) : Option (Int32 × dtM) :=
  (opRv 3 μ l1).bind fun _ => opCall (f_X3_isAt l1 l5 l6 μ) fun x4 μ2 => if x4 = 0 then (f_X6_act_190 μ2) else ((opRv 6 μ2 l0).bind fun _ => opCall (f_X6_pass l0 l1 l5 l6 μ2) fun x11 μ9 => if x11 = 0 then (f_X6_act_190 μ9) else (f_X6_act_191 (1 : Int32) μ9))
set_option maxRecDepth 100000 in
def f_X6_act_192 (l1 : Nat) (l5 : Int32) (μ : dtM) : Option (Int32 × dtM) :=
  opCall (f_X6_forgetAll l1 l5 μ) fun x3 μ1 => opRet x3 μ1
set_option maxRecDepth 100000 in
def f_X6_act_242 (s0 : Int32) (μ : dtM) : Option (Int32 × dtM) :=
  opRet s0 μ
set_option maxRecDepth 100000 in
def f_X6_act_241  (μ : dtM) : Option (Int32 × dtM) :=
  f_X6_act_242 (0 : Int32) μ
set_option maxRecDepth 100000 in
def f_X6_act_237  (μ : dtM) : Option (Int32 × dtM) :=
  f_X6_act_242 (1 : Int32) μ
set_option maxRecDepth 100000 in
def f_X6_act_199 (l0 : Nat) (l1 : Nat) (l3 : Nat) (μ : dtM) : Option (Int32 × dtM) :=
  (opGI 3 1 μ l1).bind fun x1 => (opRv 6 μ l0).bind fun _ => opCall (f_X6_draw l0 x1 μ) fun x6 μ4 => if x6 = (-1 : Int32) then (f_X6_act_241 μ4) else ((opRv 6 μ4 l0).bind fun _ => opCall (f_X6_shutBy l0 l1 l3 (-1 : Int32) x6 (0 : Int32) μ4) fun x13 μ11 => if x13 = 0 then (opCall (f_X6_unshut l1 x6 μ11) fun x19 μ17 => if x19 = 0 then (f_X6_act_241 μ17) else (f_X6_act_237 μ17)) else (f_X6_act_237 μ11))
set_option maxRecDepth 100000 in
def f_X6_act (p0 : Nat) (p1 : Nat) (p2 : Nat) (p3 : Nat) (p4 : Int32) (μ : dtM) : Option (Int32 × dtM) :=
  (opGR 0 5 μ p2).bind fun x1 => (opLI 1 μ x1 p4).bind fun x3 => (opGR 0 6 μ p2).bind fun x5 => (opLI 1 μ x5 p4).bind fun x7 => (opGR 0 3 μ p2).bind fun x9 => (opLI 1 μ x9 p4).bind fun x11 => if x11 = 4 then (f_X6_act_137 p1 x3 x7 μ) else if x11 = 15 then (f_X6_act_100 p0 p1 p2 p3 p4 x3 x7 μ) else if x11 = 16 then (f_X6_act_163 p0 p1 x3 x7 μ) else if x11 = 17 then (f_X6_act_192 p1 x3 μ) else if x11 = 18 then (f_X6_act_199 p0 p1 p3 μ) else f_X6_act_243 μ
set_option maxRecDepth 100000 in
theorem c_X6_act_243 {r : Int32} {F : dtM}  (μ : dtM) (h : f_X6_act_243  μ = some (r, F)) : dtW yX6_act cX6_act 8 (some .boolean) 5 (some (.int r)) F 243 [] [] μ := by
  rw [f_X6_act_243] at h
  refine dr_iconst (1 : Int32) dX6_act_243 (by decide) ?_
  obtain ⟨hz, rfl, rfl⟩ := dtRet h
  exact dr_ireturn dX6_act_244 (dtNz hz)
set_option maxRecDepth 100000 in
theorem c_X6_act_162 {r : Int32} {F : dtM} (s0 : Int32) (μ : dtM) (h : f_X6_act_162 s0 μ = some (r, F)) : dtW yX6_act cX6_act 8 (some .boolean) 5 (some (.int r)) F 162 [] [.int s0] μ := by
  rw [f_X6_act_162] at h
  obtain ⟨hz, rfl, rfl⟩ := dtRet h
  exact dr_ireturn dX6_act_162 (dtNz hz)
set_option maxRecDepth 100000 in
theorem c_X6_act_161 {r : Int32} {F : dtM}  (μ : dtM) (h : f_X6_act_161  μ = some (r, F)) : dtW yX6_act cX6_act 8 (some .boolean) 5 (some (.int r)) F 161 [] [] μ := by
  rw [f_X6_act_161] at h
  refine dr_iconst (0 : Int32) dX6_act_161 (by decide) ?_
  exact c_X6_act_162 (0 : Int32) μ h
set_option maxRecDepth 100000 in
theorem c_X6_act_137 {r : Int32} {F : dtM} (l1 : Nat) (l5 : Int32) (l6 : Int32) (μ : dtM) (h : f_X6_act_137 l1 l5 l6 μ = some (r, F)) : dtW yX6_act cX6_act 8 (some .boolean) 5 (some (.int r)) F 137 [none, some (.ref l1), none, none, none, some (.int l5), some (.int l6)] [] μ := by
  rw [f_X6_act_137] at h
  refine dr_aload_n l1 dX6_act_137 rfl ?_
  refine dr_iload l5 dX6_act_138 rfl ?_
  refine dr_iload l6 dX6_act_140 rfl ?_
  obtain ⟨_, hb1, h⟩ := dtBind h
  obtain ⟨x4, μ2, e3, h⟩ := dtCall h
  refine dr_callV_i (S0 := []) [.int l5, .int l6] x4 μ2 dX6_act_142 (c_X3_isAt l1 l5 l6 μ e3) mf_X3_isAt wt_882 wt_883 wt_1276 rfl (dtRv hb1) (by decide) rfl (Nat.le_of_ble_eq_true rfl) (Nat.le_of_ble_eq_true rfl) rfl ?_
  obtain ⟨ht6, hf7⟩ := dtIte h
  refine dr_if_eq 161 dX6_act_145 (by decide) (fun hc5 => ?_) (fun hc5 => ?_)
  · have h := ht6 hc5
    refine dr_mask [] [] rfl ?_
    exact c_X6_act_161 μ2 h
  · have h := hf7 hc5
    refine dr_aload_n l1 dX6_act_148 rfl ?_
    refine dr_iload l6 dX6_act_149 rfl ?_
    obtain ⟨x10, μ8, e9, h⟩ := dtCall h
    refine dr_callS_i (S0 := []) [.ref l1, .int l6] x10 μ8 dX6_act_151 (c_X6_unshut l1 l6 μ2 e9) mf_X6_unshut wt_1285 wt_1284 rfl (Nat.le_of_ble_eq_true rfl) (Nat.le_of_ble_eq_true rfl) rfl ?_
    obtain ⟨ht12, hf13⟩ := dtIte h
    refine dr_if_eq 161 dX6_act_154 (by decide) (fun hc11 => ?_) (fun hc11 => ?_)
    · have h := ht12 hc11
      refine dr_mask [] [] rfl ?_
      exact c_X6_act_161 μ8 h
    · have h := hf13 hc11
      refine dr_iconst (1 : Int32) dX6_act_157 (by decide) ?_
      refine dr_goto 162 dX6_act_158 (by decide) ?_
      refine dr_mask [] [] rfl ?_
      exact c_X6_act_162 (1 : Int32) μ8 h
set_option maxRecDepth 100000 in
theorem c_X6_act_136 {r : Int32} {F : dtM} (s0 : Int32) (μ : dtM) (h : f_X6_act_136 s0 μ = some (r, F)) : dtW yX6_act cX6_act 8 (some .boolean) 5 (some (.int r)) F 136 [] [.int s0] μ := by
  rw [f_X6_act_136] at h
  obtain ⟨hz, rfl, rfl⟩ := dtRet h
  exact dr_ireturn dX6_act_136 (dtNz hz)
set_option maxRecDepth 100000 in
theorem c_X6_act_135 {r : Int32} {F : dtM}  (μ : dtM) (h : f_X6_act_135  μ = some (r, F)) : dtW yX6_act cX6_act 8 (some .boolean) 5 (some (.int r)) F 135 [] [] μ := by
  rw [f_X6_act_135] at h
  refine dr_iconst (0 : Int32) dX6_act_135 (by decide) ?_
  exact c_X6_act_136 (0 : Int32) μ h
set_option maxRecDepth 100000 in
theorem c_X6_act_100 {r : Int32} {F : dtM} (l0 : Nat) (l1 : Nat) (l2 : Nat) (l3 : Nat) (l4 : Int32) (l5 : Int32) (l6 : Int32) (μ : dtM) (h : f_X6_act_100 l0 l1 l2 l3 l4 l5 l6 μ = some (r, F)) : dtW yX6_act cX6_act 8 (some .boolean) 5 (some (.int r)) F 100 [some (.ref l0), some (.ref l1), some (.ref l2), some (.ref l3), some (.int l4), some (.int l5), some (.int l6)] [] μ := by
  rw [f_X6_act_100] at h
  refine dr_aload_n l1 dX6_act_100 rfl ?_
  refine dr_iload l5 dX6_act_101 rfl ?_
  refine dr_iload l6 dX6_act_103 rfl ?_
  obtain ⟨_, hb1, h⟩ := dtBind h
  obtain ⟨x4, μ2, e3, h⟩ := dtCall h
  refine dr_callV_i (S0 := []) [.int l5, .int l6] x4 μ2 dX6_act_105 (c_X3_isAt l1 l5 l6 μ e3) mf_X3_isAt wt_882 wt_883 wt_1276 rfl (dtRv hb1) (by decide) rfl (Nat.le_of_ble_eq_true rfl) (Nat.le_of_ble_eq_true rfl) rfl ?_
  obtain ⟨ht6, hf7⟩ := dtIte h
  refine dr_if_eq 135 dX6_act_108 (by decide) (fun hc5 => ?_) (fun hc5 => ?_)
  · have h := ht6 hc5
    refine dr_mask [] [] rfl ?_
    exact c_X6_act_135 μ2 h
  · have h := hf7 hc5
    refine dr_aload_n l0 dX6_act_111 rfl ?_
    refine dr_aload_n l1 dX6_act_112 rfl ?_
    refine dr_aload_n l3 dX6_act_113 rfl ?_
    refine dr_iload l5 dX6_act_114 rfl ?_
    refine dr_iload l6 dX6_act_116 rfl ?_
    refine dr_aload_n l2 dX6_act_118 rfl ?_
    obtain ⟨x8, e9, h⟩ := dtBind h
    refine dr_getR x8 dX6_act_119 fl_RX6_94 e9 ?_
    refine dr_iload l4 dX6_act_122 rfl ?_
    obtain ⟨x10, e11, h⟩ := dtBind h
    refine dr_iaload x10 dX6_act_124 e11 ?_
    obtain ⟨_, hb12, h⟩ := dtBind h
    obtain ⟨x15, μ13, e14, h⟩ := dtCall h
    refine dr_callV_i (S0 := []) [.ref l1, .ref l3, .int l5, .int l6, .int x10] x15 μ13 dX6_act_125 (c_X6_shutBy l0 l1 l3 l5 l6 x10 μ2 e14) mf_X6_shutBy wt_1279 ws_48 wt_1277 rfl (dtRv hb12) (by decide) rfl (Nat.le_of_ble_eq_true rfl) (Nat.le_of_ble_eq_true rfl) rfl ?_
    obtain ⟨ht17, hf18⟩ := dtIte h
    refine dr_if_eq 135 dX6_act_128 (by decide) (fun hc16 => ?_) (fun hc16 => ?_)
    · have h := ht17 hc16
      refine dr_mask [] [] rfl ?_
      exact c_X6_act_135 μ13 h
    · have h := hf18 hc16
      refine dr_iconst (1 : Int32) dX6_act_131 (by decide) ?_
      refine dr_goto 136 dX6_act_132 (by decide) ?_
      refine dr_mask [] [] rfl ?_
      exact c_X6_act_136 (1 : Int32) μ13 h
set_option maxRecDepth 100000 in
theorem c_X6_act_191 {r : Int32} {F : dtM} (s0 : Int32) (μ : dtM) (h : f_X6_act_191 s0 μ = some (r, F)) : dtW yX6_act cX6_act 8 (some .boolean) 5 (some (.int r)) F 191 [] [.int s0] μ := by
  rw [f_X6_act_191] at h
  obtain ⟨hz, rfl, rfl⟩ := dtRet h
  exact dr_ireturn dX6_act_191 (dtNz hz)
set_option maxRecDepth 100000 in
theorem c_X6_act_190 {r : Int32} {F : dtM}  (μ : dtM) (h : f_X6_act_190  μ = some (r, F)) : dtW yX6_act cX6_act 8 (some .boolean) 5 (some (.int r)) F 190 [] [] μ := by
  rw [f_X6_act_190] at h
  refine dr_iconst (0 : Int32) dX6_act_190 (by decide) ?_
  exact c_X6_act_191 (0 : Int32) μ h
set_option maxRecDepth 100000 in
theorem c_X6_act_163 {r : Int32} {F : dtM} (l0 : Nat) (l1 : Nat) (l5 : Int32) (l6 : Int32) (μ : dtM) (h : f_X6_act_163 l0 l1 l5 l6 μ = some (r, F)) : dtW yX6_act cX6_act 8 (some .boolean) 5 (some (.int r)) F 163 [some (.ref l0), some (.ref l1), none, none, none, some (.int l5), some (.int l6)] [] μ := by
  rw [f_X6_act_163] at h
  refine dr_aload_n l1 dX6_act_163 rfl ?_
  refine dr_iload l5 dX6_act_164 rfl ?_
  refine dr_iload l6 dX6_act_166 rfl ?_
  obtain ⟨_, hb1, h⟩ := dtBind h
  obtain ⟨x4, μ2, e3, h⟩ := dtCall h
  refine dr_callV_i (S0 := []) [.int l5, .int l6] x4 μ2 dX6_act_168 (c_X3_isAt l1 l5 l6 μ e3) mf_X3_isAt wt_882 wt_883 wt_1276 rfl (dtRv hb1) (by decide) rfl (Nat.le_of_ble_eq_true rfl) (Nat.le_of_ble_eq_true rfl) rfl ?_
  obtain ⟨ht6, hf7⟩ := dtIte h
  refine dr_if_eq 190 dX6_act_171 (by decide) (fun hc5 => ?_) (fun hc5 => ?_)
  · have h := ht6 hc5
    refine dr_mask [] [] rfl ?_
    exact c_X6_act_190 μ2 h
  · have h := hf7 hc5
    refine dr_aload_n l0 dX6_act_174 rfl ?_
    refine dr_aload_n l1 dX6_act_175 rfl ?_
    refine dr_iload l5 dX6_act_176 rfl ?_
    refine dr_iload l6 dX6_act_178 rfl ?_
    obtain ⟨_, hb8, h⟩ := dtBind h
    obtain ⟨x11, μ9, e10, h⟩ := dtCall h
    refine dr_callV_i (S0 := []) [.ref l1, .int l5, .int l6] x11 μ9 dX6_act_180 (c_X6_pass l0 l1 l5 l6 μ2 e10) mf_X6_pass wt_1290 ws_49 wt_1288 rfl (dtRv hb8) (by decide) rfl (Nat.le_of_ble_eq_true rfl) (Nat.le_of_ble_eq_true rfl) rfl ?_
    obtain ⟨ht13, hf14⟩ := dtIte h
    refine dr_if_eq 190 dX6_act_183 (by decide) (fun hc12 => ?_) (fun hc12 => ?_)
    · have h := ht13 hc12
      refine dr_mask [] [] rfl ?_
      exact c_X6_act_190 μ9 h
    · have h := hf14 hc12
      refine dr_iconst (1 : Int32) dX6_act_186 (by decide) ?_
      refine dr_goto 191 dX6_act_187 (by decide) ?_
      refine dr_mask [] [] rfl ?_
      exact c_X6_act_191 (1 : Int32) μ9 h
set_option maxRecDepth 100000 in
theorem c_X6_act_192 {r : Int32} {F : dtM} (l1 : Nat) (l5 : Int32) (μ : dtM) (h : f_X6_act_192 l1 l5 μ = some (r, F)) : dtW yX6_act cX6_act 8 (some .boolean) 5 (some (.int r)) F 192 [none, some (.ref l1), none, none, none, some (.int l5)] [] μ := by
  rw [f_X6_act_192] at h
  refine dr_aload_n l1 dX6_act_192 rfl ?_
  refine dr_iload l5 dX6_act_193 rfl ?_
  obtain ⟨x3, μ1, e2, h⟩ := dtCall h
  refine dr_callS_i (S0 := []) [.ref l1, .int l5] x3 μ1 dX6_act_195 (c_X6_forgetAll l1 l5 μ e2) mf_X6_forgetAll wt_1294 wt_1293 rfl (Nat.le_of_ble_eq_true rfl) (Nat.le_of_ble_eq_true rfl) rfl ?_
  obtain ⟨hz, rfl, rfl⟩ := dtRet h
  exact dr_ireturn dX6_act_198 (dtNz hz)
set_option maxRecDepth 100000 in
theorem c_X6_act_242 {r : Int32} {F : dtM} (s0 : Int32) (μ : dtM) (h : f_X6_act_242 s0 μ = some (r, F)) : dtW yX6_act cX6_act 8 (some .boolean) 5 (some (.int r)) F 242 [] [.int s0] μ := by
  rw [f_X6_act_242] at h
  obtain ⟨hz, rfl, rfl⟩ := dtRet h
  exact dr_ireturn dX6_act_242 (dtNz hz)
set_option maxRecDepth 100000 in
theorem c_X6_act_241 {r : Int32} {F : dtM}  (μ : dtM) (h : f_X6_act_241  μ = some (r, F)) : dtW yX6_act cX6_act 8 (some .boolean) 5 (some (.int r)) F 241 [] [] μ := by
  rw [f_X6_act_241] at h
  refine dr_iconst (0 : Int32) dX6_act_241 (by decide) ?_
  exact c_X6_act_242 (0 : Int32) μ h
set_option maxRecDepth 100000 in
theorem c_X6_act_237 {r : Int32} {F : dtM}  (μ : dtM) (h : f_X6_act_237  μ = some (r, F)) : dtW yX6_act cX6_act 8 (some .boolean) 5 (some (.int r)) F 237 [] [] μ := by
  rw [f_X6_act_237] at h
  refine dr_iconst (1 : Int32) dX6_act_237 (by decide) ?_
  refine dr_goto 242 dX6_act_238 (by decide) ?_
  exact c_X6_act_242 (1 : Int32) μ h
set_option maxRecDepth 100000 in
theorem c_X6_act_199 {r : Int32} {F : dtM} (l0 : Nat) (l1 : Nat) (l3 : Nat) (μ : dtM) (h : f_X6_act_199 l0 l1 l3 μ = some (r, F)) : dtW yX6_act cX6_act 8 (some .boolean) 5 (some (.int r)) F 199 [some (.ref l0), some (.ref l1), none, some (.ref l3)] [] μ := by
  rw [f_X6_act_199] at h
  refine dr_aload_n l0 dX6_act_199 rfl ?_
  refine dr_aload_n l1 dX6_act_200 rfl ?_
  obtain ⟨x1, e2, h⟩ := dtBind h
  refine dr_getI x1 dX6_act_201 fl_RX6_116 e2 ?_
  obtain ⟨_, hb3, h⟩ := dtBind h
  obtain ⟨x6, μ4, e5, h⟩ := dtCall h
  refine dr_callV_i (S0 := []) [.int x1] x6 μ4 dX6_act_204 (c_X6_draw l0 x1 μ e5) mf_X6_draw wt_1298 ws_50 wt_1296 rfl (dtRv hb3) (by decide) rfl (Nat.le_of_ble_eq_true rfl) (Nat.le_of_ble_eq_true rfl) rfl ?_
  refine dr_istore [some (.ref l0), some (.ref l1), none, some (.ref l3), none, none, none, some (.int x6)] dX6_act_207 rfl rfl rfl ?_
  refine dr_iload x6 dX6_act_209 rfl ?_
  refine dr_iconst (-1 : Int32) dX6_act_211 (by decide) ?_
  obtain ⟨ht8, hf9⟩ := dtIte h
  refine dr_icmp_eq 241 dX6_act_212 (by decide) (fun hc7 => ?_) (fun hc7 => ?_)
  · have h := ht8 hc7
    refine dr_mask [] [] rfl ?_
    exact c_X6_act_241 μ4 h
  · have h := hf9 hc7
    refine dr_aload_n l0 dX6_act_215 rfl ?_
    refine dr_aload_n l1 dX6_act_216 rfl ?_
    refine dr_aload_n l3 dX6_act_217 rfl ?_
    refine dr_iconst (-1 : Int32) dX6_act_218 (by decide) ?_
    refine dr_iload x6 dX6_act_219 rfl ?_
    refine dr_iconst (0 : Int32) dX6_act_221 (by decide) ?_
    obtain ⟨_, hb10, h⟩ := dtBind h
    obtain ⟨x13, μ11, e12, h⟩ := dtCall h
    refine dr_callV_i (S0 := []) [.ref l1, .ref l3, .int (-1 : Int32), .int x6, .int (0 : Int32)] x13 μ11 dX6_act_222 (c_X6_shutBy l0 l1 l3 (-1 : Int32) x6 (0 : Int32) μ4 e12) mf_X6_shutBy wt_1279 ws_48 wt_1277 rfl (dtRv hb10) (by decide) rfl (Nat.le_of_ble_eq_true rfl) (Nat.le_of_ble_eq_true rfl) rfl ?_
    obtain ⟨ht15, hf16⟩ := dtIte h
    refine dr_if_ne 237 dX6_act_225 (by decide) (fun hc14 => ?_) (fun hc14 => ?_)
    · have h := hf16 hc14
      refine dr_mask [] [] rfl ?_
      exact c_X6_act_237 μ11 h
    · have h := ht15 hc14
      refine dr_aload_n l1 dX6_act_228 rfl ?_
      refine dr_iload x6 dX6_act_229 rfl ?_
      obtain ⟨x19, μ17, e18, h⟩ := dtCall h
      refine dr_callS_i (S0 := []) [.ref l1, .int x6] x19 μ17 dX6_act_231 (c_X6_unshut l1 x6 μ11 e18) mf_X6_unshut wt_1285 wt_1284 rfl (Nat.le_of_ble_eq_true rfl) (Nat.le_of_ble_eq_true rfl) rfl ?_
      obtain ⟨ht21, hf22⟩ := dtIte h
      refine dr_if_eq 241 dX6_act_234 (by decide) (fun hc20 => ?_) (fun hc20 => ?_)
      · have h := ht21 hc20
        refine dr_mask [] [] rfl ?_
        exact c_X6_act_241 μ17 h
      · have h := hf22 hc20
        refine dr_mask [] [] rfl ?_
        exact c_X6_act_237 μ17 h
set_option maxRecDepth 100000 in
theorem c_X6_act {r : Int32} {F : dtM} (p0 : Nat) (p1 : Nat) (p2 : Nat) (p3 : Nat) (p4 : Int32) (μ : dtM) (h : f_X6_act p0 p1 p2 p3 p4 μ = some (r, F)) : dtMet yX6_act cX6_act 8 (some .boolean) 5 [.ref p0, .ref p1, .ref p2, .ref p3, .int p4] μ (some (.int r)) F := by
  refine dtMet.of (by decide +kernel) (Nat.le_of_ble_eq_true rfl) (show dtW yX6_act cX6_act 8 (some .boolean) 5 (some (.int r)) F 0 [some (.ref p0), some (.ref p1), some (.ref p2), some (.ref p3), some (.int p4)] [] μ from ?_)
  rw [f_X6_act] at h
  refine dr_aload_n p2 dX6_act_0 rfl ?_
  obtain ⟨x1, e2, h⟩ := dtBind h
  refine dr_getR x1 dX6_act_1 fl_RX6_78 e2 ?_
  refine dr_iload p4 dX6_act_4 rfl ?_
  obtain ⟨x3, e4, h⟩ := dtBind h
  refine dr_iaload x3 dX6_act_6 e4 ?_
  refine dr_istore [some (.ref p0), some (.ref p1), some (.ref p2), some (.ref p3), some (.int p4), some (.int x3)] dX6_act_7 rfl rfl rfl ?_
  refine dr_aload_n p2 dX6_act_9 rfl ?_
  obtain ⟨x5, e6, h⟩ := dtBind h
  refine dr_getR x5 dX6_act_10 fl_RX6_69 e6 ?_
  refine dr_iload p4 dX6_act_13 rfl ?_
  obtain ⟨x7, e8, h⟩ := dtBind h
  refine dr_iaload x7 dX6_act_15 e8 ?_
  refine dr_istore [some (.ref p0), some (.ref p1), some (.ref p2), some (.ref p3), some (.int p4), some (.int x3), some (.int x7)] dX6_act_16 rfl rfl rfl ?_
  refine dr_aload_n p2 dX6_act_18 rfl ?_
  obtain ⟨x9, e10, h⟩ := dtBind h
  refine dr_getR x9 dX6_act_19 fl_RX6_46 e10 ?_
  refine dr_iload p4 dX6_act_22 rfl ?_
  obtain ⟨x11, e12, h⟩ := dtBind h
  refine dr_iaload x11 dX6_act_24 e12 ?_
  obtain ⟨ht13, h⟩ := dtIte h
  refine Decidable.byCases (dec := inferInstance) (fun hc15 : x11 = 4 => ?_) (fun hc15 => ?_)
  · have h := ht13 hc15
    refine dr_tableIn (off := 112) 137 dX6_act_25 (by rw [hc15]; decide) (by rw [hc15]; decide) (by rw [hc15]; rfl) (by decide) ?_
    refine dr_mask [false, true, false, false, false, true, true] [none, some (.ref p1), none, none, none, some (.int x3), some (.int x7)] rfl ?_
    exact c_X6_act_137 p1 x3 x7 μ h
  have h := h hc15
  obtain ⟨ht16, h⟩ := dtIte h
  refine Decidable.byCases (dec := inferInstance) (fun hc18 : x11 = 15 => ?_) (fun hc18 => ?_)
  · have h := ht16 hc18
    refine dr_tableIn (off := 75) 100 dX6_act_25 (by rw [hc18]; decide) (by rw [hc18]; decide) (by rw [hc18]; rfl) (by decide) ?_
    exact c_X6_act_100 p0 p1 p2 p3 p4 x3 x7 μ h
  have h := h hc18
  obtain ⟨ht19, h⟩ := dtIte h
  refine Decidable.byCases (dec := inferInstance) (fun hc21 : x11 = 16 => ?_) (fun hc21 => ?_)
  · have h := ht19 hc21
    refine dr_tableIn (off := 138) 163 dX6_act_25 (by rw [hc21]; decide) (by rw [hc21]; decide) (by rw [hc21]; rfl) (by decide) ?_
    refine dr_mask [true, true, false, false, false, true, true] [some (.ref p0), some (.ref p1), none, none, none, some (.int x3), some (.int x7)] rfl ?_
    exact c_X6_act_163 p0 p1 x3 x7 μ h
  have h := h hc21
  obtain ⟨ht22, h⟩ := dtIte h
  refine Decidable.byCases (dec := inferInstance) (fun hc24 : x11 = 17 => ?_) (fun hc24 => ?_)
  · have h := ht22 hc24
    refine dr_tableIn (off := 167) 192 dX6_act_25 (by rw [hc24]; decide) (by rw [hc24]; decide) (by rw [hc24]; rfl) (by decide) ?_
    refine dr_mask [false, true, false, false, false, true] [none, some (.ref p1), none, none, none, some (.int x3)] rfl ?_
    exact c_X6_act_192 p1 x3 μ h
  have h := h hc24
  obtain ⟨ht25, h⟩ := dtIte h
  refine Decidable.byCases (dec := inferInstance) (fun hc27 : x11 = 18 => ?_) (fun hc27 => ?_)
  · have h := ht25 hc27
    refine dr_tableIn (off := 174) 199 dX6_act_25 (by rw [hc27]; decide) (by rw [hc27]; decide) (by rw [hc27]; rfl) (by decide) ?_
    refine dr_mask [true, true, false, true] [some (.ref p0), some (.ref p1), none, some (.ref p3)] rfl ?_
    exact c_X6_act_199 p0 p1 p3 μ h
  have h := h hc27
  have kd28 : dtW yX6_act cX6_act 8 (some .boolean) 5 (some (.int r)) F 243 [some (.ref p0), some (.ref p1), some (.ref p2), some (.ref p3), some (.int p4), some (.int x3), some (.int x7)] [] μ := by
    refine dr_mask [] [] rfl ?_
    exact c_X6_act_243 μ h
  refine Decidable.byCases (dec := inferInstance) (fun hlo : (x11).toInt < 4 ∨ 18 < (x11).toInt => dr_tableOut 243 dX6_act_25 hlo (by decide) kd28) (fun hlo => ?_)
  obtain ⟨hl1, hl2⟩ := not_or.mp hlo
  have hv : (x11).toInt = 4 ∨ (x11).toInt = 5 ∨ (x11).toInt = 6 ∨ (x11).toInt = 7 ∨ (x11).toInt = 8 ∨ (x11).toInt = 9 ∨ (x11).toInt = 10 ∨ (x11).toInt = 11 ∨ (x11).toInt = 12 ∨ (x11).toInt = 13 ∨ (x11).toInt = 14 ∨ (x11).toInt = 15 ∨ (x11).toInt = 16 ∨ (x11).toInt = 17 ∨ (x11).toInt = 18 := by omega
  rcases hv with hv | hv | hv | hv | hv | hv | hv | hv | hv | hv | hv | hv | hv | hv | hv
  · exact absurd (Int32.toInt_inj.mp (hv.trans (show (4 : Int) = (4 : Int32).toInt by decide))) hc15
  · exact dr_tableIn (off := 218) 243 dX6_act_25 hl1 hl2 (by rw [hv]; rfl) (by decide) kd28
  · exact dr_tableIn (off := 218) 243 dX6_act_25 hl1 hl2 (by rw [hv]; rfl) (by decide) kd28
  · exact dr_tableIn (off := 218) 243 dX6_act_25 hl1 hl2 (by rw [hv]; rfl) (by decide) kd28
  · exact dr_tableIn (off := 218) 243 dX6_act_25 hl1 hl2 (by rw [hv]; rfl) (by decide) kd28
  · exact dr_tableIn (off := 218) 243 dX6_act_25 hl1 hl2 (by rw [hv]; rfl) (by decide) kd28
  · exact dr_tableIn (off := 218) 243 dX6_act_25 hl1 hl2 (by rw [hv]; rfl) (by decide) kd28
  · exact dr_tableIn (off := 218) 243 dX6_act_25 hl1 hl2 (by rw [hv]; rfl) (by decide) kd28
  · exact dr_tableIn (off := 218) 243 dX6_act_25 hl1 hl2 (by rw [hv]; rfl) (by decide) kd28
  · exact dr_tableIn (off := 218) 243 dX6_act_25 hl1 hl2 (by rw [hv]; rfl) (by decide) kd28
  · exact dr_tableIn (off := 218) 243 dX6_act_25 hl1 hl2 (by rw [hv]; rfl) (by decide) kd28
  · exact absurd (Int32.toInt_inj.mp (hv.trans (show (15 : Int) = (15 : Int32).toInt by decide))) hc18
  · exact absurd (Int32.toInt_inj.mp (hv.trans (show (16 : Int) = (16 : Int32).toInt by decide))) hc21
  · exact absurd (Int32.toInt_inj.mp (hv.trans (show (17 : Int) = (17 : Int32).toInt by decide))) hc24
  · exact absurd (Int32.toInt_inj.mp (hv.trans (show (18 : Int) = (18 : Int32).toInt by decide))) hc27
/-! X6_behindEnd -/
theorem dX6_behindEnd_0 : decode cX6_behindEnd 0 = .ok (.aload_n 1, 1) := by decide +kernel
theorem dX6_behindEnd_1 : decode cX6_behindEnd 1 = .ok (.getfield 62, 3) := by decide +kernel
theorem dX6_behindEnd_4 : decode cX6_behindEnd 4 = .ok (.iload_n 2, 1) := by decide +kernel
theorem dX6_behindEnd_5 : decode cX6_behindEnd 5 = .ok (.iaload, 1) := by decide +kernel
theorem dX6_behindEnd_6 : decode cX6_behindEnd 6 = .ok (.istore_n 3, 1) := by decide +kernel
theorem dX6_behindEnd_7 : decode cX6_behindEnd 7 = .ok (.aload_n 1, 1) := by decide +kernel
theorem dX6_behindEnd_8 : decode cX6_behindEnd 8 = .ok (.getfield 46, 3) := by decide +kernel
theorem dX6_behindEnd_11 : decode cX6_behindEnd 11 = .ok (.iload_n 3, 1) := by decide +kernel
theorem dX6_behindEnd_12 : decode cX6_behindEnd 12 = .ok (.iaload, 1) := by decide +kernel
theorem dX6_behindEnd_13 : decode cX6_behindEnd 13 = .ok (.bipush 21, 2) := by decide +kernel
theorem dX6_behindEnd_15 : decode cX6_behindEnd 15 = .ok (.if_icmp .ne 13, 3) := by decide +kernel
theorem dX6_behindEnd_18 : decode cX6_behindEnd 18 = .ok (.aload_n 0, 1) := by decide +kernel
theorem dX6_behindEnd_19 : decode cX6_behindEnd 19 = .ok (.getfield 9, 3) := by decide +kernel
theorem dX6_behindEnd_22 : decode cX6_behindEnd 22 = .ok (.iload_n 3, 1) := by decide +kernel
theorem dX6_behindEnd_23 : decode cX6_behindEnd 23 = .ok (.iaload, 1) := by decide +kernel
theorem dX6_behindEnd_24 : decode cX6_behindEnd 24 = .ok (.iconst 1, 1) := by decide +kernel
theorem dX6_behindEnd_25 : decode cX6_behindEnd 25 = .ok (.if_icmp .gt 7, 3) := by decide +kernel
theorem dX6_behindEnd_28 : decode cX6_behindEnd 28 = .ok (.iload_n 2, 1) := by decide +kernel
theorem dX6_behindEnd_29 : decode cX6_behindEnd 29 = .ok (.iconst 1, 1) := by decide +kernel
theorem dX6_behindEnd_30 : decode cX6_behindEnd 30 = .ok (.iadd, 1) := by decide +kernel
theorem dX6_behindEnd_31 : decode cX6_behindEnd 31 = .ok (.ireturn, 1) := by decide +kernel
theorem dX6_behindEnd_32 : decode cX6_behindEnd 32 = .ok (.aload_n 0, 1) := by decide +kernel
theorem dX6_behindEnd_33 : decode cX6_behindEnd 33 = .ok (.getfield 9, 3) := by decide +kernel
theorem dX6_behindEnd_36 : decode cX6_behindEnd 36 = .ok (.iload_n 3, 1) := by decide +kernel
theorem dX6_behindEnd_37 : decode cX6_behindEnd 37 = .ok (.dup2, 1) := by decide +kernel
theorem dX6_behindEnd_38 : decode cX6_behindEnd 38 = .ok (.iaload, 1) := by decide +kernel
theorem dX6_behindEnd_39 : decode cX6_behindEnd 39 = .ok (.iconst 1, 1) := by decide +kernel
theorem dX6_behindEnd_40 : decode cX6_behindEnd 40 = .ok (.isub, 1) := by decide +kernel
theorem dX6_behindEnd_41 : decode cX6_behindEnd 41 = .ok (.iastore, 1) := by decide +kernel
theorem dX6_behindEnd_42 : decode cX6_behindEnd 42 = .ok (.iload_n 3, 1) := by decide +kernel
theorem dX6_behindEnd_43 : decode cX6_behindEnd 43 = .ok (.iconst 1, 1) := by decide +kernel
theorem dX6_behindEnd_44 : decode cX6_behindEnd 44 = .ok (.iadd, 1) := by decide +kernel
theorem dX6_behindEnd_45 : decode cX6_behindEnd 45 = .ok (.ireturn, 1) := by decide +kernel
set_option maxRecDepth 100000 in
def f_X6_behindEnd_28 (l2 : Int32) (μ : dtM) : Option (Int32 × dtM) :=
  some ((l2 + (1 : Int32)), μ)
set_option maxRecDepth 100000 in
def f_X6_behindEnd (p0 : Nat) (p1 : Nat) (p2 : Int32) (μ : dtM) : Option (Int32 × dtM) :=
  (opGR 0 8 μ p1).bind fun x1 => (opLI 1 μ x1 p2).bind fun x3 => (opGR 0 3 μ p1).bind fun x5 => (opLI 1 μ x5 x3).bind fun x7 => if x7 = (21 : Int32) then ((opGR 6 0 μ p0).bind fun x12 => (opLI 1 μ x12 x3).bind fun x14 => if (1 : Int32) < x14 then ((opGR 6 0 μ p0).bind fun x19 => (opLI 1 μ x19 x3).bind fun x21 => (opSI μ x19 x3 (x21 - (1 : Int32))).bind fun μ23 => some ((x3 + (1 : Int32)), μ23)) else (f_X6_behindEnd_28 p2 μ)) else (f_X6_behindEnd_28 p2 μ)
set_option maxRecDepth 100000 in
theorem c_X6_behindEnd_28 {r : Int32} {F : dtM} (l2 : Int32) (μ : dtM) (h : f_X6_behindEnd_28 l2 μ = some (r, F)) : dtW yX6_behindEnd cX6_behindEnd 4 (some .int) 1 (some (.int r)) F 28 [none, none, some (.int l2)] [] μ := by
  rw [f_X6_behindEnd_28] at h
  refine dr_iload_n l2 dX6_behindEnd_28 rfl ?_
  refine dr_iconst (1 : Int32) dX6_behindEnd_29 (by decide) ?_
  refine dr_iadd dX6_behindEnd_30 ?_
  cases h
  exact dr_ireturn dX6_behindEnd_31 rfl
set_option maxRecDepth 100000 in
theorem c_X6_behindEnd {r : Int32} {F : dtM} (p0 : Nat) (p1 : Nat) (p2 : Int32) (μ : dtM) (h : f_X6_behindEnd p0 p1 p2 μ = some (r, F)) : dtMet yX6_behindEnd cX6_behindEnd 4 (some .int) 1 [.ref p0, .ref p1, .int p2] μ (some (.int r)) F := by
  refine dtMet.of (by decide +kernel) (Nat.le_of_ble_eq_true rfl) (show dtW yX6_behindEnd cX6_behindEnd 4 (some .int) 1 (some (.int r)) F 0 [some (.ref p0), some (.ref p1), some (.int p2)] [] μ from ?_)
  rw [f_X6_behindEnd] at h
  refine dr_aload_n p1 dX6_behindEnd_0 rfl ?_
  obtain ⟨x1, e2, h⟩ := dtBind h
  refine dr_getR x1 dX6_behindEnd_1 fl_RX6_62 e2 ?_
  refine dr_iload_n p2 dX6_behindEnd_4 rfl ?_
  obtain ⟨x3, e4, h⟩ := dtBind h
  refine dr_iaload x3 dX6_behindEnd_5 e4 ?_
  refine dr_istore_n 3 [some (.ref p0), some (.ref p1), some (.int p2), some (.int x3)] dX6_behindEnd_6 rfl rfl rfl rfl ?_
  refine dr_aload_n p1 dX6_behindEnd_7 rfl ?_
  obtain ⟨x5, e6, h⟩ := dtBind h
  refine dr_getR x5 dX6_behindEnd_8 fl_RX6_46 e6 ?_
  refine dr_iload_n x3 dX6_behindEnd_11 rfl ?_
  obtain ⟨x7, e8, h⟩ := dtBind h
  refine dr_iaload x7 dX6_behindEnd_12 e8 ?_
  refine dr_bipush (21 : Int32) dX6_behindEnd_13 (by decide) ?_
  obtain ⟨ht10, hf11⟩ := dtIte h
  refine dr_icmp_ne 28 dX6_behindEnd_15 (by decide) (fun hc9 => ?_) (fun hc9 => ?_)
  · have h := hf11 hc9
    refine dr_mask [false, false, true] [none, none, some (.int p2)] rfl ?_
    exact c_X6_behindEnd_28 p2 μ h
  · have h := ht10 hc9
    refine dr_aload_n p0 dX6_behindEnd_18 rfl ?_
    obtain ⟨x12, e13, h⟩ := dtBind h
    refine dr_getR x12 dX6_behindEnd_19 fl_RX6_9 e13 ?_
    refine dr_iload_n x3 dX6_behindEnd_22 rfl ?_
    obtain ⟨x14, e15, h⟩ := dtBind h
    refine dr_iaload x14 dX6_behindEnd_23 e15 ?_
    refine dr_iconst (1 : Int32) dX6_behindEnd_24 (by decide) ?_
    obtain ⟨ht17, hf18⟩ := dtIte h
    refine dr_icmp_gt 32 dX6_behindEnd_25 (by decide) (fun hc16 => ?_) (fun hc16 => ?_)
    · have h := ht17 hc16
      refine dr_aload_n p0 dX6_behindEnd_32 rfl ?_
      obtain ⟨x19, e20, h⟩ := dtBind h
      refine dr_getR x19 dX6_behindEnd_33 fl_RX6_9 e20 ?_
      refine dr_iload_n x3 dX6_behindEnd_36 rfl ?_
      refine dr_dup2 dX6_behindEnd_37 rfl rfl ?_
      obtain ⟨x21, e22, h⟩ := dtBind h
      refine dr_iaload x21 dX6_behindEnd_38 e22 ?_
      refine dr_iconst (1 : Int32) dX6_behindEnd_39 (by decide) ?_
      refine dr_isub dX6_behindEnd_40 ?_
      obtain ⟨μ23, e24, h⟩ := dtBind h
      refine dr_iastore μ23 dX6_behindEnd_41 e24 ?_
      refine dr_iload_n x3 dX6_behindEnd_42 rfl ?_
      refine dr_iconst (1 : Int32) dX6_behindEnd_43 (by decide) ?_
      refine dr_iadd dX6_behindEnd_44 ?_
      cases h
      exact dr_ireturn dX6_behindEnd_45 rfl
    · have h := hf18 hc16
      refine dr_mask [false, false, true] [none, none, some (.int p2)] rfl ?_
      exact c_X6_behindEnd_28 p2 μ h
/-! J6_compare_7cf53 -/
theorem dJ6_compare_7cf53_0 : decode cJ6_compare_7cf53 0 = .ok (.iload_n 0, 1) := by decide +kernel
theorem dJ6_compare_7cf53_1 : decode cJ6_compare_7cf53 1 = .ok (.iload_n 1, 1) := by decide +kernel
theorem dJ6_compare_7cf53_2 : decode cJ6_compare_7cf53 2 = .ok (.if_icmp .ge 7, 3) := by decide +kernel
theorem dJ6_compare_7cf53_5 : decode cJ6_compare_7cf53 5 = .ok (.iconst (-1), 1) := by decide +kernel
theorem dJ6_compare_7cf53_6 : decode cJ6_compare_7cf53 6 = .ok (.goto 13, 3) := by decide +kernel
theorem dJ6_compare_7cf53_9 : decode cJ6_compare_7cf53 9 = .ok (.iload_n 0, 1) := by decide +kernel
theorem dJ6_compare_7cf53_10 : decode cJ6_compare_7cf53 10 = .ok (.iload_n 1, 1) := by decide +kernel
theorem dJ6_compare_7cf53_11 : decode cJ6_compare_7cf53 11 = .ok (.if_icmp .ne 7, 3) := by decide +kernel
theorem dJ6_compare_7cf53_14 : decode cJ6_compare_7cf53 14 = .ok (.iconst 0, 1) := by decide +kernel
theorem dJ6_compare_7cf53_15 : decode cJ6_compare_7cf53 15 = .ok (.goto 4, 3) := by decide +kernel
theorem dJ6_compare_7cf53_18 : decode cJ6_compare_7cf53 18 = .ok (.iconst 1, 1) := by decide +kernel
theorem dJ6_compare_7cf53_19 : decode cJ6_compare_7cf53 19 = .ok (.ireturn, 1) := by decide +kernel
set_option maxRecDepth 100000 in
def f_J6_compare_7cf53_19 (s0 : Int32) (μ : dtM) : Option (Int32 × dtM) :=
  some (s0, μ)
set_option maxRecDepth 100000 in
def f_J6_compare_7cf53 (p0 : Int32) (p1 : Int32) (μ : dtM) : Option (Int32 × dtM) :=
  if p1 ≤ p0 then (if p0 = p1 then (f_J6_compare_7cf53_19 (0 : Int32) μ) else (f_J6_compare_7cf53_19 (1 : Int32) μ)) else (f_J6_compare_7cf53_19 (-1 : Int32) μ)
set_option maxRecDepth 100000 in
theorem c_J6_compare_7cf53_19 {r : Int32} {F : dtM} (s0 : Int32) (μ : dtM) (h : f_J6_compare_7cf53_19 s0 μ = some (r, F)) : dtW yJ6_compare_7cf53 cJ6_compare_7cf53 2 (some .int) 1 (some (.int r)) F 19 [] [.int s0] μ := by
  rw [f_J6_compare_7cf53_19] at h
  cases h
  exact dr_ireturn dJ6_compare_7cf53_19 rfl
set_option maxRecDepth 100000 in
theorem c_J6_compare_7cf53 {r : Int32} {F : dtM} (p0 : Int32) (p1 : Int32) (μ : dtM) (h : f_J6_compare_7cf53 p0 p1 μ = some (r, F)) : dtMet yJ6_compare_7cf53 cJ6_compare_7cf53 2 (some .int) 1 [.int p0, .int p1] μ (some (.int r)) F := by
  refine dtMet.of (by decide +kernel) (Nat.le_of_ble_eq_true rfl) (show dtW yJ6_compare_7cf53 cJ6_compare_7cf53 2 (some .int) 1 (some (.int r)) F 0 [some (.int p0), some (.int p1)] [] μ from ?_)
  rw [f_J6_compare_7cf53] at h
  refine dr_iload_n p0 dJ6_compare_7cf53_0 rfl ?_
  refine dr_iload_n p1 dJ6_compare_7cf53_1 rfl ?_
  obtain ⟨ht2, hf3⟩ := dtIte h
  refine dr_icmp_ge 9 dJ6_compare_7cf53_2 (by decide) (fun hc1 => ?_) (fun hc1 => ?_)
  · have h := ht2 hc1
    refine dr_iload_n p0 dJ6_compare_7cf53_9 rfl ?_
    refine dr_iload_n p1 dJ6_compare_7cf53_10 rfl ?_
    obtain ⟨ht5, hf6⟩ := dtIte h
    refine dr_icmp_ne 18 dJ6_compare_7cf53_11 (by decide) (fun hc4 => ?_) (fun hc4 => ?_)
    · have h := hf6 hc4
      refine dr_iconst (1 : Int32) dJ6_compare_7cf53_18 (by decide) ?_
      refine dr_mask [] [] rfl ?_
      exact c_J6_compare_7cf53_19 (1 : Int32) μ h
    · have h := ht5 hc4
      refine dr_iconst (0 : Int32) dJ6_compare_7cf53_14 (by decide) ?_
      refine dr_goto 19 dJ6_compare_7cf53_15 (by decide) ?_
      refine dr_mask [] [] rfl ?_
      exact c_J6_compare_7cf53_19 (0 : Int32) μ h
  · have h := hf3 hc1
    refine dr_iconst (-1 : Int32) dJ6_compare_7cf53_5 (by decide) ?_
    refine dr_goto 19 dJ6_compare_7cf53_6 (by decide) ?_
    refine dr_mask [] [] rfl ?_
    exact c_J6_compare_7cf53_19 (-1 : Int32) μ h
/-! X6_holds -/
theorem dX6_holds_0 : decode cX6_holds 0 = .ok (.aload_n 1, 1) := by decide +kernel
theorem dX6_holds_1 : decode cX6_holds 1 = .ok (.getfield 72, 3) := by decide +kernel
theorem dX6_holds_4 : decode cX6_holds 4 = .ok (.iload_n 2, 1) := by decide +kernel
theorem dX6_holds_5 : decode cX6_holds 5 = .ok (.iaload, 1) := by decide +kernel
theorem dX6_holds_6 : decode cX6_holds 6 = .ok (.lookupswitch 63 #[(4, 52), (12, 26)], 26) := by decide +kernel
theorem dX6_holds_32 : decode cX6_holds 32 = .ok (.aload_n 0, 1) := by decide +kernel
theorem dX6_holds_33 : decode cX6_holds 33 = .ok (.getfield 75, 3) := by decide +kernel
theorem dX6_holds_36 : decode cX6_holds 36 = .ok (.aload_n 1, 1) := by decide +kernel
theorem dX6_holds_37 : decode cX6_holds 37 = .ok (.getfield 78, 3) := by decide +kernel
theorem dX6_holds_40 : decode cX6_holds 40 = .ok (.iload_n 2, 1) := by decide +kernel
theorem dX6_holds_41 : decode cX6_holds 41 = .ok (.iaload, 1) := by decide +kernel
theorem dX6_holds_42 : decode cX6_holds 42 = .ok (.iaload, 1) := by decide +kernel
theorem dX6_holds_43 : decode cX6_holds 43 = .ok (.aload_n 1, 1) := by decide +kernel
theorem dX6_holds_44 : decode cX6_holds 44 = .ok (.getfield 69, 3) := by decide +kernel
theorem dX6_holds_47 : decode cX6_holds 47 = .ok (.iload_n 2, 1) := by decide +kernel
theorem dX6_holds_48 : decode cX6_holds 48 = .ok (.iaload, 1) := by decide +kernel
theorem dX6_holds_49 : decode cX6_holds 49 = .ok (.if_icmp .ne 7, 3) := by decide +kernel
theorem dX6_holds_52 : decode cX6_holds 52 = .ok (.iconst 1, 1) := by decide +kernel
theorem dX6_holds_53 : decode cX6_holds 53 = .ok (.goto 4, 3) := by decide +kernel
theorem dX6_holds_56 : decode cX6_holds 56 = .ok (.iconst 0, 1) := by decide +kernel
theorem dX6_holds_57 : decode cX6_holds 57 = .ok (.ireturn, 1) := by decide +kernel
theorem dX6_holds_58 : decode cX6_holds 58 = .ok (.aload_n 0, 1) := by decide +kernel
theorem dX6_holds_59 : decode cX6_holds 59 = .ok (.aload_n 1, 1) := by decide +kernel
theorem dX6_holds_60 : decode cX6_holds 60 = .ok (.getfield 69, 3) := by decide +kernel
theorem dX6_holds_63 : decode cX6_holds 63 = .ok (.iload_n 2, 1) := by decide +kernel
theorem dX6_holds_64 : decode cX6_holds 64 = .ok (.iaload, 1) := by decide +kernel
theorem dX6_holds_65 : decode cX6_holds 65 = .ok (.invokevirtual 81, 3) := by decide +kernel
theorem dX6_holds_68 : decode cX6_holds 68 = .ok (.ireturn, 1) := by decide +kernel
theorem dX6_holds_69 : decode cX6_holds 69 = .ok (.aload_n 0, 1) := by decide +kernel
theorem dX6_holds_70 : decode cX6_holds 70 = .ok (.getfield 85, 3) := by decide +kernel
theorem dX6_holds_73 : decode cX6_holds 73 = .ok (.aload_n 1, 1) := by decide +kernel
theorem dX6_holds_74 : decode cX6_holds 74 = .ok (.getfield 78, 3) := by decide +kernel
theorem dX6_holds_77 : decode cX6_holds 77 = .ok (.iload_n 2, 1) := by decide +kernel
theorem dX6_holds_78 : decode cX6_holds 78 = .ok (.iaload, 1) := by decide +kernel
theorem dX6_holds_79 : decode cX6_holds 79 = .ok (.iaload, 1) := by decide +kernel
theorem dX6_holds_80 : decode cX6_holds 80 = .ok (.istore_n 3, 1) := by decide +kernel
theorem dX6_holds_81 : decode cX6_holds 81 = .ok (.iload_n 3, 1) := by decide +kernel
theorem dX6_holds_82 : decode cX6_holds 82 = .ok (.aload_n 1, 1) := by decide +kernel
theorem dX6_holds_83 : decode cX6_holds 83 = .ok (.getfield 69, 3) := by decide +kernel
theorem dX6_holds_86 : decode cX6_holds 86 = .ok (.iload_n 2, 1) := by decide +kernel
theorem dX6_holds_87 : decode cX6_holds 87 = .ok (.iaload, 1) := by decide +kernel
theorem dX6_holds_88 : decode cX6_holds 88 = .ok (.invokestatic 88, 3) := by decide +kernel
theorem dX6_holds_91 : decode cX6_holds 91 = .ok (.aload_n 1, 1) := by decide +kernel
theorem dX6_holds_92 : decode cX6_holds 92 = .ok (.getfield 94, 3) := by decide +kernel
theorem dX6_holds_95 : decode cX6_holds 95 = .ok (.iload_n 2, 1) := by decide +kernel
theorem dX6_holds_96 : decode cX6_holds 96 = .ok (.iaload, 1) := by decide +kernel
theorem dX6_holds_97 : decode cX6_holds 97 = .ok (.if_icmp .ne 7, 3) := by decide +kernel
theorem dX6_holds_100 : decode cX6_holds 100 = .ok (.iconst 1, 1) := by decide +kernel
theorem dX6_holds_101 : decode cX6_holds 101 = .ok (.goto 4, 3) := by decide +kernel
theorem dX6_holds_104 : decode cX6_holds 104 = .ok (.iconst 0, 1) := by decide +kernel
theorem dX6_holds_105 : decode cX6_holds 105 = .ok (.ireturn, 1) := by decide +kernel
set_option maxRecDepth 100000 in
def f_X6_holds_105 (s0 : Int32) (μ : dtM) : Option (Int32 × dtM) :=
  opRet s0 μ
set_option maxRecDepth 100000 in
def f_X6_holds_69 (l0 : Nat) (l1 : Nat) (l2 : Int32) (μ : dtM) : Option (Int32 × dtM) :=
  (opGR 3 17 μ l0).bind fun x1 => (opGR 0 5 μ l1).bind fun x3 => (opLI 1 μ x3 l2).bind fun x5 => (opLI 1 μ x1 x5).bind fun x7 => (opGR 0 6 μ l1).bind fun x9 => (opLI 1 μ x9 l2).bind fun x11 => opCall (f_J6_compare_7cf53 x7 x11 μ) fun x15 μ13 => (opGR 0 7 μ13 l1).bind fun x16 => (opLI 1 μ13 x16 l2).bind fun x18 => if x15 = x18 then (f_X6_holds_105 (1 : Int32) μ13) else (f_X6_holds_105 (0 : Int32) μ13)
set_option maxRecDepth 100000 in
def f_X6_holds_58 (l0 : Nat) (l1 : Nat) (l2 : Int32) (μ : dtM) : Option (Int32 × dtM) :=
  (opGR 0 6 μ l1).bind fun x1 => (opLI 1 μ x1 l2).bind fun x3 => (opRv 3 μ l0).bind fun _ => opCall (f_X3_isOpen l0 x3 μ) fun x8 μ6 => opRet x8 μ6
set_option maxRecDepth 100000 in
def f_X6_holds_57 (s0 : Int32) (μ : dtM) : Option (Int32 × dtM) :=
  opRet s0 μ
set_option maxRecDepth 100000 in
def f_X6_holds_32 (l0 : Nat) (l1 : Nat) (l2 : Int32) (μ : dtM) : Option (Int32 × dtM) :=
  (opGR 3 14 μ l0).bind fun x1 => (opGR 0 5 μ l1).bind fun x3 => (opLI 1 μ x3 l2).bind fun x5 => (opLI 1 μ x1 x5).bind fun x7 => (opGR 0 6 μ l1).bind fun x9 => (opLI 1 μ x9 l2).bind fun x11 => if x7 = x11 then (f_X6_holds_57 (1 : Int32) μ) else (f_X6_holds_57 (0 : Int32) μ)
set_option maxRecDepth 100000 in
def f_X6_holds (p0 : Nat) (p1 : Nat) (p2 : Int32) (μ : dtM) : Option (Int32 × dtM) :=
  (opGR 0 4 μ p1).bind fun x1 => (opLI 1 μ x1 p2).bind fun x3 => if x3 = 4 then (f_X6_holds_58 p0 p1 p2 μ) else if x3 = 12 then (f_X6_holds_32 p0 p1 p2 μ) else f_X6_holds_69 p0 p1 p2 μ
set_option maxRecDepth 100000 in
theorem c_X6_holds_105 {r : Int32} {F : dtM} (s0 : Int32) (μ : dtM) (h : f_X6_holds_105 s0 μ = some (r, F)) : dtW yX6_holds cX6_holds 4 (some .boolean) 3 (some (.int r)) F 105 [] [.int s0] μ := by
  rw [f_X6_holds_105] at h
  obtain ⟨hz, rfl, rfl⟩ := dtRet h
  exact dr_ireturn dX6_holds_105 (dtNz hz)
set_option maxRecDepth 100000 in
theorem c_X6_holds_69 {r : Int32} {F : dtM} (l0 : Nat) (l1 : Nat) (l2 : Int32) (μ : dtM) (h : f_X6_holds_69 l0 l1 l2 μ = some (r, F)) : dtW yX6_holds cX6_holds 4 (some .boolean) 3 (some (.int r)) F 69 [some (.ref l0), some (.ref l1), some (.int l2)] [] μ := by
  rw [f_X6_holds_69] at h
  refine dr_aload_n l0 dX6_holds_69 rfl ?_
  obtain ⟨x1, e2, h⟩ := dtBind h
  refine dr_getR x1 dX6_holds_70 fl_RX6_85 e2 ?_
  refine dr_aload_n l1 dX6_holds_73 rfl ?_
  obtain ⟨x3, e4, h⟩ := dtBind h
  refine dr_getR x3 dX6_holds_74 fl_RX6_78 e4 ?_
  refine dr_iload_n l2 dX6_holds_77 rfl ?_
  obtain ⟨x5, e6, h⟩ := dtBind h
  refine dr_iaload x5 dX6_holds_78 e6 ?_
  obtain ⟨x7, e8, h⟩ := dtBind h
  refine dr_iaload x7 dX6_holds_79 e8 ?_
  refine dr_istore_n 3 [some (.ref l0), some (.ref l1), some (.int l2), some (.int x7)] dX6_holds_80 rfl rfl rfl rfl ?_
  refine dr_iload_n x7 dX6_holds_81 rfl ?_
  refine dr_aload_n l1 dX6_holds_82 rfl ?_
  obtain ⟨x9, e10, h⟩ := dtBind h
  refine dr_getR x9 dX6_holds_83 fl_RX6_69 e10 ?_
  refine dr_iload_n l2 dX6_holds_86 rfl ?_
  obtain ⟨x11, e12, h⟩ := dtBind h
  refine dr_iaload x11 dX6_holds_87 e12 ?_
  obtain ⟨x15, μ13, e14, h⟩ := dtCall h
  refine dr_callS_i (S0 := []) [.int x7, .int x11] x15 μ13 dX6_holds_88 (c_J6_compare_7cf53 x7 x11 μ e14) mf_J6_compare_7cf53 wt_1309 wt_1308 rfl (Nat.le_of_ble_eq_true rfl) (Nat.le_of_ble_eq_true rfl) rfl ?_
  refine dr_aload_n l1 dX6_holds_91 rfl ?_
  obtain ⟨x16, e17, h⟩ := dtBind h
  refine dr_getR x16 dX6_holds_92 fl_RX6_94 e17 ?_
  refine dr_iload_n l2 dX6_holds_95 rfl ?_
  obtain ⟨x18, e19, h⟩ := dtBind h
  refine dr_iaload x18 dX6_holds_96 e19 ?_
  obtain ⟨ht21, hf22⟩ := dtIte h
  refine dr_icmp_ne 104 dX6_holds_97 (by decide) (fun hc20 => ?_) (fun hc20 => ?_)
  · have h := hf22 hc20
    refine dr_iconst (0 : Int32) dX6_holds_104 (by decide) ?_
    refine dr_mask [] [] rfl ?_
    exact c_X6_holds_105 (0 : Int32) μ13 h
  · have h := ht21 hc20
    refine dr_iconst (1 : Int32) dX6_holds_100 (by decide) ?_
    refine dr_goto 105 dX6_holds_101 (by decide) ?_
    refine dr_mask [] [] rfl ?_
    exact c_X6_holds_105 (1 : Int32) μ13 h
set_option maxRecDepth 100000 in
theorem c_X6_holds_58 {r : Int32} {F : dtM} (l0 : Nat) (l1 : Nat) (l2 : Int32) (μ : dtM) (h : f_X6_holds_58 l0 l1 l2 μ = some (r, F)) : dtW yX6_holds cX6_holds 4 (some .boolean) 3 (some (.int r)) F 58 [some (.ref l0), some (.ref l1), some (.int l2)] [] μ := by
  rw [f_X6_holds_58] at h
  refine dr_aload_n l0 dX6_holds_58 rfl ?_
  refine dr_aload_n l1 dX6_holds_59 rfl ?_
  obtain ⟨x1, e2, h⟩ := dtBind h
  refine dr_getR x1 dX6_holds_60 fl_RX6_69 e2 ?_
  refine dr_iload_n l2 dX6_holds_63 rfl ?_
  obtain ⟨x3, e4, h⟩ := dtBind h
  refine dr_iaload x3 dX6_holds_64 e4 ?_
  obtain ⟨_, hb5, h⟩ := dtBind h
  obtain ⟨x8, μ6, e7, h⟩ := dtCall h
  refine dr_callV_i (S0 := []) [.int x3] x8 μ6 dX6_holds_65 (c_X3_isOpen l0 x3 μ e7) mf_X3_isOpen wt_845 wt_846 wt_1281 rfl (dtRv hb5) (by decide) rfl (Nat.le_of_ble_eq_true rfl) (Nat.le_of_ble_eq_true rfl) rfl ?_
  obtain ⟨hz, rfl, rfl⟩ := dtRet h
  exact dr_ireturn dX6_holds_68 (dtNz hz)
set_option maxRecDepth 100000 in
theorem c_X6_holds_57 {r : Int32} {F : dtM} (s0 : Int32) (μ : dtM) (h : f_X6_holds_57 s0 μ = some (r, F)) : dtW yX6_holds cX6_holds 4 (some .boolean) 3 (some (.int r)) F 57 [] [.int s0] μ := by
  rw [f_X6_holds_57] at h
  obtain ⟨hz, rfl, rfl⟩ := dtRet h
  exact dr_ireturn dX6_holds_57 (dtNz hz)
set_option maxRecDepth 100000 in
theorem c_X6_holds_32 {r : Int32} {F : dtM} (l0 : Nat) (l1 : Nat) (l2 : Int32) (μ : dtM) (h : f_X6_holds_32 l0 l1 l2 μ = some (r, F)) : dtW yX6_holds cX6_holds 4 (some .boolean) 3 (some (.int r)) F 32 [some (.ref l0), some (.ref l1), some (.int l2)] [] μ := by
  rw [f_X6_holds_32] at h
  refine dr_aload_n l0 dX6_holds_32 rfl ?_
  obtain ⟨x1, e2, h⟩ := dtBind h
  refine dr_getR x1 dX6_holds_33 fl_RX6_75 e2 ?_
  refine dr_aload_n l1 dX6_holds_36 rfl ?_
  obtain ⟨x3, e4, h⟩ := dtBind h
  refine dr_getR x3 dX6_holds_37 fl_RX6_78 e4 ?_
  refine dr_iload_n l2 dX6_holds_40 rfl ?_
  obtain ⟨x5, e6, h⟩ := dtBind h
  refine dr_iaload x5 dX6_holds_41 e6 ?_
  obtain ⟨x7, e8, h⟩ := dtBind h
  refine dr_iaload x7 dX6_holds_42 e8 ?_
  refine dr_aload_n l1 dX6_holds_43 rfl ?_
  obtain ⟨x9, e10, h⟩ := dtBind h
  refine dr_getR x9 dX6_holds_44 fl_RX6_69 e10 ?_
  refine dr_iload_n l2 dX6_holds_47 rfl ?_
  obtain ⟨x11, e12, h⟩ := dtBind h
  refine dr_iaload x11 dX6_holds_48 e12 ?_
  obtain ⟨ht14, hf15⟩ := dtIte h
  refine dr_icmp_ne 56 dX6_holds_49 (by decide) (fun hc13 => ?_) (fun hc13 => ?_)
  · have h := hf15 hc13
    refine dr_iconst (0 : Int32) dX6_holds_56 (by decide) ?_
    refine dr_mask [] [] rfl ?_
    exact c_X6_holds_57 (0 : Int32) μ h
  · have h := ht14 hc13
    refine dr_iconst (1 : Int32) dX6_holds_52 (by decide) ?_
    refine dr_goto 57 dX6_holds_53 (by decide) ?_
    refine dr_mask [] [] rfl ?_
    exact c_X6_holds_57 (1 : Int32) μ h
set_option maxRecDepth 100000 in
theorem c_X6_holds {r : Int32} {F : dtM} (p0 : Nat) (p1 : Nat) (p2 : Int32) (μ : dtM) (h : f_X6_holds p0 p1 p2 μ = some (r, F)) : dtMet yX6_holds cX6_holds 4 (some .boolean) 3 [.ref p0, .ref p1, .int p2] μ (some (.int r)) F := by
  refine dtMet.of (by decide +kernel) (Nat.le_of_ble_eq_true rfl) (show dtW yX6_holds cX6_holds 4 (some .boolean) 3 (some (.int r)) F 0 [some (.ref p0), some (.ref p1), some (.int p2)] [] μ from ?_)
  rw [f_X6_holds] at h
  refine dr_aload_n p1 dX6_holds_0 rfl ?_
  obtain ⟨x1, e2, h⟩ := dtBind h
  refine dr_getR x1 dX6_holds_1 fl_RX6_72 e2 ?_
  refine dr_iload_n p2 dX6_holds_4 rfl ?_
  obtain ⟨x3, e4, h⟩ := dtBind h
  refine dr_iaload x3 dX6_holds_5 e4 ?_
  obtain ⟨ht5, h⟩ := dtIte h
  refine Decidable.byCases (dec := inferInstance) (fun hc7 : x3 = 4 => ?_) (fun hc7 => ?_)
  · have h := ht5 hc7
    refine dr_lookup (off := 52) 58 dX6_holds_6 (by decide) (by rw [hc7]; rfl) (by decide) ?_
    exact c_X6_holds_58 p0 p1 p2 μ h
  have h := h hc7
  obtain ⟨ht8, h⟩ := dtIte h
  refine Decidable.byCases (dec := inferInstance) (fun hc10 : x3 = 12 => ?_) (fun hc10 => ?_)
  · have h := ht8 hc10
    refine dr_lookup (off := 26) 32 dX6_holds_6 (by decide) (by rw [hc10]; rfl) (by decide) ?_
    exact c_X6_holds_32 p0 p1 p2 μ h
  have h := h hc10
  have kd11 : dtW yX6_holds cX6_holds 4 (some .boolean) 3 (some (.int r)) F 69 [some (.ref p0), some (.ref p1), some (.int p2)] [] μ := by
    exact c_X6_holds_69 p0 p1 p2 μ h
  exact dr_lookup (off := 63) 69 dX6_holds_6 (by decide) (by show Op.lookupswitch.offset [((4 : Int), (52 : Int)), ((12 : Int), (26 : Int))] (63) _ = _; rw [lv_osw hc7 (show (4 : Int32).toInt = (4 : Int) by decide), lv_osw hc10 (show (12 : Int32).toInt = (12 : Int) by decide)]; rfl) (by decide) kd11
/-! X6_behindStep -/
theorem dX6_behindStep_0 : decode cX6_behindStep 0 = .ok (.aload_n 2, 1) := by decide +kernel
theorem dX6_behindStep_1 : decode cX6_behindStep 1 = .ok (.getfield 46, 3) := by decide +kernel
theorem dX6_behindStep_4 : decode cX6_behindStep 4 = .ok (.iload_n 3, 1) := by decide +kernel
theorem dX6_behindStep_5 : decode cX6_behindStep 5 = .ok (.iaload, 1) := by decide +kernel
theorem dX6_behindStep_6 : decode cX6_behindStep 6 = .ok (.tableswitch 79 19 23 #[39, 79, 63, 79, 34], 34) := by decide +kernel
theorem dX6_behindStep_40 : decode cX6_behindStep 40 = .ok (.aload_n 2, 1) := by decide +kernel
theorem dX6_behindStep_41 : decode cX6_behindStep 41 = .ok (.getfield 41, 3) := by decide +kernel
theorem dX6_behindStep_44 : decode cX6_behindStep 44 = .ok (.ireturn, 1) := by decide +kernel
theorem dX6_behindStep_45 : decode cX6_behindStep 45 = .ok (.aload_n 1, 1) := by decide +kernel
theorem dX6_behindStep_46 : decode cX6_behindStep 46 = .ok (.aload_n 2, 1) := by decide +kernel
theorem dX6_behindStep_47 : decode cX6_behindStep 47 = .ok (.iload_n 3, 1) := by decide +kernel
theorem dX6_behindStep_48 : decode cX6_behindStep 48 = .ok (.invokestatic 65, 3) := by decide +kernel
theorem dX6_behindStep_51 : decode cX6_behindStep 51 = .ok (.ifCond .eq 9, 3) := by decide +kernel
theorem dX6_behindStep_54 : decode cX6_behindStep 54 = .ok (.iload_n 3, 1) := by decide +kernel
theorem dX6_behindStep_55 : decode cX6_behindStep 55 = .ok (.iconst 1, 1) := by decide +kernel
theorem dX6_behindStep_56 : decode cX6_behindStep 56 = .ok (.iadd, 1) := by decide +kernel
theorem dX6_behindStep_57 : decode cX6_behindStep 57 = .ok (.goto 11, 3) := by decide +kernel
theorem dX6_behindStep_60 : decode cX6_behindStep 60 = .ok (.aload_n 2, 1) := by decide +kernel
theorem dX6_behindStep_61 : decode cX6_behindStep 61 = .ok (.getfield 62, 3) := by decide +kernel
theorem dX6_behindStep_64 : decode cX6_behindStep 64 = .ok (.iload_n 3, 1) := by decide +kernel
theorem dX6_behindStep_65 : decode cX6_behindStep 65 = .ok (.iaload, 1) := by decide +kernel
theorem dX6_behindStep_66 : decode cX6_behindStep 66 = .ok (.iconst 1, 1) := by decide +kernel
theorem dX6_behindStep_67 : decode cX6_behindStep 67 = .ok (.iadd, 1) := by decide +kernel
theorem dX6_behindStep_68 : decode cX6_behindStep 68 = .ok (.ireturn, 1) := by decide +kernel
theorem dX6_behindStep_69 : decode cX6_behindStep 69 = .ok (.aload_n 0, 1) := by decide +kernel
theorem dX6_behindStep_70 : decode cX6_behindStep 70 = .ok (.getfield 9, 3) := by decide +kernel
theorem dX6_behindStep_73 : decode cX6_behindStep 73 = .ok (.iload_n 3, 1) := by decide +kernel
theorem dX6_behindStep_74 : decode cX6_behindStep 74 = .ok (.aload_n 2, 1) := by decide +kernel
theorem dX6_behindStep_75 : decode cX6_behindStep 75 = .ok (.getfield 69, 3) := by decide +kernel
theorem dX6_behindStep_78 : decode cX6_behindStep 78 = .ok (.iload_n 3, 1) := by decide +kernel
theorem dX6_behindStep_79 : decode cX6_behindStep 79 = .ok (.iaload, 1) := by decide +kernel
theorem dX6_behindStep_80 : decode cX6_behindStep 80 = .ok (.iastore, 1) := by decide +kernel
theorem dX6_behindStep_81 : decode cX6_behindStep 81 = .ok (.iload_n 3, 1) := by decide +kernel
theorem dX6_behindStep_82 : decode cX6_behindStep 82 = .ok (.iconst 1, 1) := by decide +kernel
theorem dX6_behindStep_83 : decode cX6_behindStep 83 = .ok (.iadd, 1) := by decide +kernel
theorem dX6_behindStep_84 : decode cX6_behindStep 84 = .ok (.ireturn, 1) := by decide +kernel
theorem dX6_behindStep_85 : decode cX6_behindStep 85 = .ok (.iload_n 3, 1) := by decide +kernel
theorem dX6_behindStep_86 : decode cX6_behindStep 86 = .ok (.iconst 1, 1) := by decide +kernel
theorem dX6_behindStep_87 : decode cX6_behindStep 87 = .ok (.iadd, 1) := by decide +kernel
theorem dX6_behindStep_88 : decode cX6_behindStep 88 = .ok (.ireturn, 1) := by decide +kernel
set_option maxRecDepth 100000 in
def f_X6_behindStep_85 (l3 : Int32) (μ : dtM) : Option (Int32 × dtM) :=
  some ((l3 + (1 : Int32)), μ)
set_option maxRecDepth 100000 in
def f_X6_behindStep_68 (s0 : Int32) (μ : dtM) : Option (Int32 × dtM) :=
  some (s0, μ)
set_option maxRecDepth 100000 in
def f_X6_behindStep_45 (l1 : Nat) (l2 : Nat) (l3 : Int32) (μ : dtM) : Option (Int32 × dtM) :=
  opCall (f_X6_holds l1 l2 l3 μ) fun x3 μ1 => if x3 = 0 then ((opGR 0 8 μ1 l2).bind fun x7 => (opLI 1 μ1 x7 l3).bind fun x9 => f_X6_behindStep_68 (x9 + (1 : Int32)) μ1) else (f_X6_behindStep_68 (l3 + (1 : Int32)) μ1)
set_option maxRecDepth 100000 in
def f_X6_behindStep_69 (l0 : Nat) (l2 : Nat) (l3 : Int32) (μ : dtM) : Option (Int32 × dtM) :=
  (opGR 6 0 μ l0).bind fun x1 => (opGR 0 6 μ l2).bind fun x3 => (opLI 1 μ x3 l3).bind fun x5 => (opSI μ x1 l3 x5).bind fun μ7 => some ((l3 + (1 : Int32)), μ7)
set_option maxRecDepth 100000 in
def f_X6_behindStep_40 (l2 : Nat) (μ : dtM) : Option (Int32 × dtM) :=
  (opGI 0 2 μ l2).bind fun x1 => some (x1, μ)
set_option maxRecDepth 100000 in
def f_X6_behindStep (p0 : Nat) (p1 : Nat) (p2 : Nat) (p3 : Int32) (μ : dtM) : Option (Int32 × dtM) :=
  (opGR 0 3 μ p2).bind fun x1 => (opLI 1 μ x1 p3).bind fun x3 => if x3 = 19 then (f_X6_behindStep_45 p1 p2 p3 μ) else if x3 = 21 then (f_X6_behindStep_69 p0 p2 p3 μ) else if x3 = 23 then (f_X6_behindStep_40 p2 μ) else f_X6_behindStep_85 p3 μ
set_option maxRecDepth 100000 in
theorem c_X6_behindStep_85 {r : Int32} {F : dtM} (l3 : Int32) (μ : dtM) (h : f_X6_behindStep_85 l3 μ = some (r, F)) : dtW yX6_behindStep cX6_behindStep 4 (some .int) 4 (some (.int r)) F 85 [none, none, none, some (.int l3)] [] μ := by
  rw [f_X6_behindStep_85] at h
  refine dr_iload_n l3 dX6_behindStep_85 rfl ?_
  refine dr_iconst (1 : Int32) dX6_behindStep_86 (by decide) ?_
  refine dr_iadd dX6_behindStep_87 ?_
  cases h
  exact dr_ireturn dX6_behindStep_88 rfl
set_option maxRecDepth 100000 in
theorem c_X6_behindStep_68 {r : Int32} {F : dtM} (s0 : Int32) (μ : dtM) (h : f_X6_behindStep_68 s0 μ = some (r, F)) : dtW yX6_behindStep cX6_behindStep 4 (some .int) 4 (some (.int r)) F 68 [] [.int s0] μ := by
  rw [f_X6_behindStep_68] at h
  cases h
  exact dr_ireturn dX6_behindStep_68 rfl
set_option maxRecDepth 100000 in
theorem c_X6_behindStep_45 {r : Int32} {F : dtM} (l1 : Nat) (l2 : Nat) (l3 : Int32) (μ : dtM) (h : f_X6_behindStep_45 l1 l2 l3 μ = some (r, F)) : dtW yX6_behindStep cX6_behindStep 4 (some .int) 4 (some (.int r)) F 45 [none, some (.ref l1), some (.ref l2), some (.int l3)] [] μ := by
  rw [f_X6_behindStep_45] at h
  refine dr_aload_n l1 dX6_behindStep_45 rfl ?_
  refine dr_aload_n l2 dX6_behindStep_46 rfl ?_
  refine dr_iload_n l3 dX6_behindStep_47 rfl ?_
  obtain ⟨x3, μ1, e2, h⟩ := dtCall h
  refine dr_callS_i (S0 := []) [.ref l1, .ref l2, .int l3] x3 μ1 dX6_behindStep_48 (c_X6_holds l1 l2 l3 μ e2) mf_X6_holds wt_1306 wt_1305 rfl (Nat.le_of_ble_eq_true rfl) (Nat.le_of_ble_eq_true rfl) rfl ?_
  obtain ⟨ht5, hf6⟩ := dtIte h
  refine dr_if_eq 60 dX6_behindStep_51 (by decide) (fun hc4 => ?_) (fun hc4 => ?_)
  · have h := ht5 hc4
    refine dr_aload_n l2 dX6_behindStep_60 rfl ?_
    obtain ⟨x7, e8, h⟩ := dtBind h
    refine dr_getR x7 dX6_behindStep_61 fl_RX6_62 e8 ?_
    refine dr_iload_n l3 dX6_behindStep_64 rfl ?_
    obtain ⟨x9, e10, h⟩ := dtBind h
    refine dr_iaload x9 dX6_behindStep_65 e10 ?_
    refine dr_iconst (1 : Int32) dX6_behindStep_66 (by decide) ?_
    refine dr_iadd dX6_behindStep_67 ?_
    refine dr_mask [] [] rfl ?_
    exact c_X6_behindStep_68 (x9 + (1 : Int32)) μ1 h
  · have h := hf6 hc4
    refine dr_iload_n l3 dX6_behindStep_54 rfl ?_
    refine dr_iconst (1 : Int32) dX6_behindStep_55 (by decide) ?_
    refine dr_iadd dX6_behindStep_56 ?_
    refine dr_goto 68 dX6_behindStep_57 (by decide) ?_
    refine dr_mask [] [] rfl ?_
    exact c_X6_behindStep_68 (l3 + (1 : Int32)) μ1 h
set_option maxRecDepth 100000 in
theorem c_X6_behindStep_69 {r : Int32} {F : dtM} (l0 : Nat) (l2 : Nat) (l3 : Int32) (μ : dtM) (h : f_X6_behindStep_69 l0 l2 l3 μ = some (r, F)) : dtW yX6_behindStep cX6_behindStep 4 (some .int) 4 (some (.int r)) F 69 [some (.ref l0), none, some (.ref l2), some (.int l3)] [] μ := by
  rw [f_X6_behindStep_69] at h
  refine dr_aload_n l0 dX6_behindStep_69 rfl ?_
  obtain ⟨x1, e2, h⟩ := dtBind h
  refine dr_getR x1 dX6_behindStep_70 fl_RX6_9 e2 ?_
  refine dr_iload_n l3 dX6_behindStep_73 rfl ?_
  refine dr_aload_n l2 dX6_behindStep_74 rfl ?_
  obtain ⟨x3, e4, h⟩ := dtBind h
  refine dr_getR x3 dX6_behindStep_75 fl_RX6_69 e4 ?_
  refine dr_iload_n l3 dX6_behindStep_78 rfl ?_
  obtain ⟨x5, e6, h⟩ := dtBind h
  refine dr_iaload x5 dX6_behindStep_79 e6 ?_
  obtain ⟨μ7, e8, h⟩ := dtBind h
  refine dr_iastore μ7 dX6_behindStep_80 e8 ?_
  refine dr_iload_n l3 dX6_behindStep_81 rfl ?_
  refine dr_iconst (1 : Int32) dX6_behindStep_82 (by decide) ?_
  refine dr_iadd dX6_behindStep_83 ?_
  cases h
  exact dr_ireturn dX6_behindStep_84 rfl
set_option maxRecDepth 100000 in
theorem c_X6_behindStep_40 {r : Int32} {F : dtM} (l2 : Nat) (μ : dtM) (h : f_X6_behindStep_40 l2 μ = some (r, F)) : dtW yX6_behindStep cX6_behindStep 4 (some .int) 4 (some (.int r)) F 40 [none, none, some (.ref l2)] [] μ := by
  rw [f_X6_behindStep_40] at h
  refine dr_aload_n l2 dX6_behindStep_40 rfl ?_
  obtain ⟨x1, e2, h⟩ := dtBind h
  refine dr_getI x1 dX6_behindStep_41 fl_RX6_41 e2 ?_
  cases h
  exact dr_ireturn dX6_behindStep_44 rfl
set_option maxRecDepth 100000 in
theorem c_X6_behindStep {r : Int32} {F : dtM} (p0 : Nat) (p1 : Nat) (p2 : Nat) (p3 : Int32) (μ : dtM) (h : f_X6_behindStep p0 p1 p2 p3 μ = some (r, F)) : dtMet yX6_behindStep cX6_behindStep 4 (some .int) 4 [.ref p0, .ref p1, .ref p2, .int p3] μ (some (.int r)) F := by
  refine dtMet.of (by decide +kernel) (Nat.le_of_ble_eq_true rfl) (show dtW yX6_behindStep cX6_behindStep 4 (some .int) 4 (some (.int r)) F 0 [some (.ref p0), some (.ref p1), some (.ref p2), some (.int p3)] [] μ from ?_)
  rw [f_X6_behindStep] at h
  refine dr_aload_n p2 dX6_behindStep_0 rfl ?_
  obtain ⟨x1, e2, h⟩ := dtBind h
  refine dr_getR x1 dX6_behindStep_1 fl_RX6_46 e2 ?_
  refine dr_iload_n p3 dX6_behindStep_4 rfl ?_
  obtain ⟨x3, e4, h⟩ := dtBind h
  refine dr_iaload x3 dX6_behindStep_5 e4 ?_
  obtain ⟨ht5, h⟩ := dtIte h
  refine Decidable.byCases (dec := inferInstance) (fun hc7 : x3 = 19 => ?_) (fun hc7 => ?_)
  · have h := ht5 hc7
    refine dr_tableIn (off := 39) 45 dX6_behindStep_6 (by rw [hc7]; decide) (by rw [hc7]; decide) (by rw [hc7]; rfl) (by decide) ?_
    refine dr_mask [false, true, true, true] [none, some (.ref p1), some (.ref p2), some (.int p3)] rfl ?_
    exact c_X6_behindStep_45 p1 p2 p3 μ h
  have h := h hc7
  obtain ⟨ht8, h⟩ := dtIte h
  refine Decidable.byCases (dec := inferInstance) (fun hc10 : x3 = 21 => ?_) (fun hc10 => ?_)
  · have h := ht8 hc10
    refine dr_tableIn (off := 63) 69 dX6_behindStep_6 (by rw [hc10]; decide) (by rw [hc10]; decide) (by rw [hc10]; rfl) (by decide) ?_
    refine dr_mask [true, false, true, true] [some (.ref p0), none, some (.ref p2), some (.int p3)] rfl ?_
    exact c_X6_behindStep_69 p0 p2 p3 μ h
  have h := h hc10
  obtain ⟨ht11, h⟩ := dtIte h
  refine Decidable.byCases (dec := inferInstance) (fun hc13 : x3 = 23 => ?_) (fun hc13 => ?_)
  · have h := ht11 hc13
    refine dr_tableIn (off := 34) 40 dX6_behindStep_6 (by rw [hc13]; decide) (by rw [hc13]; decide) (by rw [hc13]; rfl) (by decide) ?_
    refine dr_mask [false, false, true] [none, none, some (.ref p2)] rfl ?_
    exact c_X6_behindStep_40 p2 μ h
  have h := h hc13
  have kd14 : dtW yX6_behindStep cX6_behindStep 4 (some .int) 4 (some (.int r)) F 85 [some (.ref p0), some (.ref p1), some (.ref p2), some (.int p3)] [] μ := by
    refine dr_mask [false, false, false, true] [none, none, none, some (.int p3)] rfl ?_
    exact c_X6_behindStep_85 p3 μ h
  refine Decidable.byCases (dec := inferInstance) (fun hlo : (x3).toInt < 19 ∨ 23 < (x3).toInt => dr_tableOut 85 dX6_behindStep_6 hlo (by decide) kd14) (fun hlo => ?_)
  obtain ⟨hl1, hl2⟩ := not_or.mp hlo
  have hv : (x3).toInt = 19 ∨ (x3).toInt = 20 ∨ (x3).toInt = 21 ∨ (x3).toInt = 22 ∨ (x3).toInt = 23 := by omega
  rcases hv with hv | hv | hv | hv | hv
  · exact absurd (Int32.toInt_inj.mp (hv.trans (show (19 : Int) = (19 : Int32).toInt by decide))) hc7
  · exact dr_tableIn (off := 79) 85 dX6_behindStep_6 hl1 hl2 (by rw [hv]; rfl) (by decide) kd14
  · exact absurd (Int32.toInt_inj.mp (hv.trans (show (21 : Int) = (21 : Int32).toInt by decide))) hc10
  · exact dr_tableIn (off := 79) 85 dX6_behindStep_6 hl1 hl2 (by rw [hv]; rfl) (by decide) kd14
  · exact absurd (Int32.toInt_inj.mp (hv.trans (show (23 : Int) = (23 : Int32).toInt by decide))) hc13
