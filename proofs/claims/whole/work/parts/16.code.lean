/-! X11_deafen -/
theorem dX11_deafen_0 : decode cX11_deafen 0 = .ok (.aload_n 0, 1) := by decide +kernel
theorem dX11_deafen_1 : decode cX11_deafen 1 = .ok (.getfield 37, 3) := by decide +kernel
theorem dX11_deafen_4 : decode cX11_deafen 4 = .ok (.iload_n 1, 1) := by decide +kernel
theorem dX11_deafen_5 : decode cX11_deafen 5 = .ok (.invokevirtual 250, 3) := by decide +kernel
theorem dX11_deafen_8 : decode cX11_deafen 8 = .ok (.ifCond .eq 13, 3) := by decide +kernel
theorem dX11_deafen_11 : decode cX11_deafen 11 = .ok (.iload_n 2, 1) := by decide +kernel
theorem dX11_deafen_12 : decode cX11_deafen 12 = .ok (.iconst 0, 1) := by decide +kernel
theorem dX11_deafen_13 : decode cX11_deafen 13 = .ok (.bipush 9, 2) := by decide +kernel
theorem dX11_deafen_15 : decode cX11_deafen 15 = .ok (.invokestatic 115, 3) := by decide +kernel
theorem dX11_deafen_18 : decode cX11_deafen 18 = .ok (.ifCond .ne 9, 3) := by decide +kernel
theorem dX11_deafen_21 : decode cX11_deafen 21 = .ok (.aload_n 0, 1) := by decide +kernel
theorem dX11_deafen_22 : decode cX11_deafen 22 = .ok (.iconst 1, 1) := by decide +kernel
theorem dX11_deafen_23 : decode cX11_deafen 23 = .ok (.invokevirtual 138, 3) := by decide +kernel
theorem dX11_deafen_26 : decode cX11_deafen 26 = .ok (.ireturn, 1) := by decide +kernel
theorem dX11_deafen_27 : decode cX11_deafen 27 = .ok (.aload_n 0, 1) := by decide +kernel
theorem dX11_deafen_28 : decode cX11_deafen 28 = .ok (.getfield 37, 3) := by decide +kernel
theorem dX11_deafen_31 : decode cX11_deafen 31 = .ok (.getfield 256, 3) := by decide +kernel
theorem dX11_deafen_34 : decode cX11_deafen 34 = .ok (.iload_n 1, 1) := by decide +kernel
theorem dX11_deafen_35 : decode cX11_deafen 35 = .ok (.iaload, 1) := by decide +kernel
theorem dX11_deafen_36 : decode cX11_deafen 36 = .ok (.istore_n 3, 1) := by decide +kernel
theorem dX11_deafen_37 : decode cX11_deafen 37 = .ok (.aload_n 0, 1) := by decide +kernel
theorem dX11_deafen_38 : decode cX11_deafen 38 = .ok (.getfield 37, 3) := by decide +kernel
theorem dX11_deafen_41 : decode cX11_deafen 41 = .ok (.getfield 256, 3) := by decide +kernel
theorem dX11_deafen_44 : decode cX11_deafen 44 = .ok (.iload_n 1, 1) := by decide +kernel
theorem dX11_deafen_45 : decode cX11_deafen 45 = .ok (.iload_n 2, 1) := by decide +kernel
theorem dX11_deafen_46 : decode cX11_deafen 46 = .ok (.iastore, 1) := by decide +kernel
theorem dX11_deafen_47 : decode cX11_deafen 47 = .ok (.aload_n 0, 1) := by decide +kernel
theorem dX11_deafen_48 : decode cX11_deafen 48 = .ok (.iload_n 3, 1) := by decide +kernel
theorem dX11_deafen_49 : decode cX11_deafen 49 = .ok (.invokevirtual 192, 3) := by decide +kernel
theorem dX11_deafen_52 : decode cX11_deafen 52 = .ok (.ireturn, 1) := by decide +kernel
set_option maxRecDepth 100000 in
def f_X11_deafen_21 (l0 : Nat) (μ : dtM) : Option (Int32 × dtM) :=
  (opRv 11 μ l0).bind fun _ => opCall (f_X11_fail l0 (1 : Int32) μ) fun x4 μ2 => some (x4, μ2)
set_option maxRecDepth 100000 in
def f_X11_deafen (p0 : Nat) (p1 : Int32) (p2 : Int32) (μ : dtM) : Option (Int32 × dtM) :=
  (opGR 11 5 μ p0).bind fun x1 => (opRv 3 μ x1).bind fun _ => opCall (f_X3_hasPerson x1 p1 μ) fun x6 μ4 => if x6 = 0 then (f_X11_deafen_21 p0 μ4) else (opCall (f_X11_within p2 (0 : Int32) (9 : Int32) μ4) fun x12 μ10 => if x12 = 0 then (f_X11_deafen_21 p0 μ10) else ((opGR 11 5 μ10 p0).bind fun x16 => (opGR 3 15 μ10 x16).bind fun x18 => (opLI 1 μ10 x18 p1).bind fun x20 => (opGR 11 5 μ10 p0).bind fun x22 => (opGR 3 15 μ10 x22).bind fun x24 => (opSI μ10 x24 p1 p2).bind fun μ26 => (opRv 11 μ26 p0).bind fun _ => opCall (f_X11_answer p0 x20 μ26) fun x31 μ29 => some (x31, μ29)))
set_option maxRecDepth 100000 in
theorem c_X11_deafen_21 {r : Int32} {F : dtM} (l0 : Nat) (μ : dtM) (h : f_X11_deafen_21 l0 μ = some (r, F)) : dtW yX11_deafen cX11_deafen 4 (some .int) 2 (some (.int r)) F 21 [some (.ref l0)] [] μ := by
  rw [f_X11_deafen_21] at h
  refine dr_aload_n l0 dX11_deafen_21 rfl ?_
  refine dr_iconst (1 : Int32) dX11_deafen_22 (by decide) ?_
  obtain ⟨_, hb1, h⟩ := dtBind h
  obtain ⟨x4, μ2, e3, h⟩ := dtCall h
  refine dr_callV_i (S0 := []) [.int (1 : Int32)] x4 μ2 dX11_deafen_23 (c_X11_fail l0 (1 : Int32) μ e3) mf_X11_fail wt_510 ws_3 wt_508 rfl (dtRv hb1) (by decide) rfl (Nat.le_of_ble_eq_true rfl) (Nat.le_of_ble_eq_true rfl) rfl ?_
  cases h
  exact dr_ireturn dX11_deafen_26 rfl
set_option maxRecDepth 100000 in
theorem c_X11_deafen {r : Int32} {F : dtM} (p0 : Nat) (p1 : Int32) (p2 : Int32) (μ : dtM) (h : f_X11_deafen p0 p1 p2 μ = some (r, F)) : dtMet yX11_deafen cX11_deafen 4 (some .int) 2 [.ref p0, .int p1, .int p2] μ (some (.int r)) F := by
  refine dtMet.of (by decide +kernel) (Nat.le_of_ble_eq_true rfl) (show dtW yX11_deafen cX11_deafen 4 (some .int) 2 (some (.int r)) F 0 [some (.ref p0), some (.int p1), some (.int p2)] [] μ from ?_)
  rw [f_X11_deafen] at h
  refine dr_aload_n p0 dX11_deafen_0 rfl ?_
  obtain ⟨x1, e2, h⟩ := dtBind h
  refine dr_getR x1 dX11_deafen_1 fl_RX11_37 e2 ?_
  refine dr_iload_n p1 dX11_deafen_4 rfl ?_
  obtain ⟨_, hb3, h⟩ := dtBind h
  obtain ⟨x6, μ4, e5, h⟩ := dtCall h
  refine dr_callV_i (S0 := []) [.int p1] x6 μ4 dX11_deafen_5 (c_X3_hasPerson x1 p1 μ e5) mf_X3_hasPerson wt_867 wt_868 wt_866 rfl (dtRv hb3) (by decide) rfl (Nat.le_of_ble_eq_true rfl) (Nat.le_of_ble_eq_true rfl) rfl ?_
  obtain ⟨ht8, hf9⟩ := dtIte h
  refine dr_if_eq 21 dX11_deafen_8 (by decide) (fun hc7 => ?_) (fun hc7 => ?_)
  · have h := ht8 hc7
    refine dr_mask [true] [some (.ref p0)] rfl ?_
    exact c_X11_deafen_21 p0 μ4 h
  · have h := hf9 hc7
    refine dr_iload_n p2 dX11_deafen_11 rfl ?_
    refine dr_iconst (0 : Int32) dX11_deafen_12 (by decide) ?_
    refine dr_bipush (9 : Int32) dX11_deafen_13 (by decide) ?_
    obtain ⟨x12, μ10, e11, h⟩ := dtCall h
    refine dr_callS_i (S0 := []) [.int p2, .int (0 : Int32), .int (9 : Int32)] x12 μ10 dX11_deafen_15 (c_X11_within p2 (0 : Int32) (9 : Int32) μ4 e11) mf_X11_within wt_478 wt_477 rfl (Nat.le_of_ble_eq_true rfl) (Nat.le_of_ble_eq_true rfl) rfl ?_
    obtain ⟨ht14, hf15⟩ := dtIte h
    refine dr_if_ne 27 dX11_deafen_18 (by decide) (fun hc13 => ?_) (fun hc13 => ?_)
    · have h := hf15 hc13
      refine dr_aload_n p0 dX11_deafen_27 rfl ?_
      obtain ⟨x16, e17, h⟩ := dtBind h
      refine dr_getR x16 dX11_deafen_28 fl_RX11_37 e17 ?_
      obtain ⟨x18, e19, h⟩ := dtBind h
      refine dr_getR x18 dX11_deafen_31 fl_RX11_256 e19 ?_
      refine dr_iload_n p1 dX11_deafen_34 rfl ?_
      obtain ⟨x20, e21, h⟩ := dtBind h
      refine dr_iaload x20 dX11_deafen_35 e21 ?_
      refine dr_istore_n 3 [some (.ref p0), some (.int p1), some (.int p2), some (.int x20)] dX11_deafen_36 rfl rfl rfl rfl ?_
      refine dr_aload_n p0 dX11_deafen_37 rfl ?_
      obtain ⟨x22, e23, h⟩ := dtBind h
      refine dr_getR x22 dX11_deafen_38 fl_RX11_37 e23 ?_
      obtain ⟨x24, e25, h⟩ := dtBind h
      refine dr_getR x24 dX11_deafen_41 fl_RX11_256 e25 ?_
      refine dr_iload_n p1 dX11_deafen_44 rfl ?_
      refine dr_iload_n p2 dX11_deafen_45 rfl ?_
      obtain ⟨μ26, e27, h⟩ := dtBind h
      refine dr_iastore μ26 dX11_deafen_46 e27 ?_
      refine dr_aload_n p0 dX11_deafen_47 rfl ?_
      refine dr_iload_n x20 dX11_deafen_48 rfl ?_
      obtain ⟨_, hb28, h⟩ := dtBind h
      obtain ⟨x31, μ29, e30, h⟩ := dtCall h
      refine dr_callV_i (S0 := []) [.int x20] x31 μ29 dX11_deafen_49 (c_X11_answer p0 x20 μ26 e30) mf_X11_answer wt_764 ws_19 wt_762 rfl (dtRv hb28) (by decide) rfl (Nat.le_of_ble_eq_true rfl) (Nat.le_of_ble_eq_true rfl) rfl ?_
      cases h
      exact dr_ireturn dX11_deafen_52 rfl
    · have h := ht14 hc13
      refine dr_mask [true] [some (.ref p0)] rfl ?_
      exact c_X11_deafen_21 p0 μ10 h
/-! X11_rule -/
theorem dX11_rule_0 : decode cX11_rule 0 = .ok (.iload_n 1, 1) := by decide +kernel
theorem dX11_rule_1 : decode cX11_rule 1 = .ok (.iconst 0, 1) := by decide +kernel
theorem dX11_rule_2 : decode cX11_rule 2 = .ok (.bipush 16, 2) := by decide +kernel
theorem dX11_rule_4 : decode cX11_rule 4 = .ok (.invokestatic 115, 3) := by decide +kernel
theorem dX11_rule_7 : decode cX11_rule 7 = .ok (.ifCond .ne 9, 3) := by decide +kernel
theorem dX11_rule_10 : decode cX11_rule 10 = .ok (.aload_n 0, 1) := by decide +kernel
theorem dX11_rule_11 : decode cX11_rule 11 = .ok (.iconst 1, 1) := by decide +kernel
theorem dX11_rule_12 : decode cX11_rule 12 = .ok (.invokevirtual 119, 3) := by decide +kernel
theorem dX11_rule_15 : decode cX11_rule 15 = .ok (.ireturn, 1) := by decide +kernel
theorem dX11_rule_16 : decode cX11_rule 16 = .ok (.aload_n 0, 1) := by decide +kernel
theorem dX11_rule_17 : decode cX11_rule 17 = .ok (.getfield 37, 3) := by decide +kernel
theorem dX11_rule_20 : decode cX11_rule 20 = .ok (.iload_n 1, 1) := by decide +kernel
theorem dX11_rule_21 : decode cX11_rule 21 = .ok (.putfield 217, 3) := by decide +kernel
theorem dX11_rule_24 : decode cX11_rule 24 = .ok (.aload_n 0, 1) := by decide +kernel
theorem dX11_rule_25 : decode cX11_rule 25 = .ok (.invokevirtual 126, 3) := by decide +kernel
theorem dX11_rule_28 : decode cX11_rule 28 = .ok (.ireturn, 1) := by decide +kernel
set_option maxRecDepth 100000 in
def f_X11_rule (p0 : Nat) (p1 : Int32) (μ : dtM) : Option (Int32 × dtM) :=
  opCall (f_X11_within p1 (0 : Int32) (16 : Int32) μ) fun x3 μ1 => if x3 = 0 then ((opRv 11 μ1 p0).bind fun _ => opCall (f_X11_refuse p0 (1 : Int32) μ1) fun x18 μ16 => opRet x18 μ16) else ((opGR 11 5 μ1 p0).bind fun x7 => (opPI 3 4 μ1 x7 p1).bind fun μ9 => (opRv 11 μ9 p0).bind fun _ => opCall (f_X11_agree p0 μ9) fun x14 μ12 => opRet x14 μ12)
set_option maxRecDepth 100000 in
theorem c_X11_rule {r : Int32} {F : dtM} (p0 : Nat) (p1 : Int32) (μ : dtM) (h : f_X11_rule p0 p1 μ = some (r, F)) : dtMet yX11_rule cX11_rule 2 (some .boolean) 2 [.ref p0, .int p1] μ (some (.int r)) F := by
  refine dtMet.of (by decide +kernel) (Nat.le_of_ble_eq_true rfl) (show dtW yX11_rule cX11_rule 2 (some .boolean) 2 (some (.int r)) F 0 [some (.ref p0), some (.int p1)] [] μ from ?_)
  rw [f_X11_rule] at h
  refine dr_iload_n p1 dX11_rule_0 rfl ?_
  refine dr_iconst (0 : Int32) dX11_rule_1 (by decide) ?_
  refine dr_bipush (16 : Int32) dX11_rule_2 (by decide) ?_
  obtain ⟨x3, μ1, e2, h⟩ := dtCall h
  refine dr_callS_i (S0 := []) [.int p1, .int (0 : Int32), .int (16 : Int32)] x3 μ1 dX11_rule_4 (c_X11_within p1 (0 : Int32) (16 : Int32) μ e2) mf_X11_within wt_478 wt_477 rfl (Nat.le_of_ble_eq_true rfl) (Nat.le_of_ble_eq_true rfl) rfl ?_
  obtain ⟨ht5, hf6⟩ := dtIte h
  refine dr_if_ne 16 dX11_rule_7 (by decide) (fun hc4 => ?_) (fun hc4 => ?_)
  · have h := hf6 hc4
    refine dr_aload_n p0 dX11_rule_16 rfl ?_
    obtain ⟨x7, e8, h⟩ := dtBind h
    refine dr_getR x7 dX11_rule_17 fl_RX11_37 e8 ?_
    refine dr_iload_n p1 dX11_rule_20 rfl ?_
    obtain ⟨μ9, e10, h⟩ := dtBind h
    refine dr_putI μ9 dX11_rule_21 fl_RX11_217 rfl e10 ?_
    refine dr_aload_n p0 dX11_rule_24 rfl ?_
    obtain ⟨_, hb11, h⟩ := dtBind h
    obtain ⟨x14, μ12, e13, h⟩ := dtCall h
    refine dr_callV_i (S0 := []) [] x14 μ12 dX11_rule_25 (c_X11_agree p0 μ9 e13) mf_X11_agree wt_490 ws_1 wt_488 rfl (dtRv hb11) (by decide) rfl (Nat.le_of_ble_eq_true rfl) (Nat.le_of_ble_eq_true rfl) rfl ?_
    obtain ⟨hz, rfl, rfl⟩ := dtRet h
    exact dr_ireturn dX11_rule_28 (dtNz hz)
  · have h := ht5 hc4
    refine dr_aload_n p0 dX11_rule_10 rfl ?_
    refine dr_iconst (1 : Int32) dX11_rule_11 (by decide) ?_
    obtain ⟨_, hb15, h⟩ := dtBind h
    obtain ⟨x18, μ16, e17, h⟩ := dtCall h
    refine dr_callV_i (S0 := []) [.int (1 : Int32)] x18 μ16 dX11_rule_12 (c_X11_refuse p0 (1 : Int32) μ1 e17) mf_X11_refuse wt_482 ws_0 wt_480 rfl (dtRv hb15) (by decide) rfl (Nat.le_of_ble_eq_true rfl) (Nat.le_of_ble_eq_true rfl) rfl ?_
    obtain ⟨hz, rfl, rfl⟩ := dtRet h
    exact dr_ireturn dX11_rule_15 (dtNz hz)
/-! X11_found -/
theorem dX11_found_0 : decode cX11_found 0 = .ok (.iload_n 1, 1) := by decide +kernel
theorem dX11_found_1 : decode cX11_found 1 = .ok (.iconst (-1), 1) := by decide +kernel
theorem dX11_found_2 : decode cX11_found 2 = .ok (.if_icmp .ne 12, 3) := by decide +kernel
theorem dX11_found_5 : decode cX11_found 5 = .ok (.aload_n 0, 1) := by decide +kernel
theorem dX11_found_6 : decode cX11_found 6 = .ok (.bipush 6, 2) := by decide +kernel
theorem dX11_found_8 : decode cX11_found 8 = .ok (.invokevirtual 138, 3) := by decide +kernel
theorem dX11_found_11 : decode cX11_found 11 = .ok (.goto 8, 3) := by decide +kernel
theorem dX11_found_14 : decode cX11_found 14 = .ok (.aload_n 0, 1) := by decide +kernel
theorem dX11_found_15 : decode cX11_found 15 = .ok (.iload_n 1, 1) := by decide +kernel
theorem dX11_found_16 : decode cX11_found 16 = .ok (.invokevirtual 192, 3) := by decide +kernel
theorem dX11_found_19 : decode cX11_found 19 = .ok (.ireturn, 1) := by decide +kernel
set_option maxRecDepth 100000 in
def f_X11_found_19 (s0 : Int32) (μ : dtM) : Option (Int32 × dtM) :=
  some (s0, μ)
set_option maxRecDepth 100000 in
def f_X11_found (p0 : Nat) (p1 : Int32) (μ : dtM) : Option (Int32 × dtM) :=
  if p1 = (-1 : Int32) then ((opRv 11 μ p0).bind fun _ => opCall (f_X11_fail p0 (6 : Int32) μ) fun x11 μ9 => f_X11_found_19 x11 μ9) else ((opRv 11 μ p0).bind fun _ => opCall (f_X11_answer p0 p1 μ) fun x7 μ5 => f_X11_found_19 x7 μ5)
set_option maxRecDepth 100000 in
theorem c_X11_found_19 {r : Int32} {F : dtM} (s0 : Int32) (μ : dtM) (h : f_X11_found_19 s0 μ = some (r, F)) : dtW yX11_found cX11_found 2 (some .int) 2 (some (.int r)) F 19 [] [.int s0] μ := by
  rw [f_X11_found_19] at h
  cases h
  exact dr_ireturn dX11_found_19 rfl
set_option maxRecDepth 100000 in
theorem c_X11_found {r : Int32} {F : dtM} (p0 : Nat) (p1 : Int32) (μ : dtM) (h : f_X11_found p0 p1 μ = some (r, F)) : dtMet yX11_found cX11_found 2 (some .int) 2 [.ref p0, .int p1] μ (some (.int r)) F := by
  refine dtMet.of (by decide +kernel) (Nat.le_of_ble_eq_true rfl) (show dtW yX11_found cX11_found 2 (some .int) 2 (some (.int r)) F 0 [some (.ref p0), some (.int p1)] [] μ from ?_)
  rw [f_X11_found] at h
  refine dr_iload_n p1 dX11_found_0 rfl ?_
  refine dr_iconst (-1 : Int32) dX11_found_1 (by decide) ?_
  obtain ⟨ht2, hf3⟩ := dtIte h
  refine dr_icmp_ne 14 dX11_found_2 (by decide) (fun hc1 => ?_) (fun hc1 => ?_)
  · have h := hf3 hc1
    refine dr_aload_n p0 dX11_found_14 rfl ?_
    refine dr_iload_n p1 dX11_found_15 rfl ?_
    obtain ⟨_, hb4, h⟩ := dtBind h
    obtain ⟨x7, μ5, e6, h⟩ := dtCall h
    refine dr_callV_i (S0 := []) [.int p1] x7 μ5 dX11_found_16 (c_X11_answer p0 p1 μ e6) mf_X11_answer wt_764 ws_19 wt_762 rfl (dtRv hb4) (by decide) rfl (Nat.le_of_ble_eq_true rfl) (Nat.le_of_ble_eq_true rfl) rfl ?_
    refine dr_mask [] [] rfl ?_
    exact c_X11_found_19 x7 μ5 h
  · have h := ht2 hc1
    refine dr_aload_n p0 dX11_found_5 rfl ?_
    refine dr_bipush (6 : Int32) dX11_found_6 (by decide) ?_
    obtain ⟨_, hb8, h⟩ := dtBind h
    obtain ⟨x11, μ9, e10, h⟩ := dtCall h
    refine dr_callV_i (S0 := []) [.int (6 : Int32)] x11 μ9 dX11_found_8 (c_X11_fail p0 (6 : Int32) μ e10) mf_X11_fail wt_510 ws_3 wt_508 rfl (dtRv hb8) (by decide) rfl (Nat.le_of_ble_eq_true rfl) (Nat.le_of_ble_eq_true rfl) rfl ?_
    refine dr_goto 19 dX11_found_11 (by decide) ?_
    refine dr_mask [] [] rfl ?_
    exact c_X11_found_19 x11 μ9 h
/-! X11_loss -/
theorem dX11_loss_0 : decode cX11_loss 0 = .ok (.aload_n 0, 1) := by decide +kernel
theorem dX11_loss_1 : decode cX11_loss 1 = .ok (.getfield 37, 3) := by decide +kernel
theorem dX11_loss_4 : decode cX11_loss 4 = .ok (.iload_n 1, 1) := by decide +kernel
theorem dX11_loss_5 : decode cX11_loss 5 = .ok (.invokevirtual 310, 3) := by decide +kernel
theorem dX11_loss_8 : decode cX11_loss 8 = .ok (.ifCond .eq 14, 3) := by decide +kernel
theorem dX11_loss_11 : decode cX11_loss 11 = .ok (.aload_n 0, 1) := by decide +kernel
theorem dX11_loss_12 : decode cX11_loss 12 = .ok (.getfield 37, 3) := by decide +kernel
theorem dX11_loss_15 : decode cX11_loss 15 = .ok (.iload_n 2, 1) := by decide +kernel
theorem dX11_loss_16 : decode cX11_loss 16 = .ok (.invokevirtual 310, 3) := by decide +kernel
theorem dX11_loss_19 : decode cX11_loss 19 = .ok (.ifCond .ne 9, 3) := by decide +kernel
theorem dX11_loss_22 : decode cX11_loss 22 = .ok (.aload_n 0, 1) := by decide +kernel
theorem dX11_loss_23 : decode cX11_loss 23 = .ok (.iconst 1, 1) := by decide +kernel
theorem dX11_loss_24 : decode cX11_loss 24 = .ok (.invokevirtual 138, 3) := by decide +kernel
theorem dX11_loss_27 : decode cX11_loss 27 = .ok (.ireturn, 1) := by decide +kernel
theorem dX11_loss_28 : decode cX11_loss 28 = .ok (.aload_n 0, 1) := by decide +kernel
theorem dX11_loss_29 : decode cX11_loss 29 = .ok (.aload_n 0, 1) := by decide +kernel
theorem dX11_loss_30 : decode cX11_loss 30 = .ok (.getfield 82, 3) := by decide +kernel
theorem dX11_loss_33 : decode cX11_loss 33 = .ok (.aload_n 0, 1) := by decide +kernel
theorem dX11_loss_34 : decode cX11_loss 34 = .ok (.getfield 37, 3) := by decide +kernel
theorem dX11_loss_37 : decode cX11_loss 37 = .ok (.iload_n 1, 1) := by decide +kernel
theorem dX11_loss_38 : decode cX11_loss 38 = .ok (.iload_n 2, 1) := by decide +kernel
theorem dX11_loss_39 : decode cX11_loss 39 = .ok (.invokevirtual 317, 3) := by decide +kernel
theorem dX11_loss_42 : decode cX11_loss 42 = .ok (.invokevirtual 321, 3) := by decide +kernel
theorem dX11_loss_45 : decode cX11_loss 45 = .ok (.ireturn, 1) := by decide +kernel
set_option maxRecDepth 100000 in
def f_X11_loss_22 (l0 : Nat) (μ : dtM) : Option (Int32 × dtM) :=
  (opRv 11 μ l0).bind fun _ => opCall (f_X11_fail l0 (1 : Int32) μ) fun x4 μ2 => some (x4, μ2)
set_option maxRecDepth 100000 in
def f_X11_loss (p0 : Nat) (p1 : Int32) (p2 : Int32) (μ : dtM) : Option (Int32 × dtM) :=
  (opGR 11 5 μ p0).bind fun x1 => (opRv 3 μ x1).bind fun _ => opCall (f_X3_hasRoom x1 p1 μ) fun x6 μ4 => if x6 = 0 then (f_X11_loss_22 p0 μ4) else ((opGR 11 5 μ4 p0).bind fun x10 => (opRv 3 μ4 x10).bind fun _ => opCall (f_X3_hasRoom x10 p2 μ4) fun x15 μ13 => if x15 = 0 then (f_X11_loss_22 p0 μ13) else ((opGR 11 14 μ13 p0).bind fun x19 => (opGR 11 5 μ13 p0).bind fun x21 => (opRv 2 μ13 x19).bind fun _ => opCall (f_X2_lossBetween x19 x21 p1 p2 μ13) fun x26 μ24 => (opRv 11 μ24 p0).bind fun _ => opCall (f_X11_found p0 x26 μ24) fun x30 μ28 => some (x30, μ28)))
set_option maxRecDepth 100000 in
theorem c_X11_loss_22 {r : Int32} {F : dtM} (l0 : Nat) (μ : dtM) (h : f_X11_loss_22 l0 μ = some (r, F)) : dtW yX11_loss cX11_loss 3 (some .int) 3 (some (.int r)) F 22 [some (.ref l0)] [] μ := by
  rw [f_X11_loss_22] at h
  refine dr_aload_n l0 dX11_loss_22 rfl ?_
  refine dr_iconst (1 : Int32) dX11_loss_23 (by decide) ?_
  obtain ⟨_, hb1, h⟩ := dtBind h
  obtain ⟨x4, μ2, e3, h⟩ := dtCall h
  refine dr_callV_i (S0 := []) [.int (1 : Int32)] x4 μ2 dX11_loss_24 (c_X11_fail l0 (1 : Int32) μ e3) mf_X11_fail wt_510 ws_3 wt_508 rfl (dtRv hb1) (by decide) rfl (Nat.le_of_ble_eq_true rfl) (Nat.le_of_ble_eq_true rfl) rfl ?_
  cases h
  exact dr_ireturn dX11_loss_27 rfl
set_option maxRecDepth 100000 in
theorem c_X11_loss {r : Int32} {F : dtM} (p0 : Nat) (p1 : Int32) (p2 : Int32) (μ : dtM) (h : f_X11_loss p0 p1 p2 μ = some (r, F)) : dtMet yX11_loss cX11_loss 3 (some .int) 3 [.ref p0, .int p1, .int p2] μ (some (.int r)) F := by
  refine dtMet.of (by decide +kernel) (Nat.le_of_ble_eq_true rfl) (show dtW yX11_loss cX11_loss 3 (some .int) 3 (some (.int r)) F 0 [some (.ref p0), some (.int p1), some (.int p2)] [] μ from ?_)
  rw [f_X11_loss] at h
  refine dr_aload_n p0 dX11_loss_0 rfl ?_
  obtain ⟨x1, e2, h⟩ := dtBind h
  refine dr_getR x1 dX11_loss_1 fl_RX11_37 e2 ?_
  refine dr_iload_n p1 dX11_loss_4 rfl ?_
  obtain ⟨_, hb3, h⟩ := dtBind h
  obtain ⟨x6, μ4, e5, h⟩ := dtCall h
  refine dr_callV_i (S0 := []) [.int p1] x6 μ4 dX11_loss_5 (c_X3_hasRoom x1 p1 μ e5) mf_X3_hasRoom wt_975 wt_976 wt_974 rfl (dtRv hb3) (by decide) rfl (Nat.le_of_ble_eq_true rfl) (Nat.le_of_ble_eq_true rfl) rfl ?_
  obtain ⟨ht8, hf9⟩ := dtIte h
  refine dr_if_eq 22 dX11_loss_8 (by decide) (fun hc7 => ?_) (fun hc7 => ?_)
  · have h := ht8 hc7
    refine dr_mask [true] [some (.ref p0)] rfl ?_
    exact c_X11_loss_22 p0 μ4 h
  · have h := hf9 hc7
    refine dr_aload_n p0 dX11_loss_11 rfl ?_
    obtain ⟨x10, e11, h⟩ := dtBind h
    refine dr_getR x10 dX11_loss_12 fl_RX11_37 e11 ?_
    refine dr_iload_n p2 dX11_loss_15 rfl ?_
    obtain ⟨_, hb12, h⟩ := dtBind h
    obtain ⟨x15, μ13, e14, h⟩ := dtCall h
    refine dr_callV_i (S0 := []) [.int p2] x15 μ13 dX11_loss_16 (c_X3_hasRoom x10 p2 μ4 e14) mf_X3_hasRoom wt_975 wt_976 wt_974 rfl (dtRv hb12) (by decide) rfl (Nat.le_of_ble_eq_true rfl) (Nat.le_of_ble_eq_true rfl) rfl ?_
    obtain ⟨ht17, hf18⟩ := dtIte h
    refine dr_if_ne 28 dX11_loss_19 (by decide) (fun hc16 => ?_) (fun hc16 => ?_)
    · have h := hf18 hc16
      refine dr_aload_n p0 dX11_loss_28 rfl ?_
      refine dr_aload_n p0 dX11_loss_29 rfl ?_
      obtain ⟨x19, e20, h⟩ := dtBind h
      refine dr_getR x19 dX11_loss_30 fl_RX11_82 e20 ?_
      refine dr_aload_n p0 dX11_loss_33 rfl ?_
      obtain ⟨x21, e22, h⟩ := dtBind h
      refine dr_getR x21 dX11_loss_34 fl_RX11_37 e22 ?_
      refine dr_iload_n p1 dX11_loss_37 rfl ?_
      refine dr_iload_n p2 dX11_loss_38 rfl ?_
      obtain ⟨_, hb23, h⟩ := dtBind h
      obtain ⟨x26, μ24, e25, h⟩ := dtCall h
      refine dr_callV_i (S0 := [.ref p0]) [.ref x21, .int p1, .int p2] x26 μ24 dX11_loss_39 (c_X2_lossBetween x19 x21 p1 p2 μ13 e25) mf_X2_lossBetween wt_996 wt_997 wt_995 rfl (dtRv hb23) (by decide) rfl (Nat.le_of_ble_eq_true rfl) (Nat.le_of_ble_eq_true rfl) rfl ?_
      obtain ⟨_, hb27, h⟩ := dtBind h
      obtain ⟨x30, μ28, e29, h⟩ := dtCall h
      refine dr_callV_i (S0 := []) [.int x26] x30 μ28 dX11_loss_42 (c_X11_found p0 x26 μ24 e29) mf_X11_found wt_1001 ws_32 wt_999 rfl (dtRv hb27) (by decide) rfl (Nat.le_of_ble_eq_true rfl) (Nat.le_of_ble_eq_true rfl) rfl ?_
      cases h
      exact dr_ireturn dX11_loss_45 rfl
    · have h := ht17 hc16
      refine dr_mask [true] [some (.ref p0)] rfl ?_
      exact c_X11_loss_22 p0 μ13 h
/-! X11_hearers -/
theorem dX11_hearers_0 : decode cX11_hearers 0 = .ok (.aload_n 0, 1) := by decide +kernel
theorem dX11_hearers_1 : decode cX11_hearers 1 = .ok (.getfield 37, 3) := by decide +kernel
theorem dX11_hearers_4 : decode cX11_hearers 4 = .ok (.iload_n 1, 1) := by decide +kernel
theorem dX11_hearers_5 : decode cX11_hearers 5 = .ok (.invokevirtual 226, 3) := by decide +kernel
theorem dX11_hearers_8 : decode cX11_hearers 8 = .ok (.ifCond .eq 10, 3) := by decide +kernel
theorem dX11_hearers_11 : decode cX11_hearers 11 = .ok (.iload_n 2, 1) := by decide +kernel
theorem dX11_hearers_12 : decode cX11_hearers 12 = .ok (.invokestatic 268, 3) := by decide +kernel
theorem dX11_hearers_15 : decode cX11_hearers 15 = .ok (.ifCond .ne 9, 3) := by decide +kernel
theorem dX11_hearers_18 : decode cX11_hearers 18 = .ok (.aload_n 0, 1) := by decide +kernel
theorem dX11_hearers_19 : decode cX11_hearers 19 = .ok (.iconst 1, 1) := by decide +kernel
theorem dX11_hearers_20 : decode cX11_hearers 20 = .ok (.invokevirtual 138, 3) := by decide +kernel
theorem dX11_hearers_23 : decode cX11_hearers 23 = .ok (.ireturn, 1) := by decide +kernel
theorem dX11_hearers_24 : decode cX11_hearers 24 = .ok (.aload_n 0, 1) := by decide +kernel
theorem dX11_hearers_25 : decode cX11_hearers 25 = .ok (.aload_n 0, 1) := by decide +kernel
theorem dX11_hearers_26 : decode cX11_hearers 26 = .ok (.getfield 82, 3) := by decide +kernel
theorem dX11_hearers_29 : decode cX11_hearers 29 = .ok (.aload_n 0, 1) := by decide +kernel
theorem dX11_hearers_30 : decode cX11_hearers 30 = .ok (.getfield 37, 3) := by decide +kernel
theorem dX11_hearers_33 : decode cX11_hearers 33 = .ok (.iload_n 1, 1) := by decide +kernel
theorem dX11_hearers_34 : decode cX11_hearers 34 = .ok (.iload_n 2, 1) := by decide +kernel
theorem dX11_hearers_35 : decode cX11_hearers 35 = .ok (.iconst (-1), 1) := by decide +kernel
theorem dX11_hearers_36 : decode cX11_hearers 36 = .ok (.invokevirtual 324, 3) := by decide +kernel
theorem dX11_hearers_39 : decode cX11_hearers 39 = .ok (.invokevirtual 192, 3) := by decide +kernel
theorem dX11_hearers_42 : decode cX11_hearers 42 = .ok (.ireturn, 1) := by decide +kernel
set_option maxRecDepth 100000 in
def f_X11_hearers_18 (l0 : Nat) (μ : dtM) : Option (Int32 × dtM) :=
  (opRv 11 μ l0).bind fun _ => opCall (f_X11_fail l0 (1 : Int32) μ) fun x4 μ2 => some (x4, μ2)
set_option maxRecDepth 100000 in
def f_X11_hearers (p0 : Nat) (p1 : Int32) (p2 : Int32) (μ : dtM) : Option (Int32 × dtM) :=
  (opGR 11 5 μ p0).bind fun x1 => (opRv 3 μ x1).bind fun _ => opCall (f_X3_hasDoor x1 p1 μ) fun x6 μ4 => if x6 = 0 then (f_X11_hearers_18 p0 μ4) else (opCall (f_X11_isSound p2 μ4) fun x12 μ10 => if x12 = 0 then (f_X11_hearers_18 p0 μ10) else ((opGR 11 14 μ10 p0).bind fun x16 => (opGR 11 5 μ10 p0).bind fun x18 => (opRv 2 μ10 x16).bind fun _ => opCall (f_X2_hearersOf x16 x18 p1 p2 (-1 : Int32) μ10) fun x23 μ21 => (opRv 11 μ21 p0).bind fun _ => opCall (f_X11_answer p0 x23 μ21) fun x27 μ25 => some (x27, μ25)))
set_option maxRecDepth 100000 in
theorem c_X11_hearers_18 {r : Int32} {F : dtM} (l0 : Nat) (μ : dtM) (h : f_X11_hearers_18 l0 μ = some (r, F)) : dtW yX11_hearers cX11_hearers 3 (some .int) 3 (some (.int r)) F 18 [some (.ref l0)] [] μ := by
  rw [f_X11_hearers_18] at h
  refine dr_aload_n l0 dX11_hearers_18 rfl ?_
  refine dr_iconst (1 : Int32) dX11_hearers_19 (by decide) ?_
  obtain ⟨_, hb1, h⟩ := dtBind h
  obtain ⟨x4, μ2, e3, h⟩ := dtCall h
  refine dr_callV_i (S0 := []) [.int (1 : Int32)] x4 μ2 dX11_hearers_20 (c_X11_fail l0 (1 : Int32) μ e3) mf_X11_fail wt_510 ws_3 wt_508 rfl (dtRv hb1) (by decide) rfl (Nat.le_of_ble_eq_true rfl) (Nat.le_of_ble_eq_true rfl) rfl ?_
  cases h
  exact dr_ireturn dX11_hearers_23 rfl
set_option maxRecDepth 100000 in
theorem c_X11_hearers {r : Int32} {F : dtM} (p0 : Nat) (p1 : Int32) (p2 : Int32) (μ : dtM) (h : f_X11_hearers p0 p1 p2 μ = some (r, F)) : dtMet yX11_hearers cX11_hearers 3 (some .int) 3 [.ref p0, .int p1, .int p2] μ (some (.int r)) F := by
  refine dtMet.of (by decide +kernel) (Nat.le_of_ble_eq_true rfl) (show dtW yX11_hearers cX11_hearers 3 (some .int) 3 (some (.int r)) F 0 [some (.ref p0), some (.int p1), some (.int p2)] [] μ from ?_)
  rw [f_X11_hearers] at h
  refine dr_aload_n p0 dX11_hearers_0 rfl ?_
  obtain ⟨x1, e2, h⟩ := dtBind h
  refine dr_getR x1 dX11_hearers_1 fl_RX11_37 e2 ?_
  refine dr_iload_n p1 dX11_hearers_4 rfl ?_
  obtain ⟨_, hb3, h⟩ := dtBind h
  obtain ⟨x6, μ4, e5, h⟩ := dtCall h
  refine dr_callV_i (S0 := []) [.int p1] x6 μ4 dX11_hearers_5 (c_X3_hasDoor x1 p1 μ e5) mf_X3_hasDoor wt_841 wt_842 wt_840 rfl (dtRv hb3) (by decide) rfl (Nat.le_of_ble_eq_true rfl) (Nat.le_of_ble_eq_true rfl) rfl ?_
  obtain ⟨ht8, hf9⟩ := dtIte h
  refine dr_if_eq 18 dX11_hearers_8 (by decide) (fun hc7 => ?_) (fun hc7 => ?_)
  · have h := ht8 hc7
    refine dr_mask [true] [some (.ref p0)] rfl ?_
    exact c_X11_hearers_18 p0 μ4 h
  · have h := hf9 hc7
    refine dr_iload_n p2 dX11_hearers_11 rfl ?_
    obtain ⟨x12, μ10, e11, h⟩ := dtCall h
    refine dr_callS_i (S0 := []) [.int p2] x12 μ10 dX11_hearers_12 (c_X11_isSound p2 μ4 e11) mf_X11_isSound wt_879 wt_878 rfl (Nat.le_of_ble_eq_true rfl) (Nat.le_of_ble_eq_true rfl) rfl ?_
    obtain ⟨ht14, hf15⟩ := dtIte h
    refine dr_if_ne 24 dX11_hearers_15 (by decide) (fun hc13 => ?_) (fun hc13 => ?_)
    · have h := hf15 hc13
      refine dr_aload_n p0 dX11_hearers_24 rfl ?_
      refine dr_aload_n p0 dX11_hearers_25 rfl ?_
      obtain ⟨x16, e17, h⟩ := dtBind h
      refine dr_getR x16 dX11_hearers_26 fl_RX11_82 e17 ?_
      refine dr_aload_n p0 dX11_hearers_29 rfl ?_
      obtain ⟨x18, e19, h⟩ := dtBind h
      refine dr_getR x18 dX11_hearers_30 fl_RX11_37 e19 ?_
      refine dr_iload_n p1 dX11_hearers_33 rfl ?_
      refine dr_iload_n p2 dX11_hearers_34 rfl ?_
      refine dr_iconst (-1 : Int32) dX11_hearers_35 (by decide) ?_
      obtain ⟨_, hb20, h⟩ := dtBind h
      obtain ⟨x23, μ21, e22, h⟩ := dtCall h
      refine dr_callV_i (S0 := [.ref p0]) [.ref x18, .int p1, .int p2, .int (-1 : Int32)] x23 μ21 dX11_hearers_36 (c_X2_hearersOf x16 x18 p1 p2 (-1 : Int32) μ10 e22) mf_X2_hearersOf wt_892 wt_893 wt_1007 rfl (dtRv hb20) (by decide) rfl (Nat.le_of_ble_eq_true rfl) (Nat.le_of_ble_eq_true rfl) rfl ?_
      obtain ⟨_, hb24, h⟩ := dtBind h
      obtain ⟨x27, μ25, e26, h⟩ := dtCall h
      refine dr_callV_i (S0 := []) [.int x23] x27 μ25 dX11_hearers_39 (c_X11_answer p0 x23 μ21 e26) mf_X11_answer wt_764 ws_19 wt_762 rfl (dtRv hb24) (by decide) rfl (Nat.le_of_ble_eq_true rfl) (Nat.le_of_ble_eq_true rfl) rfl ?_
      cases h
      exact dr_ireturn dX11_hearers_42 rfl
    · have h := ht14 hc13
      refine dr_mask [true] [some (.ref p0)] rfl ?_
      exact c_X11_hearers_18 p0 μ10 h
/-! X11_hears -/
theorem dX11_hears_0 : decode cX11_hears 0 = .ok (.aload_n 0, 1) := by decide +kernel
theorem dX11_hears_1 : decode cX11_hears 1 = .ok (.getfield 37, 3) := by decide +kernel
theorem dX11_hears_4 : decode cX11_hears 4 = .ok (.iload_n 1, 1) := by decide +kernel
theorem dX11_hears_5 : decode cX11_hears 5 = .ok (.invokevirtual 250, 3) := by decide +kernel
theorem dX11_hears_8 : decode cX11_hears 8 = .ok (.ifCond .eq 10, 3) := by decide +kernel
theorem dX11_hears_11 : decode cX11_hears 11 = .ok (.iload_n 2, 1) := by decide +kernel
theorem dX11_hears_12 : decode cX11_hears 12 = .ok (.invokestatic 268, 3) := by decide +kernel
theorem dX11_hears_15 : decode cX11_hears 15 = .ok (.ifCond .ne 9, 3) := by decide +kernel
theorem dX11_hears_18 : decode cX11_hears 18 = .ok (.aload_n 0, 1) := by decide +kernel
theorem dX11_hears_19 : decode cX11_hears 19 = .ok (.iconst 1, 1) := by decide +kernel
theorem dX11_hears_20 : decode cX11_hears 20 = .ok (.invokevirtual 138, 3) := by decide +kernel
theorem dX11_hears_23 : decode cX11_hears 23 = .ok (.ireturn, 1) := by decide +kernel
theorem dX11_hears_24 : decode cX11_hears 24 = .ok (.aload_n 0, 1) := by decide +kernel
theorem dX11_hears_25 : decode cX11_hears 25 = .ok (.aload_n 0, 1) := by decide +kernel
theorem dX11_hears_26 : decode cX11_hears 26 = .ok (.getfield 82, 3) := by decide +kernel
theorem dX11_hears_29 : decode cX11_hears 29 = .ok (.aload_n 0, 1) := by decide +kernel
theorem dX11_hears_30 : decode cX11_hears 30 = .ok (.getfield 37, 3) := by decide +kernel
theorem dX11_hears_33 : decode cX11_hears 33 = .ok (.iload_n 1, 1) := by decide +kernel
theorem dX11_hears_34 : decode cX11_hears 34 = .ok (.iload_n 2, 1) := by decide +kernel
theorem dX11_hears_35 : decode cX11_hears 35 = .ok (.invokevirtual 327, 3) := by decide +kernel
theorem dX11_hears_38 : decode cX11_hears 38 = .ok (.invokevirtual 192, 3) := by decide +kernel
theorem dX11_hears_41 : decode cX11_hears 41 = .ok (.ireturn, 1) := by decide +kernel
set_option maxRecDepth 100000 in
def f_X11_hears_18 (l0 : Nat) (μ : dtM) : Option (Int32 × dtM) :=
  (opRv 11 μ l0).bind fun _ => opCall (f_X11_fail l0 (1 : Int32) μ) fun x4 μ2 => some (x4, μ2)
set_option maxRecDepth 100000 in
def f_X11_hears (p0 : Nat) (p1 : Int32) (p2 : Int32) (μ : dtM) : Option (Int32 × dtM) :=
  (opGR 11 5 μ p0).bind fun x1 => (opRv 3 μ x1).bind fun _ => opCall (f_X3_hasPerson x1 p1 μ) fun x6 μ4 => if x6 = 0 then (f_X11_hears_18 p0 μ4) else (opCall (f_X11_isSound p2 μ4) fun x12 μ10 => if x12 = 0 then (f_X11_hears_18 p0 μ10) else ((opGR 11 14 μ10 p0).bind fun x16 => (opGR 11 5 μ10 p0).bind fun x18 => (opRv 2 μ10 x16).bind fun _ => opCall (f_X2_doorsHeard x16 x18 p1 p2 μ10) fun x23 μ21 => (opRv 11 μ21 p0).bind fun _ => opCall (f_X11_answer p0 x23 μ21) fun x27 μ25 => some (x27, μ25)))
set_option maxRecDepth 100000 in
theorem c_X11_hears_18 {r : Int32} {F : dtM} (l0 : Nat) (μ : dtM) (h : f_X11_hears_18 l0 μ = some (r, F)) : dtW yX11_hears cX11_hears 3 (some .int) 3 (some (.int r)) F 18 [some (.ref l0)] [] μ := by
  rw [f_X11_hears_18] at h
  refine dr_aload_n l0 dX11_hears_18 rfl ?_
  refine dr_iconst (1 : Int32) dX11_hears_19 (by decide) ?_
  obtain ⟨_, hb1, h⟩ := dtBind h
  obtain ⟨x4, μ2, e3, h⟩ := dtCall h
  refine dr_callV_i (S0 := []) [.int (1 : Int32)] x4 μ2 dX11_hears_20 (c_X11_fail l0 (1 : Int32) μ e3) mf_X11_fail wt_510 ws_3 wt_508 rfl (dtRv hb1) (by decide) rfl (Nat.le_of_ble_eq_true rfl) (Nat.le_of_ble_eq_true rfl) rfl ?_
  cases h
  exact dr_ireturn dX11_hears_23 rfl
set_option maxRecDepth 100000 in
theorem c_X11_hears {r : Int32} {F : dtM} (p0 : Nat) (p1 : Int32) (p2 : Int32) (μ : dtM) (h : f_X11_hears p0 p1 p2 μ = some (r, F)) : dtMet yX11_hears cX11_hears 3 (some .int) 3 [.ref p0, .int p1, .int p2] μ (some (.int r)) F := by
  refine dtMet.of (by decide +kernel) (Nat.le_of_ble_eq_true rfl) (show dtW yX11_hears cX11_hears 3 (some .int) 3 (some (.int r)) F 0 [some (.ref p0), some (.int p1), some (.int p2)] [] μ from ?_)
  rw [f_X11_hears] at h
  refine dr_aload_n p0 dX11_hears_0 rfl ?_
  obtain ⟨x1, e2, h⟩ := dtBind h
  refine dr_getR x1 dX11_hears_1 fl_RX11_37 e2 ?_
  refine dr_iload_n p1 dX11_hears_4 rfl ?_
  obtain ⟨_, hb3, h⟩ := dtBind h
  obtain ⟨x6, μ4, e5, h⟩ := dtCall h
  refine dr_callV_i (S0 := []) [.int p1] x6 μ4 dX11_hears_5 (c_X3_hasPerson x1 p1 μ e5) mf_X3_hasPerson wt_867 wt_868 wt_866 rfl (dtRv hb3) (by decide) rfl (Nat.le_of_ble_eq_true rfl) (Nat.le_of_ble_eq_true rfl) rfl ?_
  obtain ⟨ht8, hf9⟩ := dtIte h
  refine dr_if_eq 18 dX11_hears_8 (by decide) (fun hc7 => ?_) (fun hc7 => ?_)
  · have h := ht8 hc7
    refine dr_mask [true] [some (.ref p0)] rfl ?_
    exact c_X11_hears_18 p0 μ4 h
  · have h := hf9 hc7
    refine dr_iload_n p2 dX11_hears_11 rfl ?_
    obtain ⟨x12, μ10, e11, h⟩ := dtCall h
    refine dr_callS_i (S0 := []) [.int p2] x12 μ10 dX11_hears_12 (c_X11_isSound p2 μ4 e11) mf_X11_isSound wt_879 wt_878 rfl (Nat.le_of_ble_eq_true rfl) (Nat.le_of_ble_eq_true rfl) rfl ?_
    obtain ⟨ht14, hf15⟩ := dtIte h
    refine dr_if_ne 24 dX11_hears_15 (by decide) (fun hc13 => ?_) (fun hc13 => ?_)
    · have h := hf15 hc13
      refine dr_aload_n p0 dX11_hears_24 rfl ?_
      refine dr_aload_n p0 dX11_hears_25 rfl ?_
      obtain ⟨x16, e17, h⟩ := dtBind h
      refine dr_getR x16 dX11_hears_26 fl_RX11_82 e17 ?_
      refine dr_aload_n p0 dX11_hears_29 rfl ?_
      obtain ⟨x18, e19, h⟩ := dtBind h
      refine dr_getR x18 dX11_hears_30 fl_RX11_37 e19 ?_
      refine dr_iload_n p1 dX11_hears_33 rfl ?_
      refine dr_iload_n p2 dX11_hears_34 rfl ?_
      obtain ⟨_, hb20, h⟩ := dtBind h
      obtain ⟨x23, μ21, e22, h⟩ := dtCall h
      refine dr_callV_i (S0 := [.ref p0]) [.ref x18, .int p1, .int p2] x23 μ21 dX11_hears_35 (c_X2_doorsHeard x16 x18 p1 p2 μ10 e22) mf_X2_doorsHeard wt_1013 wt_1014 wt_1012 rfl (dtRv hb20) (by decide) rfl (Nat.le_of_ble_eq_true rfl) (Nat.le_of_ble_eq_true rfl) rfl ?_
      obtain ⟨_, hb24, h⟩ := dtBind h
      obtain ⟨x27, μ25, e26, h⟩ := dtCall h
      refine dr_callV_i (S0 := []) [.int x23] x27 μ25 dX11_hears_38 (c_X11_answer p0 x23 μ21 e26) mf_X11_answer wt_764 ws_19 wt_762 rfl (dtRv hb24) (by decide) rfl (Nat.le_of_ble_eq_true rfl) (Nat.le_of_ble_eq_true rfl) rfl ?_
      cases h
      exact dr_ireturn dX11_hears_41 rfl
    · have h := ht14 hc13
      refine dr_mask [true] [some (.ref p0)] rfl ?_
      exact c_X11_hears_18 p0 μ10 h
/-! X11_hush -/
theorem dX11_hush_0 : decode cX11_hush 0 = .ok (.aload_n 0, 1) := by decide +kernel
theorem dX11_hush_1 : decode cX11_hush 1 = .ok (.getfield 37, 3) := by decide +kernel
theorem dX11_hush_4 : decode cX11_hush 4 = .ok (.iload_n 1, 1) := by decide +kernel
theorem dX11_hush_5 : decode cX11_hush 5 = .ok (.invokevirtual 226, 3) := by decide +kernel
theorem dX11_hush_8 : decode cX11_hush 8 = .ok (.ifCond .eq 21, 3) := by decide +kernel
theorem dX11_hush_11 : decode cX11_hush 11 = .ok (.iload_n 2, 1) := by decide +kernel
theorem dX11_hush_12 : decode cX11_hush 12 = .ok (.invokestatic 268, 3) := by decide +kernel
theorem dX11_hush_15 : decode cX11_hush 15 = .ok (.ifCond .eq 14, 3) := by decide +kernel
theorem dX11_hush_18 : decode cX11_hush 18 = .ok (.aload_n 0, 1) := by decide +kernel
theorem dX11_hush_19 : decode cX11_hush 19 = .ok (.getfield 37, 3) := by decide +kernel
theorem dX11_hush_22 : decode cX11_hush 22 = .ok (.iload_n 3, 1) := by decide +kernel
theorem dX11_hush_23 : decode cX11_hush 23 = .ok (.invokevirtual 250, 3) := by decide +kernel
theorem dX11_hush_26 : decode cX11_hush 26 = .ok (.ifCond .ne 9, 3) := by decide +kernel
theorem dX11_hush_29 : decode cX11_hush 29 = .ok (.aload_n 0, 1) := by decide +kernel
theorem dX11_hush_30 : decode cX11_hush 30 = .ok (.iconst 1, 1) := by decide +kernel
theorem dX11_hush_31 : decode cX11_hush 31 = .ok (.invokevirtual 138, 3) := by decide +kernel
theorem dX11_hush_34 : decode cX11_hush 34 = .ok (.ireturn, 1) := by decide +kernel
theorem dX11_hush_35 : decode cX11_hush 35 = .ok (.aload_n 0, 1) := by decide +kernel
theorem dX11_hush_36 : decode cX11_hush 36 = .ok (.aload_n 0, 1) := by decide +kernel
theorem dX11_hush_37 : decode cX11_hush 37 = .ok (.getfield 82, 3) := by decide +kernel
theorem dX11_hush_40 : decode cX11_hush 40 = .ok (.aload_n 0, 1) := by decide +kernel
theorem dX11_hush_41 : decode cX11_hush 41 = .ok (.getfield 37, 3) := by decide +kernel
theorem dX11_hush_44 : decode cX11_hush 44 = .ok (.iload_n 1, 1) := by decide +kernel
theorem dX11_hush_45 : decode cX11_hush 45 = .ok (.iload_n 2, 1) := by decide +kernel
theorem dX11_hush_46 : decode cX11_hush 46 = .ok (.iload_n 3, 1) := by decide +kernel
theorem dX11_hush_47 : decode cX11_hush 47 = .ok (.invokevirtual 330, 3) := by decide +kernel
theorem dX11_hush_50 : decode cX11_hush 50 = .ok (.invokevirtual 321, 3) := by decide +kernel
theorem dX11_hush_53 : decode cX11_hush 53 = .ok (.ireturn, 1) := by decide +kernel
set_option maxRecDepth 100000 in
def f_X11_hush_29 (l0 : Nat) (μ : dtM) : Option (Int32 × dtM) :=
  (opRv 11 μ l0).bind fun _ => opCall (f_X11_fail l0 (1 : Int32) μ) fun x4 μ2 => some (x4, μ2)
set_option maxRecDepth 100000 in
def f_X11_hush (p0 : Nat) (p1 : Int32) (p2 : Int32) (p3 : Int32) (μ : dtM) : Option (Int32 × dtM) :=
  (opGR 11 5 μ p0).bind fun x1 => (opRv 3 μ x1).bind fun _ => opCall (f_X3_hasDoor x1 p1 μ) fun x6 μ4 => if x6 = 0 then (f_X11_hush_29 p0 μ4) else (opCall (f_X11_isSound p2 μ4) fun x12 μ10 => if x12 = 0 then (f_X11_hush_29 p0 μ10) else ((opGR 11 5 μ10 p0).bind fun x16 => (opRv 3 μ10 x16).bind fun _ => opCall (f_X3_hasPerson x16 p3 μ10) fun x21 μ19 => if x21 = 0 then (f_X11_hush_29 p0 μ19) else ((opGR 11 14 μ19 p0).bind fun x25 => (opGR 11 5 μ19 p0).bind fun x27 => (opRv 2 μ19 x25).bind fun _ => opCall (f_X2_baizeToHush x25 x27 p1 p2 p3 μ19) fun x32 μ30 => (opRv 11 μ30 p0).bind fun _ => opCall (f_X11_found p0 x32 μ30) fun x36 μ34 => some (x36, μ34))))
set_option maxRecDepth 100000 in
theorem c_X11_hush_29 {r : Int32} {F : dtM} (l0 : Nat) (μ : dtM) (h : f_X11_hush_29 l0 μ = some (r, F)) : dtW yX11_hush cX11_hush 4 (some .int) 3 (some (.int r)) F 29 [some (.ref l0)] [] μ := by
  rw [f_X11_hush_29] at h
  refine dr_aload_n l0 dX11_hush_29 rfl ?_
  refine dr_iconst (1 : Int32) dX11_hush_30 (by decide) ?_
  obtain ⟨_, hb1, h⟩ := dtBind h
  obtain ⟨x4, μ2, e3, h⟩ := dtCall h
  refine dr_callV_i (S0 := []) [.int (1 : Int32)] x4 μ2 dX11_hush_31 (c_X11_fail l0 (1 : Int32) μ e3) mf_X11_fail wt_510 ws_3 wt_508 rfl (dtRv hb1) (by decide) rfl (Nat.le_of_ble_eq_true rfl) (Nat.le_of_ble_eq_true rfl) rfl ?_
  cases h
  exact dr_ireturn dX11_hush_34 rfl
set_option maxRecDepth 100000 in
theorem c_X11_hush {r : Int32} {F : dtM} (p0 : Nat) (p1 : Int32) (p2 : Int32) (p3 : Int32) (μ : dtM) (h : f_X11_hush p0 p1 p2 p3 μ = some (r, F)) : dtMet yX11_hush cX11_hush 4 (some .int) 3 [.ref p0, .int p1, .int p2, .int p3] μ (some (.int r)) F := by
  refine dtMet.of (by decide +kernel) (Nat.le_of_ble_eq_true rfl) (show dtW yX11_hush cX11_hush 4 (some .int) 3 (some (.int r)) F 0 [some (.ref p0), some (.int p1), some (.int p2), some (.int p3)] [] μ from ?_)
  rw [f_X11_hush] at h
  refine dr_aload_n p0 dX11_hush_0 rfl ?_
  obtain ⟨x1, e2, h⟩ := dtBind h
  refine dr_getR x1 dX11_hush_1 fl_RX11_37 e2 ?_
  refine dr_iload_n p1 dX11_hush_4 rfl ?_
  obtain ⟨_, hb3, h⟩ := dtBind h
  obtain ⟨x6, μ4, e5, h⟩ := dtCall h
  refine dr_callV_i (S0 := []) [.int p1] x6 μ4 dX11_hush_5 (c_X3_hasDoor x1 p1 μ e5) mf_X3_hasDoor wt_841 wt_842 wt_840 rfl (dtRv hb3) (by decide) rfl (Nat.le_of_ble_eq_true rfl) (Nat.le_of_ble_eq_true rfl) rfl ?_
  obtain ⟨ht8, hf9⟩ := dtIte h
  refine dr_if_eq 29 dX11_hush_8 (by decide) (fun hc7 => ?_) (fun hc7 => ?_)
  · have h := ht8 hc7
    refine dr_mask [true] [some (.ref p0)] rfl ?_
    exact c_X11_hush_29 p0 μ4 h
  · have h := hf9 hc7
    refine dr_iload_n p2 dX11_hush_11 rfl ?_
    obtain ⟨x12, μ10, e11, h⟩ := dtCall h
    refine dr_callS_i (S0 := []) [.int p2] x12 μ10 dX11_hush_12 (c_X11_isSound p2 μ4 e11) mf_X11_isSound wt_879 wt_878 rfl (Nat.le_of_ble_eq_true rfl) (Nat.le_of_ble_eq_true rfl) rfl ?_
    obtain ⟨ht14, hf15⟩ := dtIte h
    refine dr_if_eq 29 dX11_hush_15 (by decide) (fun hc13 => ?_) (fun hc13 => ?_)
    · have h := ht14 hc13
      refine dr_mask [true] [some (.ref p0)] rfl ?_
      exact c_X11_hush_29 p0 μ10 h
    · have h := hf15 hc13
      refine dr_aload_n p0 dX11_hush_18 rfl ?_
      obtain ⟨x16, e17, h⟩ := dtBind h
      refine dr_getR x16 dX11_hush_19 fl_RX11_37 e17 ?_
      refine dr_iload_n p3 dX11_hush_22 rfl ?_
      obtain ⟨_, hb18, h⟩ := dtBind h
      obtain ⟨x21, μ19, e20, h⟩ := dtCall h
      refine dr_callV_i (S0 := []) [.int p3] x21 μ19 dX11_hush_23 (c_X3_hasPerson x16 p3 μ10 e20) mf_X3_hasPerson wt_867 wt_868 wt_866 rfl (dtRv hb18) (by decide) rfl (Nat.le_of_ble_eq_true rfl) (Nat.le_of_ble_eq_true rfl) rfl ?_
      obtain ⟨ht23, hf24⟩ := dtIte h
      refine dr_if_ne 35 dX11_hush_26 (by decide) (fun hc22 => ?_) (fun hc22 => ?_)
      · have h := hf24 hc22
        refine dr_aload_n p0 dX11_hush_35 rfl ?_
        refine dr_aload_n p0 dX11_hush_36 rfl ?_
        obtain ⟨x25, e26, h⟩ := dtBind h
        refine dr_getR x25 dX11_hush_37 fl_RX11_82 e26 ?_
        refine dr_aload_n p0 dX11_hush_40 rfl ?_
        obtain ⟨x27, e28, h⟩ := dtBind h
        refine dr_getR x27 dX11_hush_41 fl_RX11_37 e28 ?_
        refine dr_iload_n p1 dX11_hush_44 rfl ?_
        refine dr_iload_n p2 dX11_hush_45 rfl ?_
        refine dr_iload_n p3 dX11_hush_46 rfl ?_
        obtain ⟨_, hb29, h⟩ := dtBind h
        obtain ⟨x32, μ30, e31, h⟩ := dtCall h
        refine dr_callV_i (S0 := [.ref p0]) [.ref x27, .int p1, .int p2, .int p3] x32 μ30 dX11_hush_47 (c_X2_baizeToHush x25 x27 p1 p2 p3 μ19 e31) mf_X2_baizeToHush wt_1021 wt_1022 wt_1020 rfl (dtRv hb29) (by decide) rfl (Nat.le_of_ble_eq_true rfl) (Nat.le_of_ble_eq_true rfl) rfl ?_
        obtain ⟨_, hb33, h⟩ := dtBind h
        obtain ⟨x36, μ34, e35, h⟩ := dtCall h
        refine dr_callV_i (S0 := []) [.int x32] x36 μ34 dX11_hush_50 (c_X11_found p0 x32 μ30 e35) mf_X11_found wt_1001 ws_32 wt_999 rfl (dtRv hb33) (by decide) rfl (Nat.le_of_ble_eq_true rfl) (Nat.le_of_ble_eq_true rfl) rfl ?_
        cases h
        exact dr_ireturn dX11_hush_53 rfl
      · have h := ht23 hc22
        refine dr_mask [true] [some (.ref p0)] rfl ?_
        exact c_X11_hush_29 p0 μ19 h
/-! X11_areTwo -/
theorem dX11_areTwo_0 : decode cX11_areTwo 0 = .ok (.aload_n 0, 1) := by decide +kernel
theorem dX11_areTwo_1 : decode cX11_areTwo 1 = .ok (.getfield 37, 3) := by decide +kernel
theorem dX11_areTwo_4 : decode cX11_areTwo 4 = .ok (.iload_n 1, 1) := by decide +kernel
theorem dX11_areTwo_5 : decode cX11_areTwo 5 = .ok (.invokevirtual 250, 3) := by decide +kernel
theorem dX11_areTwo_8 : decode cX11_areTwo 8 = .ok (.ifCond .eq 23, 3) := by decide +kernel
theorem dX11_areTwo_11 : decode cX11_areTwo 11 = .ok (.aload_n 0, 1) := by decide +kernel
theorem dX11_areTwo_12 : decode cX11_areTwo 12 = .ok (.getfield 37, 3) := by decide +kernel
theorem dX11_areTwo_15 : decode cX11_areTwo 15 = .ok (.iload_n 2, 1) := by decide +kernel
theorem dX11_areTwo_16 : decode cX11_areTwo 16 = .ok (.invokevirtual 250, 3) := by decide +kernel
theorem dX11_areTwo_19 : decode cX11_areTwo 19 = .ok (.ifCond .eq 12, 3) := by decide +kernel
theorem dX11_areTwo_22 : decode cX11_areTwo 22 = .ok (.iload_n 1, 1) := by decide +kernel
theorem dX11_areTwo_23 : decode cX11_areTwo 23 = .ok (.iload_n 2, 1) := by decide +kernel
theorem dX11_areTwo_24 : decode cX11_areTwo 24 = .ok (.if_icmp .eq 7, 3) := by decide +kernel
theorem dX11_areTwo_27 : decode cX11_areTwo 27 = .ok (.iconst 1, 1) := by decide +kernel
theorem dX11_areTwo_28 : decode cX11_areTwo 28 = .ok (.goto 4, 3) := by decide +kernel
theorem dX11_areTwo_31 : decode cX11_areTwo 31 = .ok (.iconst 0, 1) := by decide +kernel
theorem dX11_areTwo_32 : decode cX11_areTwo 32 = .ok (.ireturn, 1) := by decide +kernel
set_option maxRecDepth 100000 in
def f_X11_areTwo_32 (s0 : Int32) (μ : dtM) : Option (Int32 × dtM) :=
  opRet s0 μ
set_option maxRecDepth 100000 in
def f_X11_areTwo_31  (μ : dtM) : Option (Int32 × dtM) :=
  f_X11_areTwo_32 (0 : Int32) μ
set_option maxRecDepth 100000 in
def f_X11_areTwo (p0 : Nat) (p1 : Int32) (p2 : Int32) (μ : dtM) : Option (Int32 × dtM) :=
  (opGR 11 5 μ p0).bind fun x1 => (opRv 3 μ x1).bind fun _ => opCall (f_X3_hasPerson x1 p1 μ) fun x6 μ4 => if x6 = 0 then (f_X11_areTwo_31 μ4) else ((opGR 11 5 μ4 p0).bind fun x10 => (opRv 3 μ4 x10).bind fun _ => opCall (f_X3_hasPerson x10 p2 μ4) fun x15 μ13 => if x15 = 0 then (f_X11_areTwo_31 μ13) else (if p1 = p2 then (f_X11_areTwo_31 μ13) else (f_X11_areTwo_32 (1 : Int32) μ13)))
set_option maxRecDepth 100000 in
theorem c_X11_areTwo_32 {r : Int32} {F : dtM} (s0 : Int32) (μ : dtM) (h : f_X11_areTwo_32 s0 μ = some (r, F)) : dtW yX11_areTwo cX11_areTwo 3 (some .boolean) 2 (some (.int r)) F 32 [] [.int s0] μ := by
  rw [f_X11_areTwo_32] at h
  obtain ⟨hz, rfl, rfl⟩ := dtRet h
  exact dr_ireturn dX11_areTwo_32 (dtNz hz)
set_option maxRecDepth 100000 in
theorem c_X11_areTwo_31 {r : Int32} {F : dtM}  (μ : dtM) (h : f_X11_areTwo_31  μ = some (r, F)) : dtW yX11_areTwo cX11_areTwo 3 (some .boolean) 2 (some (.int r)) F 31 [] [] μ := by
  rw [f_X11_areTwo_31] at h
  refine dr_iconst (0 : Int32) dX11_areTwo_31 (by decide) ?_
  exact c_X11_areTwo_32 (0 : Int32) μ h
set_option maxRecDepth 100000 in
theorem c_X11_areTwo {r : Int32} {F : dtM} (p0 : Nat) (p1 : Int32) (p2 : Int32) (μ : dtM) (h : f_X11_areTwo p0 p1 p2 μ = some (r, F)) : dtMet yX11_areTwo cX11_areTwo 3 (some .boolean) 2 [.ref p0, .int p1, .int p2] μ (some (.int r)) F := by
  refine dtMet.of (by decide +kernel) (Nat.le_of_ble_eq_true rfl) (show dtW yX11_areTwo cX11_areTwo 3 (some .boolean) 2 (some (.int r)) F 0 [some (.ref p0), some (.int p1), some (.int p2)] [] μ from ?_)
  rw [f_X11_areTwo] at h
  refine dr_aload_n p0 dX11_areTwo_0 rfl ?_
  obtain ⟨x1, e2, h⟩ := dtBind h
  refine dr_getR x1 dX11_areTwo_1 fl_RX11_37 e2 ?_
  refine dr_iload_n p1 dX11_areTwo_4 rfl ?_
  obtain ⟨_, hb3, h⟩ := dtBind h
  obtain ⟨x6, μ4, e5, h⟩ := dtCall h
  refine dr_callV_i (S0 := []) [.int p1] x6 μ4 dX11_areTwo_5 (c_X3_hasPerson x1 p1 μ e5) mf_X3_hasPerson wt_867 wt_868 wt_866 rfl (dtRv hb3) (by decide) rfl (Nat.le_of_ble_eq_true rfl) (Nat.le_of_ble_eq_true rfl) rfl ?_
  obtain ⟨ht8, hf9⟩ := dtIte h
  refine dr_if_eq 31 dX11_areTwo_8 (by decide) (fun hc7 => ?_) (fun hc7 => ?_)
  · have h := ht8 hc7
    refine dr_mask [] [] rfl ?_
    exact c_X11_areTwo_31 μ4 h
  · have h := hf9 hc7
    refine dr_aload_n p0 dX11_areTwo_11 rfl ?_
    obtain ⟨x10, e11, h⟩ := dtBind h
    refine dr_getR x10 dX11_areTwo_12 fl_RX11_37 e11 ?_
    refine dr_iload_n p2 dX11_areTwo_15 rfl ?_
    obtain ⟨_, hb12, h⟩ := dtBind h
    obtain ⟨x15, μ13, e14, h⟩ := dtCall h
    refine dr_callV_i (S0 := []) [.int p2] x15 μ13 dX11_areTwo_16 (c_X3_hasPerson x10 p2 μ4 e14) mf_X3_hasPerson wt_867 wt_868 wt_866 rfl (dtRv hb12) (by decide) rfl (Nat.le_of_ble_eq_true rfl) (Nat.le_of_ble_eq_true rfl) rfl ?_
    obtain ⟨ht17, hf18⟩ := dtIte h
    refine dr_if_eq 31 dX11_areTwo_19 (by decide) (fun hc16 => ?_) (fun hc16 => ?_)
    · have h := ht17 hc16
      refine dr_mask [] [] rfl ?_
      exact c_X11_areTwo_31 μ13 h
    · have h := hf18 hc16
      refine dr_iload_n p1 dX11_areTwo_22 rfl ?_
      refine dr_iload_n p2 dX11_areTwo_23 rfl ?_
      obtain ⟨ht20, hf21⟩ := dtIte h
      refine dr_icmp_eq 31 dX11_areTwo_24 (by decide) (fun hc19 => ?_) (fun hc19 => ?_)
      · have h := ht20 hc19
        refine dr_mask [] [] rfl ?_
        exact c_X11_areTwo_31 μ13 h
      · have h := hf21 hc19
        refine dr_iconst (1 : Int32) dX11_areTwo_27 (by decide) ?_
        refine dr_goto 32 dX11_areTwo_28 (by decide) ?_
        refine dr_mask [] [] rfl ?_
        exact c_X11_areTwo_32 (1 : Int32) μ13 h
/-! X11_secret -/
theorem dX11_secret_0 : decode cX11_secret 0 = .ok (.aload_n 0, 1) := by decide +kernel
theorem dX11_secret_1 : decode cX11_secret 1 = .ok (.iload_n 1, 1) := by decide +kernel
theorem dX11_secret_2 : decode cX11_secret 2 = .ok (.iload_n 2, 1) := by decide +kernel
theorem dX11_secret_3 : decode cX11_secret 3 = .ok (.invokevirtual 333, 3) := by decide +kernel
theorem dX11_secret_6 : decode cX11_secret 6 = .ok (.ifCond .eq 29, 3) := by decide +kernel
theorem dX11_secret_9 : decode cX11_secret 9 = .ok (.aload_n 0, 1) := by decide +kernel
theorem dX11_secret_10 : decode cX11_secret 10 = .ok (.iload_n 1, 1) := by decide +kernel
theorem dX11_secret_11 : decode cX11_secret 11 = .ok (.iload_n 3, 1) := by decide +kernel
theorem dX11_secret_12 : decode cX11_secret 12 = .ok (.invokevirtual 333, 3) := by decide +kernel
theorem dX11_secret_15 : decode cX11_secret 15 = .ok (.ifCond .eq 20, 3) := by decide +kernel
theorem dX11_secret_18 : decode cX11_secret 18 = .ok (.aload_n 0, 1) := by decide +kernel
theorem dX11_secret_19 : decode cX11_secret 19 = .ok (.iload_n 2, 1) := by decide +kernel
theorem dX11_secret_20 : decode cX11_secret 20 = .ok (.iload_n 3, 1) := by decide +kernel
theorem dX11_secret_21 : decode cX11_secret 21 = .ok (.invokevirtual 333, 3) := by decide +kernel
theorem dX11_secret_24 : decode cX11_secret 24 = .ok (.ifCond .eq 11, 3) := by decide +kernel
theorem dX11_secret_27 : decode cX11_secret 27 = .ok (.iload 4, 2) := by decide +kernel
theorem dX11_secret_29 : decode cX11_secret 29 = .ok (.invokestatic 268, 3) := by decide +kernel
theorem dX11_secret_32 : decode cX11_secret 32 = .ok (.ifCond .ne 9, 3) := by decide +kernel
theorem dX11_secret_35 : decode cX11_secret 35 = .ok (.aload_n 0, 1) := by decide +kernel
theorem dX11_secret_36 : decode cX11_secret 36 = .ok (.iconst 1, 1) := by decide +kernel
theorem dX11_secret_37 : decode cX11_secret 37 = .ok (.invokevirtual 138, 3) := by decide +kernel
theorem dX11_secret_40 : decode cX11_secret 40 = .ok (.ireturn, 1) := by decide +kernel
theorem dX11_secret_41 : decode cX11_secret 41 = .ok (.aload_n 0, 1) := by decide +kernel
theorem dX11_secret_42 : decode cX11_secret 42 = .ok (.aload_n 0, 1) := by decide +kernel
theorem dX11_secret_43 : decode cX11_secret 43 = .ok (.getfield 82, 3) := by decide +kernel
theorem dX11_secret_46 : decode cX11_secret 46 = .ok (.aload_n 0, 1) := by decide +kernel
theorem dX11_secret_47 : decode cX11_secret 47 = .ok (.getfield 37, 3) := by decide +kernel
theorem dX11_secret_50 : decode cX11_secret 50 = .ok (.iload_n 1, 1) := by decide +kernel
theorem dX11_secret_51 : decode cX11_secret 51 = .ok (.iload_n 2, 1) := by decide +kernel
theorem dX11_secret_52 : decode cX11_secret 52 = .ok (.iload_n 3, 1) := by decide +kernel
theorem dX11_secret_53 : decode cX11_secret 53 = .ok (.iload 4, 2) := by decide +kernel
theorem dX11_secret_55 : decode cX11_secret 55 = .ok (.invokevirtual 336, 3) := by decide +kernel
theorem dX11_secret_58 : decode cX11_secret 58 = .ok (.invokevirtual 321, 3) := by decide +kernel
theorem dX11_secret_61 : decode cX11_secret 61 = .ok (.ireturn, 1) := by decide +kernel
set_option maxRecDepth 100000 in
def f_X11_secret_35 (l0 : Nat) (μ : dtM) : Option (Int32 × dtM) :=
  (opRv 11 μ l0).bind fun _ => opCall (f_X11_fail l0 (1 : Int32) μ) fun x4 μ2 => some (x4, μ2)
set_option maxRecDepth 100000 in
def f_X11_secret (p0 : Nat) (p1 : Int32) (p2 : Int32) (p3 : Int32) (p4 : Int32) (μ : dtM) : Option (Int32 × dtM) :=
  (opRv 11 μ p0).bind fun _ => opCall (f_X11_areTwo p0 p1 p2 μ) fun x4 μ2 => if x4 = 0 then (f_X11_secret_35 p0 μ2) else ((opRv 11 μ2 p0).bind fun _ => opCall (f_X11_areTwo p0 p1 p3 μ2) fun x11 μ9 => if x11 = 0 then (f_X11_secret_35 p0 μ9) else ((opRv 11 μ9 p0).bind fun _ => opCall (f_X11_areTwo p0 p2 p3 μ9) fun x18 μ16 => if x18 = 0 then (f_X11_secret_35 p0 μ16) else (opCall (f_X11_isSound p4 μ16) fun x24 μ22 => if x24 = 0 then (f_X11_secret_35 p0 μ22) else ((opGR 11 14 μ22 p0).bind fun x28 => (opGR 11 5 μ22 p0).bind fun x30 => (opRv 2 μ22 x28).bind fun _ => opCall (f_X2_secretDoor x28 x30 p1 p2 p3 p4 μ22) fun x35 μ33 => (opRv 11 μ33 p0).bind fun _ => opCall (f_X11_found p0 x35 μ33) fun x39 μ37 => some (x39, μ37)))))
set_option maxRecDepth 100000 in
theorem c_X11_secret_35 {r : Int32} {F : dtM} (l0 : Nat) (μ : dtM) (h : f_X11_secret_35 l0 μ = some (r, F)) : dtW yX11_secret cX11_secret 5 (some .int) 5 (some (.int r)) F 35 [some (.ref l0)] [] μ := by
  rw [f_X11_secret_35] at h
  refine dr_aload_n l0 dX11_secret_35 rfl ?_
  refine dr_iconst (1 : Int32) dX11_secret_36 (by decide) ?_
  obtain ⟨_, hb1, h⟩ := dtBind h
  obtain ⟨x4, μ2, e3, h⟩ := dtCall h
  refine dr_callV_i (S0 := []) [.int (1 : Int32)] x4 μ2 dX11_secret_37 (c_X11_fail l0 (1 : Int32) μ e3) mf_X11_fail wt_510 ws_3 wt_508 rfl (dtRv hb1) (by decide) rfl (Nat.le_of_ble_eq_true rfl) (Nat.le_of_ble_eq_true rfl) rfl ?_
  cases h
  exact dr_ireturn dX11_secret_40 rfl
set_option maxRecDepth 100000 in
theorem c_X11_secret {r : Int32} {F : dtM} (p0 : Nat) (p1 : Int32) (p2 : Int32) (p3 : Int32) (p4 : Int32) (μ : dtM) (h : f_X11_secret p0 p1 p2 p3 p4 μ = some (r, F)) : dtMet yX11_secret cX11_secret 5 (some .int) 5 [.ref p0, .int p1, .int p2, .int p3, .int p4] μ (some (.int r)) F := by
  refine dtMet.of (by decide +kernel) (Nat.le_of_ble_eq_true rfl) (show dtW yX11_secret cX11_secret 5 (some .int) 5 (some (.int r)) F 0 [some (.ref p0), some (.int p1), some (.int p2), some (.int p3), some (.int p4)] [] μ from ?_)
  rw [f_X11_secret] at h
  refine dr_aload_n p0 dX11_secret_0 rfl ?_
  refine dr_iload_n p1 dX11_secret_1 rfl ?_
  refine dr_iload_n p2 dX11_secret_2 rfl ?_
  obtain ⟨_, hb1, h⟩ := dtBind h
  obtain ⟨x4, μ2, e3, h⟩ := dtCall h
  refine dr_callV_i (S0 := []) [.int p1, .int p2] x4 μ2 dX11_secret_3 (c_X11_areTwo p0 p1 p2 μ e3) mf_X11_areTwo wt_1030 ws_33 wt_1028 rfl (dtRv hb1) (by decide) rfl (Nat.le_of_ble_eq_true rfl) (Nat.le_of_ble_eq_true rfl) rfl ?_
  obtain ⟨ht6, hf7⟩ := dtIte h
  refine dr_if_eq 35 dX11_secret_6 (by decide) (fun hc5 => ?_) (fun hc5 => ?_)
  · have h := ht6 hc5
    refine dr_mask [true] [some (.ref p0)] rfl ?_
    exact c_X11_secret_35 p0 μ2 h
  · have h := hf7 hc5
    refine dr_aload_n p0 dX11_secret_9 rfl ?_
    refine dr_iload_n p1 dX11_secret_10 rfl ?_
    refine dr_iload_n p3 dX11_secret_11 rfl ?_
    obtain ⟨_, hb8, h⟩ := dtBind h
    obtain ⟨x11, μ9, e10, h⟩ := dtCall h
    refine dr_callV_i (S0 := []) [.int p1, .int p3] x11 μ9 dX11_secret_12 (c_X11_areTwo p0 p1 p3 μ2 e10) mf_X11_areTwo wt_1030 ws_33 wt_1028 rfl (dtRv hb8) (by decide) rfl (Nat.le_of_ble_eq_true rfl) (Nat.le_of_ble_eq_true rfl) rfl ?_
    obtain ⟨ht13, hf14⟩ := dtIte h
    refine dr_if_eq 35 dX11_secret_15 (by decide) (fun hc12 => ?_) (fun hc12 => ?_)
    · have h := ht13 hc12
      refine dr_mask [true] [some (.ref p0)] rfl ?_
      exact c_X11_secret_35 p0 μ9 h
    · have h := hf14 hc12
      refine dr_aload_n p0 dX11_secret_18 rfl ?_
      refine dr_iload_n p2 dX11_secret_19 rfl ?_
      refine dr_iload_n p3 dX11_secret_20 rfl ?_
      obtain ⟨_, hb15, h⟩ := dtBind h
      obtain ⟨x18, μ16, e17, h⟩ := dtCall h
      refine dr_callV_i (S0 := []) [.int p2, .int p3] x18 μ16 dX11_secret_21 (c_X11_areTwo p0 p2 p3 μ9 e17) mf_X11_areTwo wt_1030 ws_33 wt_1028 rfl (dtRv hb15) (by decide) rfl (Nat.le_of_ble_eq_true rfl) (Nat.le_of_ble_eq_true rfl) rfl ?_
      obtain ⟨ht20, hf21⟩ := dtIte h
      refine dr_if_eq 35 dX11_secret_24 (by decide) (fun hc19 => ?_) (fun hc19 => ?_)
      · have h := ht20 hc19
        refine dr_mask [true] [some (.ref p0)] rfl ?_
        exact c_X11_secret_35 p0 μ16 h
      · have h := hf21 hc19
        refine dr_iload p4 dX11_secret_27 rfl ?_
        obtain ⟨x24, μ22, e23, h⟩ := dtCall h
        refine dr_callS_i (S0 := []) [.int p4] x24 μ22 dX11_secret_29 (c_X11_isSound p4 μ16 e23) mf_X11_isSound wt_879 wt_878 rfl (Nat.le_of_ble_eq_true rfl) (Nat.le_of_ble_eq_true rfl) rfl ?_
        obtain ⟨ht26, hf27⟩ := dtIte h
        refine dr_if_ne 41 dX11_secret_32 (by decide) (fun hc25 => ?_) (fun hc25 => ?_)
        · have h := hf27 hc25
          refine dr_aload_n p0 dX11_secret_41 rfl ?_
          refine dr_aload_n p0 dX11_secret_42 rfl ?_
          obtain ⟨x28, e29, h⟩ := dtBind h
          refine dr_getR x28 dX11_secret_43 fl_RX11_82 e29 ?_
          refine dr_aload_n p0 dX11_secret_46 rfl ?_
          obtain ⟨x30, e31, h⟩ := dtBind h
          refine dr_getR x30 dX11_secret_47 fl_RX11_37 e31 ?_
          refine dr_iload_n p1 dX11_secret_50 rfl ?_
          refine dr_iload_n p2 dX11_secret_51 rfl ?_
          refine dr_iload_n p3 dX11_secret_52 rfl ?_
          refine dr_iload p4 dX11_secret_53 rfl ?_
          obtain ⟨_, hb32, h⟩ := dtBind h
          obtain ⟨x35, μ33, e34, h⟩ := dtCall h
          refine dr_callV_i (S0 := [.ref p0]) [.ref x30, .int p1, .int p2, .int p3, .int p4] x35 μ33 dX11_secret_55 (c_X2_secretDoor x28 x30 p1 p2 p3 p4 μ22 e34) mf_X2_secretDoor wt_1033 wt_1034 wt_1032 rfl (dtRv hb32) (by decide) rfl (Nat.le_of_ble_eq_true rfl) (Nat.le_of_ble_eq_true rfl) rfl ?_
          obtain ⟨_, hb36, h⟩ := dtBind h
          obtain ⟨x39, μ37, e38, h⟩ := dtCall h
          refine dr_callV_i (S0 := []) [.int x35] x39 μ37 dX11_secret_58 (c_X11_found p0 x35 μ33 e38) mf_X11_found wt_1001 ws_32 wt_999 rfl (dtRv hb36) (by decide) rfl (Nat.le_of_ble_eq_true rfl) (Nat.le_of_ble_eq_true rfl) rfl ?_
          cases h
          exact dr_ireturn dX11_secret_61 rfl
        · have h := ht26 hc25
          refine dr_mask [true] [some (.ref p0)] rfl ?_
          exact c_X11_secret_35 p0 μ22 h
/-! X11_readings -/
theorem dX11_readings_0 : decode cX11_readings 0 = .ok (.aload_n 0, 1) := by decide +kernel
theorem dX11_readings_1 : decode cX11_readings 1 = .ok (.getfield 37, 3) := by decide +kernel
theorem dX11_readings_4 : decode cX11_readings 4 = .ok (.iload_n 1, 1) := by decide +kernel
theorem dX11_readings_5 : decode cX11_readings 5 = .ok (.invokevirtual 250, 3) := by decide +kernel
theorem dX11_readings_8 : decode cX11_readings 8 = .ok (.ifCond .ne 9, 3) := by decide +kernel
theorem dX11_readings_11 : decode cX11_readings 11 = .ok (.aload_n 0, 1) := by decide +kernel
theorem dX11_readings_12 : decode cX11_readings 12 = .ok (.iconst 1, 1) := by decide +kernel
theorem dX11_readings_13 : decode cX11_readings 13 = .ok (.invokevirtual 138, 3) := by decide +kernel
theorem dX11_readings_16 : decode cX11_readings 16 = .ok (.ireturn, 1) := by decide +kernel
theorem dX11_readings_17 : decode cX11_readings 17 = .ok (.aload_n 0, 1) := by decide +kernel
theorem dX11_readings_18 : decode cX11_readings 18 = .ok (.getfield 89, 3) := by decide +kernel
theorem dX11_readings_21 : decode cX11_readings 21 = .ok (.aload_n 0, 1) := by decide +kernel
theorem dX11_readings_22 : decode cX11_readings 22 = .ok (.getfield 37, 3) := by decide +kernel
theorem dX11_readings_25 : decode cX11_readings 25 = .ok (.iload_n 1, 1) := by decide +kernel
theorem dX11_readings_26 : decode cX11_readings 26 = .ok (.invokevirtual 340, 3) := by decide +kernel
theorem dX11_readings_29 : decode cX11_readings 29 = .ok (.aload_n 0, 1) := by decide +kernel
theorem dX11_readings_30 : decode cX11_readings 30 = .ok (.aload_n 0, 1) := by decide +kernel
theorem dX11_readings_31 : decode cX11_readings 31 = .ok (.getfield 89, 3) := by decide +kernel
theorem dX11_readings_34 : decode cX11_readings 34 = .ok (.aload_n 0, 1) := by decide +kernel
theorem dX11_readings_35 : decode cX11_readings 35 = .ok (.getfield 37, 3) := by decide +kernel
theorem dX11_readings_38 : decode cX11_readings 38 = .ok (.aload_n 0, 1) := by decide +kernel
theorem dX11_readings_39 : decode cX11_readings 39 = .ok (.getfield 37, 3) := by decide +kernel
theorem dX11_readings_42 : decode cX11_readings 42 = .ok (.getfield 259, 3) := by decide +kernel
theorem dX11_readings_45 : decode cX11_readings 45 = .ok (.iload_n 1, 1) := by decide +kernel
theorem dX11_readings_46 : decode cX11_readings 46 = .ok (.iaload, 1) := by decide +kernel
theorem dX11_readings_47 : decode cX11_readings 47 = .ok (.invokevirtual 344, 3) := by decide +kernel
theorem dX11_readings_50 : decode cX11_readings 50 = .ok (.invokevirtual 192, 3) := by decide +kernel
theorem dX11_readings_53 : decode cX11_readings 53 = .ok (.ireturn, 1) := by decide +kernel
set_option maxRecDepth 100000 in
def f_X11_readings (p0 : Nat) (p1 : Int32) (μ : dtM) : Option (Int32 × dtM) :=
  (opGR 11 5 μ p0).bind fun x1 => (opRv 3 μ x1).bind fun _ => opCall (f_X3_hasPerson x1 p1 μ) fun x6 μ4 => if x6 = 0 then ((opRv 11 μ4 p0).bind fun _ => opCall (f_X11_fail p0 (1 : Int32) μ4) fun x38 μ36 => some (x38, μ36)) else ((opGR 11 15 μ4 p0).bind fun x10 => (opGR 11 5 μ4 p0).bind fun x12 => (opRv 5 μ4 x10).bind fun _ => (f_X5_loadHeard x10 x12 p1 μ4).bind fun μ15 => (opGR 11 15 μ15 p0).bind fun x17 => (opGR 11 5 μ15 p0).bind fun x19 => (opGR 11 5 μ15 p0).bind fun x21 => (opGR 3 16 μ15 x21).bind fun x23 => (opLI 1 μ15 x23 p1).bind fun x25 => (opRv 5 μ15 x17).bind fun _ => opCall (f_X5_countReadings x17 x19 x25 μ15) fun x30 μ28 => (opRv 11 μ28 p0).bind fun _ => opCall (f_X11_answer p0 x30 μ28) fun x34 μ32 => some (x34, μ32))
set_option maxRecDepth 100000 in
theorem c_X11_readings {r : Int32} {F : dtM} (p0 : Nat) (p1 : Int32) (μ : dtM) (h : f_X11_readings p0 p1 μ = some (r, F)) : dtMet yX11_readings cX11_readings 2 (some .int) 5 [.ref p0, .int p1] μ (some (.int r)) F := by
  refine dtMet.of (by decide +kernel) (Nat.le_of_ble_eq_true rfl) (show dtW yX11_readings cX11_readings 2 (some .int) 5 (some (.int r)) F 0 [some (.ref p0), some (.int p1)] [] μ from ?_)
  rw [f_X11_readings] at h
  refine dr_aload_n p0 dX11_readings_0 rfl ?_
  obtain ⟨x1, e2, h⟩ := dtBind h
  refine dr_getR x1 dX11_readings_1 fl_RX11_37 e2 ?_
  refine dr_iload_n p1 dX11_readings_4 rfl ?_
  obtain ⟨_, hb3, h⟩ := dtBind h
  obtain ⟨x6, μ4, e5, h⟩ := dtCall h
  refine dr_callV_i (S0 := []) [.int p1] x6 μ4 dX11_readings_5 (c_X3_hasPerson x1 p1 μ e5) mf_X3_hasPerson wt_867 wt_868 wt_866 rfl (dtRv hb3) (by decide) rfl (Nat.le_of_ble_eq_true rfl) (Nat.le_of_ble_eq_true rfl) rfl ?_
  obtain ⟨ht8, hf9⟩ := dtIte h
  refine dr_if_ne 17 dX11_readings_8 (by decide) (fun hc7 => ?_) (fun hc7 => ?_)
  · have h := hf9 hc7
    refine dr_aload_n p0 dX11_readings_17 rfl ?_
    obtain ⟨x10, e11, h⟩ := dtBind h
    refine dr_getR x10 dX11_readings_18 fl_RX11_89 e11 ?_
    refine dr_aload_n p0 dX11_readings_21 rfl ?_
    obtain ⟨x12, e13, h⟩ := dtBind h
    refine dr_getR x12 dX11_readings_22 fl_RX11_37 e13 ?_
    refine dr_iload_n p1 dX11_readings_25 rfl ?_
    obtain ⟨_, hb14, h⟩ := dtBind h
    obtain ⟨μ15, e16, h⟩ := dtBind h
    refine dr_callV_v (S0 := []) [.ref x12, .int p1] μ15 dX11_readings_26 (c_X5_loadHeard x10 x12 p1 μ4 e16) mf_X5_loadHeard wt_1050 wt_1051 wt_1049 rfl (dtRv hb14) (by decide) rfl (Nat.le_of_ble_eq_true rfl) (Nat.le_of_ble_eq_true rfl) rfl ?_
    refine dr_aload_n p0 dX11_readings_29 rfl ?_
    refine dr_aload_n p0 dX11_readings_30 rfl ?_
    obtain ⟨x17, e18, h⟩ := dtBind h
    refine dr_getR x17 dX11_readings_31 fl_RX11_89 e18 ?_
    refine dr_aload_n p0 dX11_readings_34 rfl ?_
    obtain ⟨x19, e20, h⟩ := dtBind h
    refine dr_getR x19 dX11_readings_35 fl_RX11_37 e20 ?_
    refine dr_aload_n p0 dX11_readings_38 rfl ?_
    obtain ⟨x21, e22, h⟩ := dtBind h
    refine dr_getR x21 dX11_readings_39 fl_RX11_37 e22 ?_
    obtain ⟨x23, e24, h⟩ := dtBind h
    refine dr_getR x23 dX11_readings_42 fl_RX11_259 e24 ?_
    refine dr_iload_n p1 dX11_readings_45 rfl ?_
    obtain ⟨x25, e26, h⟩ := dtBind h
    refine dr_iaload x25 dX11_readings_46 e26 ?_
    obtain ⟨_, hb27, h⟩ := dtBind h
    obtain ⟨x30, μ28, e29, h⟩ := dtCall h
    refine dr_callV_i (S0 := [.ref p0]) [.ref x19, .int x25] x30 μ28 dX11_readings_47 (c_X5_countReadings x17 x19 x25 μ15 e29) mf_X5_countReadings wt_1062 wt_1063 wt_1061 rfl (dtRv hb27) (by decide) rfl (Nat.le_of_ble_eq_true rfl) (Nat.le_of_ble_eq_true rfl) rfl ?_
    obtain ⟨_, hb31, h⟩ := dtBind h
    obtain ⟨x34, μ32, e33, h⟩ := dtCall h
    refine dr_callV_i (S0 := []) [.int x30] x34 μ32 dX11_readings_50 (c_X11_answer p0 x30 μ28 e33) mf_X11_answer wt_764 ws_19 wt_762 rfl (dtRv hb31) (by decide) rfl (Nat.le_of_ble_eq_true rfl) (Nat.le_of_ble_eq_true rfl) rfl ?_
    cases h
    exact dr_ireturn dX11_readings_53 rfl
  · have h := ht8 hc7
    refine dr_aload_n p0 dX11_readings_11 rfl ?_
    refine dr_iconst (1 : Int32) dX11_readings_12 (by decide) ?_
    obtain ⟨_, hb35, h⟩ := dtBind h
    obtain ⟨x38, μ36, e37, h⟩ := dtCall h
    refine dr_callV_i (S0 := []) [.int (1 : Int32)] x38 μ36 dX11_readings_13 (c_X11_fail p0 (1 : Int32) μ4 e37) mf_X11_fail wt_510 ws_3 wt_508 rfl (dtRv hb35) (by decide) rfl (Nat.le_of_ble_eq_true rfl) (Nat.le_of_ble_eq_true rfl) rfl ?_
    cases h
    exact dr_ireturn dX11_readings_16 rfl
/-! X11_first -/
theorem dX11_first_0 : decode cX11_first 0 = .ok (.aload_n 0, 1) := by decide +kernel
theorem dX11_first_1 : decode cX11_first 1 = .ok (.getfield 37, 3) := by decide +kernel
theorem dX11_first_4 : decode cX11_first 4 = .ok (.iload_n 1, 1) := by decide +kernel
theorem dX11_first_5 : decode cX11_first 5 = .ok (.invokevirtual 250, 3) := by decide +kernel
theorem dX11_first_8 : decode cX11_first 8 = .ok (.ifCond .ne 9, 3) := by decide +kernel
theorem dX11_first_11 : decode cX11_first 11 = .ok (.aload_n 0, 1) := by decide +kernel
theorem dX11_first_12 : decode cX11_first 12 = .ok (.iconst 1, 1) := by decide +kernel
theorem dX11_first_13 : decode cX11_first 13 = .ok (.invokevirtual 138, 3) := by decide +kernel
theorem dX11_first_16 : decode cX11_first 16 = .ok (.ireturn, 1) := by decide +kernel
theorem dX11_first_17 : decode cX11_first 17 = .ok (.aload_n 0, 1) := by decide +kernel
theorem dX11_first_18 : decode cX11_first 18 = .ok (.getfield 89, 3) := by decide +kernel
theorem dX11_first_21 : decode cX11_first 21 = .ok (.aload_n 0, 1) := by decide +kernel
theorem dX11_first_22 : decode cX11_first 22 = .ok (.getfield 37, 3) := by decide +kernel
theorem dX11_first_25 : decode cX11_first 25 = .ok (.iload_n 1, 1) := by decide +kernel
theorem dX11_first_26 : decode cX11_first 26 = .ok (.invokevirtual 340, 3) := by decide +kernel
theorem dX11_first_29 : decode cX11_first 29 = .ok (.aload_n 0, 1) := by decide +kernel
theorem dX11_first_30 : decode cX11_first 30 = .ok (.aload_n 0, 1) := by decide +kernel
theorem dX11_first_31 : decode cX11_first 31 = .ok (.getfield 89, 3) := by decide +kernel
theorem dX11_first_34 : decode cX11_first 34 = .ok (.aload_n 0, 1) := by decide +kernel
theorem dX11_first_35 : decode cX11_first 35 = .ok (.getfield 37, 3) := by decide +kernel
theorem dX11_first_38 : decode cX11_first 38 = .ok (.aload_n 0, 1) := by decide +kernel
theorem dX11_first_39 : decode cX11_first 39 = .ok (.getfield 37, 3) := by decide +kernel
theorem dX11_first_42 : decode cX11_first 42 = .ok (.getfield 259, 3) := by decide +kernel
theorem dX11_first_45 : decode cX11_first 45 = .ok (.iload_n 1, 1) := by decide +kernel
theorem dX11_first_46 : decode cX11_first 46 = .ok (.iaload, 1) := by decide +kernel
theorem dX11_first_47 : decode cX11_first 47 = .ok (.invokevirtual 348, 3) := by decide +kernel
theorem dX11_first_50 : decode cX11_first 50 = .ok (.invokevirtual 321, 3) := by decide +kernel
theorem dX11_first_53 : decode cX11_first 53 = .ok (.ireturn, 1) := by decide +kernel
set_option maxRecDepth 100000 in
def f_X11_first (p0 : Nat) (p1 : Int32) (μ : dtM) : Option (Int32 × dtM) :=
  (opGR 11 5 μ p0).bind fun x1 => (opRv 3 μ x1).bind fun _ => opCall (f_X3_hasPerson x1 p1 μ) fun x6 μ4 => if x6 = 0 then ((opRv 11 μ4 p0).bind fun _ => opCall (f_X11_fail p0 (1 : Int32) μ4) fun x38 μ36 => some (x38, μ36)) else ((opGR 11 15 μ4 p0).bind fun x10 => (opGR 11 5 μ4 p0).bind fun x12 => (opRv 5 μ4 x10).bind fun _ => (f_X5_loadHeard x10 x12 p1 μ4).bind fun μ15 => (opGR 11 15 μ15 p0).bind fun x17 => (opGR 11 5 μ15 p0).bind fun x19 => (opGR 11 5 μ15 p0).bind fun x21 => (opGR 3 16 μ15 x21).bind fun x23 => (opLI 1 μ15 x23 p1).bind fun x25 => (opRv 5 μ15 x17).bind fun _ => opCall (f_X5_wordsOfFirst x17 x19 x25 μ15) fun x30 μ28 => (opRv 11 μ28 p0).bind fun _ => opCall (f_X11_found p0 x30 μ28) fun x34 μ32 => some (x34, μ32))
set_option maxRecDepth 100000 in
theorem c_X11_first {r : Int32} {F : dtM} (p0 : Nat) (p1 : Int32) (μ : dtM) (h : f_X11_first p0 p1 μ = some (r, F)) : dtMet yX11_first cX11_first 2 (some .int) 6 [.ref p0, .int p1] μ (some (.int r)) F := by
  refine dtMet.of (by decide +kernel) (Nat.le_of_ble_eq_true rfl) (show dtW yX11_first cX11_first 2 (some .int) 6 (some (.int r)) F 0 [some (.ref p0), some (.int p1)] [] μ from ?_)
  rw [f_X11_first] at h
  refine dr_aload_n p0 dX11_first_0 rfl ?_
  obtain ⟨x1, e2, h⟩ := dtBind h
  refine dr_getR x1 dX11_first_1 fl_RX11_37 e2 ?_
  refine dr_iload_n p1 dX11_first_4 rfl ?_
  obtain ⟨_, hb3, h⟩ := dtBind h
  obtain ⟨x6, μ4, e5, h⟩ := dtCall h
  refine dr_callV_i (S0 := []) [.int p1] x6 μ4 dX11_first_5 (c_X3_hasPerson x1 p1 μ e5) mf_X3_hasPerson wt_867 wt_868 wt_866 rfl (dtRv hb3) (by decide) rfl (Nat.le_of_ble_eq_true rfl) (Nat.le_of_ble_eq_true rfl) rfl ?_
  obtain ⟨ht8, hf9⟩ := dtIte h
  refine dr_if_ne 17 dX11_first_8 (by decide) (fun hc7 => ?_) (fun hc7 => ?_)
  · have h := hf9 hc7
    refine dr_aload_n p0 dX11_first_17 rfl ?_
    obtain ⟨x10, e11, h⟩ := dtBind h
    refine dr_getR x10 dX11_first_18 fl_RX11_89 e11 ?_
    refine dr_aload_n p0 dX11_first_21 rfl ?_
    obtain ⟨x12, e13, h⟩ := dtBind h
    refine dr_getR x12 dX11_first_22 fl_RX11_37 e13 ?_
    refine dr_iload_n p1 dX11_first_25 rfl ?_
    obtain ⟨_, hb14, h⟩ := dtBind h
    obtain ⟨μ15, e16, h⟩ := dtBind h
    refine dr_callV_v (S0 := []) [.ref x12, .int p1] μ15 dX11_first_26 (c_X5_loadHeard x10 x12 p1 μ4 e16) mf_X5_loadHeard wt_1050 wt_1051 wt_1049 rfl (dtRv hb14) (by decide) rfl (Nat.le_of_ble_eq_true rfl) (Nat.le_of_ble_eq_true rfl) rfl ?_
    refine dr_aload_n p0 dX11_first_29 rfl ?_
    refine dr_aload_n p0 dX11_first_30 rfl ?_
    obtain ⟨x17, e18, h⟩ := dtBind h
    refine dr_getR x17 dX11_first_31 fl_RX11_89 e18 ?_
    refine dr_aload_n p0 dX11_first_34 rfl ?_
    obtain ⟨x19, e20, h⟩ := dtBind h
    refine dr_getR x19 dX11_first_35 fl_RX11_37 e20 ?_
    refine dr_aload_n p0 dX11_first_38 rfl ?_
    obtain ⟨x21, e22, h⟩ := dtBind h
    refine dr_getR x21 dX11_first_39 fl_RX11_37 e22 ?_
    obtain ⟨x23, e24, h⟩ := dtBind h
    refine dr_getR x23 dX11_first_42 fl_RX11_259 e24 ?_
    refine dr_iload_n p1 dX11_first_45 rfl ?_
    obtain ⟨x25, e26, h⟩ := dtBind h
    refine dr_iaload x25 dX11_first_46 e26 ?_
    obtain ⟨_, hb27, h⟩ := dtBind h
    obtain ⟨x30, μ28, e29, h⟩ := dtCall h
    refine dr_callV_i (S0 := [.ref p0]) [.ref x19, .int x25] x30 μ28 dX11_first_47 (c_X5_wordsOfFirst x17 x19 x25 μ15 e29) mf_X5_wordsOfFirst wt_1080 wt_1081 wt_1079 rfl (dtRv hb27) (by decide) rfl (Nat.le_of_ble_eq_true rfl) (Nat.le_of_ble_eq_true rfl) rfl ?_
    obtain ⟨_, hb31, h⟩ := dtBind h
    obtain ⟨x34, μ32, e33, h⟩ := dtCall h
    refine dr_callV_i (S0 := []) [.int x30] x34 μ32 dX11_first_50 (c_X11_found p0 x30 μ28 e33) mf_X11_found wt_1001 ws_32 wt_999 rfl (dtRv hb31) (by decide) rfl (Nat.le_of_ble_eq_true rfl) (Nat.le_of_ble_eq_true rfl) rfl ?_
    cases h
    exact dr_ireturn dX11_first_53 rfl
  · have h := ht8 hc7
    refine dr_aload_n p0 dX11_first_11 rfl ?_
    refine dr_iconst (1 : Int32) dX11_first_12 (by decide) ?_
    obtain ⟨_, hb35, h⟩ := dtBind h
    obtain ⟨x38, μ36, e37, h⟩ := dtCall h
    refine dr_callV_i (S0 := []) [.int (1 : Int32)] x38 μ36 dX11_first_13 (c_X11_fail p0 (1 : Int32) μ4 e37) mf_X11_fail wt_510 ws_3 wt_508 rfl (dtRv hb35) (by decide) rfl (Nat.le_of_ble_eq_true rfl) (Nat.le_of_ble_eq_true rfl) rfl ?_
    cases h
    exact dr_ireturn dX11_first_16 rfl
/-! X11_firstAt -/
theorem dX11_firstAt_0 : decode cX11_firstAt 0 = .ok (.aload_n 0, 1) := by decide +kernel
theorem dX11_firstAt_1 : decode cX11_firstAt 1 = .ok (.getfield 37, 3) := by decide +kernel
theorem dX11_firstAt_4 : decode cX11_firstAt 4 = .ok (.iload_n 1, 1) := by decide +kernel
theorem dX11_firstAt_5 : decode cX11_firstAt 5 = .ok (.invokevirtual 250, 3) := by decide +kernel
theorem dX11_firstAt_8 : decode cX11_firstAt 8 = .ok (.ifCond .eq 7, 3) := by decide +kernel
theorem dX11_firstAt_11 : decode cX11_firstAt 11 = .ok (.iload_n 2, 1) := by decide +kernel
theorem dX11_firstAt_12 : decode cX11_firstAt 12 = .ok (.ifCond .ge 9, 3) := by decide +kernel
theorem dX11_firstAt_15 : decode cX11_firstAt 15 = .ok (.aload_n 0, 1) := by decide +kernel
theorem dX11_firstAt_16 : decode cX11_firstAt 16 = .ok (.iconst 1, 1) := by decide +kernel
theorem dX11_firstAt_17 : decode cX11_firstAt 17 = .ok (.invokevirtual 138, 3) := by decide +kernel
theorem dX11_firstAt_20 : decode cX11_firstAt 20 = .ok (.ireturn, 1) := by decide +kernel
theorem dX11_firstAt_21 : decode cX11_firstAt 21 = .ok (.aload_n 0, 1) := by decide +kernel
theorem dX11_firstAt_22 : decode cX11_firstAt 22 = .ok (.getfield 89, 3) := by decide +kernel
theorem dX11_firstAt_25 : decode cX11_firstAt 25 = .ok (.aload_n 0, 1) := by decide +kernel
theorem dX11_firstAt_26 : decode cX11_firstAt 26 = .ok (.getfield 37, 3) := by decide +kernel
theorem dX11_firstAt_29 : decode cX11_firstAt 29 = .ok (.iload_n 1, 1) := by decide +kernel
theorem dX11_firstAt_30 : decode cX11_firstAt 30 = .ok (.invokevirtual 340, 3) := by decide +kernel
theorem dX11_firstAt_33 : decode cX11_firstAt 33 = .ok (.aload_n 0, 1) := by decide +kernel
theorem dX11_firstAt_34 : decode cX11_firstAt 34 = .ok (.aload_n 0, 1) := by decide +kernel
theorem dX11_firstAt_35 : decode cX11_firstAt 35 = .ok (.getfield 89, 3) := by decide +kernel
theorem dX11_firstAt_38 : decode cX11_firstAt 38 = .ok (.aload_n 0, 1) := by decide +kernel
theorem dX11_firstAt_39 : decode cX11_firstAt 39 = .ok (.getfield 37, 3) := by decide +kernel
theorem dX11_firstAt_42 : decode cX11_firstAt 42 = .ok (.aload_n 0, 1) := by decide +kernel
theorem dX11_firstAt_43 : decode cX11_firstAt 43 = .ok (.getfield 37, 3) := by decide +kernel
theorem dX11_firstAt_46 : decode cX11_firstAt 46 = .ok (.getfield 259, 3) := by decide +kernel
theorem dX11_firstAt_49 : decode cX11_firstAt 49 = .ok (.iload_n 1, 1) := by decide +kernel
theorem dX11_firstAt_50 : decode cX11_firstAt 50 = .ok (.iaload, 1) := by decide +kernel
theorem dX11_firstAt_51 : decode cX11_firstAt 51 = .ok (.iload_n 2, 1) := by decide +kernel
theorem dX11_firstAt_52 : decode cX11_firstAt 52 = .ok (.invokevirtual 351, 3) := by decide +kernel
theorem dX11_firstAt_55 : decode cX11_firstAt 55 = .ok (.invokevirtual 321, 3) := by decide +kernel
theorem dX11_firstAt_58 : decode cX11_firstAt 58 = .ok (.ireturn, 1) := by decide +kernel
set_option maxRecDepth 100000 in
def f_X11_firstAt_15 (l0 : Nat) (μ : dtM) : Option (Int32 × dtM) :=
  (opRv 11 μ l0).bind fun _ => opCall (f_X11_fail l0 (1 : Int32) μ) fun x4 μ2 => some (x4, μ2)
set_option maxRecDepth 100000 in
def f_X11_firstAt (p0 : Nat) (p1 : Int32) (p2 : Int32) (μ : dtM) : Option (Int32 × dtM) :=
  (opGR 11 5 μ p0).bind fun x1 => (opRv 3 μ x1).bind fun _ => opCall (f_X3_hasPerson x1 p1 μ) fun x6 μ4 => if x6 = 0 then (f_X11_firstAt_15 p0 μ4) else (if 0 ≤ p2 then ((opGR 11 15 μ4 p0).bind fun x13 => (opGR 11 5 μ4 p0).bind fun x15 => (opRv 5 μ4 x13).bind fun _ => (f_X5_loadHeard x13 x15 p1 μ4).bind fun μ18 => (opGR 11 15 μ18 p0).bind fun x20 => (opGR 11 5 μ18 p0).bind fun x22 => (opGR 11 5 μ18 p0).bind fun x24 => (opGR 3 16 μ18 x24).bind fun x26 => (opLI 1 μ18 x26 p1).bind fun x28 => (opRv 5 μ18 x20).bind fun _ => opCall (f_X5_wordOfFirst x20 x22 x28 p2 μ18) fun x33 μ31 => (opRv 11 μ31 p0).bind fun _ => opCall (f_X11_found p0 x33 μ31) fun x37 μ35 => some (x37, μ35)) else (f_X11_firstAt_15 p0 μ4))
set_option maxRecDepth 100000 in
theorem c_X11_firstAt_15 {r : Int32} {F : dtM} (l0 : Nat) (μ : dtM) (h : f_X11_firstAt_15 l0 μ = some (r, F)) : dtW yX11_firstAt cX11_firstAt 3 (some .int) 7 (some (.int r)) F 15 [some (.ref l0)] [] μ := by
  rw [f_X11_firstAt_15] at h
  refine dr_aload_n l0 dX11_firstAt_15 rfl ?_
  refine dr_iconst (1 : Int32) dX11_firstAt_16 (by decide) ?_
  obtain ⟨_, hb1, h⟩ := dtBind h
  obtain ⟨x4, μ2, e3, h⟩ := dtCall h
  refine dr_callV_i (S0 := []) [.int (1 : Int32)] x4 μ2 dX11_firstAt_17 (c_X11_fail l0 (1 : Int32) μ e3) mf_X11_fail wt_510 ws_3 wt_508 rfl (dtRv hb1) (by decide) rfl (Nat.le_of_ble_eq_true rfl) (Nat.le_of_ble_eq_true rfl) rfl ?_
  cases h
  exact dr_ireturn dX11_firstAt_20 rfl
set_option maxRecDepth 100000 in
theorem c_X11_firstAt {r : Int32} {F : dtM} (p0 : Nat) (p1 : Int32) (p2 : Int32) (μ : dtM) (h : f_X11_firstAt p0 p1 p2 μ = some (r, F)) : dtMet yX11_firstAt cX11_firstAt 3 (some .int) 7 [.ref p0, .int p1, .int p2] μ (some (.int r)) F := by
  refine dtMet.of (by decide +kernel) (Nat.le_of_ble_eq_true rfl) (show dtW yX11_firstAt cX11_firstAt 3 (some .int) 7 (some (.int r)) F 0 [some (.ref p0), some (.int p1), some (.int p2)] [] μ from ?_)
  rw [f_X11_firstAt] at h
  refine dr_aload_n p0 dX11_firstAt_0 rfl ?_
  obtain ⟨x1, e2, h⟩ := dtBind h
  refine dr_getR x1 dX11_firstAt_1 fl_RX11_37 e2 ?_
  refine dr_iload_n p1 dX11_firstAt_4 rfl ?_
  obtain ⟨_, hb3, h⟩ := dtBind h
  obtain ⟨x6, μ4, e5, h⟩ := dtCall h
  refine dr_callV_i (S0 := []) [.int p1] x6 μ4 dX11_firstAt_5 (c_X3_hasPerson x1 p1 μ e5) mf_X3_hasPerson wt_867 wt_868 wt_866 rfl (dtRv hb3) (by decide) rfl (Nat.le_of_ble_eq_true rfl) (Nat.le_of_ble_eq_true rfl) rfl ?_
  obtain ⟨ht8, hf9⟩ := dtIte h
  refine dr_if_eq 15 dX11_firstAt_8 (by decide) (fun hc7 => ?_) (fun hc7 => ?_)
  · have h := ht8 hc7
    refine dr_mask [true] [some (.ref p0)] rfl ?_
    exact c_X11_firstAt_15 p0 μ4 h
  · have h := hf9 hc7
    refine dr_iload_n p2 dX11_firstAt_11 rfl ?_
    obtain ⟨ht11, hf12⟩ := dtIte h
    refine dr_if_ge 21 dX11_firstAt_12 (by decide) (fun hc10 => ?_) (fun hc10 => ?_)
    · have h := ht11 hc10
      refine dr_aload_n p0 dX11_firstAt_21 rfl ?_
      obtain ⟨x13, e14, h⟩ := dtBind h
      refine dr_getR x13 dX11_firstAt_22 fl_RX11_89 e14 ?_
      refine dr_aload_n p0 dX11_firstAt_25 rfl ?_
      obtain ⟨x15, e16, h⟩ := dtBind h
      refine dr_getR x15 dX11_firstAt_26 fl_RX11_37 e16 ?_
      refine dr_iload_n p1 dX11_firstAt_29 rfl ?_
      obtain ⟨_, hb17, h⟩ := dtBind h
      obtain ⟨μ18, e19, h⟩ := dtBind h
      refine dr_callV_v (S0 := []) [.ref x15, .int p1] μ18 dX11_firstAt_30 (c_X5_loadHeard x13 x15 p1 μ4 e19) mf_X5_loadHeard wt_1050 wt_1051 wt_1049 rfl (dtRv hb17) (by decide) rfl (Nat.le_of_ble_eq_true rfl) (Nat.le_of_ble_eq_true rfl) rfl ?_
      refine dr_aload_n p0 dX11_firstAt_33 rfl ?_
      refine dr_aload_n p0 dX11_firstAt_34 rfl ?_
      obtain ⟨x20, e21, h⟩ := dtBind h
      refine dr_getR x20 dX11_firstAt_35 fl_RX11_89 e21 ?_
      refine dr_aload_n p0 dX11_firstAt_38 rfl ?_
      obtain ⟨x22, e23, h⟩ := dtBind h
      refine dr_getR x22 dX11_firstAt_39 fl_RX11_37 e23 ?_
      refine dr_aload_n p0 dX11_firstAt_42 rfl ?_
      obtain ⟨x24, e25, h⟩ := dtBind h
      refine dr_getR x24 dX11_firstAt_43 fl_RX11_37 e25 ?_
      obtain ⟨x26, e27, h⟩ := dtBind h
      refine dr_getR x26 dX11_firstAt_46 fl_RX11_259 e27 ?_
      refine dr_iload_n p1 dX11_firstAt_49 rfl ?_
      obtain ⟨x28, e29, h⟩ := dtBind h
      refine dr_iaload x28 dX11_firstAt_50 e29 ?_
      refine dr_iload_n p2 dX11_firstAt_51 rfl ?_
      obtain ⟨_, hb30, h⟩ := dtBind h
      obtain ⟨x33, μ31, e32, h⟩ := dtCall h
      refine dr_callV_i (S0 := [.ref p0]) [.ref x22, .int x28, .int p2] x33 μ31 dX11_firstAt_52 (c_X5_wordOfFirst x20 x22 x28 p2 μ18 e32) mf_X5_wordOfFirst wt_1093 wt_1094 wt_1092 rfl (dtRv hb30) (by decide) rfl (Nat.le_of_ble_eq_true rfl) (Nat.le_of_ble_eq_true rfl) rfl ?_
      obtain ⟨_, hb34, h⟩ := dtBind h
      obtain ⟨x37, μ35, e36, h⟩ := dtCall h
      refine dr_callV_i (S0 := []) [.int x33] x37 μ35 dX11_firstAt_55 (c_X11_found p0 x33 μ31 e36) mf_X11_found wt_1001 ws_32 wt_999 rfl (dtRv hb34) (by decide) rfl (Nat.le_of_ble_eq_true rfl) (Nat.le_of_ble_eq_true rfl) rfl ?_
      cases h
      exact dr_ireturn dX11_firstAt_58 rfl
    · have h := hf12 hc10
      refine dr_mask [true] [some (.ref p0)] rfl ?_
      exact c_X11_firstAt_15 p0 μ4 h
/-! X11_means -/
theorem dX11_means_0 : decode cX11_means 0 = .ok (.aload_n 0, 1) := by decide +kernel
theorem dX11_means_1 : decode cX11_means 1 = .ok (.getfield 37, 3) := by decide +kernel
theorem dX11_means_4 : decode cX11_means 4 = .ok (.iload_n 1, 1) := by decide +kernel
theorem dX11_means_5 : decode cX11_means 5 = .ok (.invokevirtual 250, 3) := by decide +kernel
theorem dX11_means_8 : decode cX11_means 8 = .ok (.ifCond .eq 17, 3) := by decide +kernel
theorem dX11_means_11 : decode cX11_means 11 = .ok (.iload_n 3, 1) := by decide +kernel
theorem dX11_means_12 : decode cX11_means 12 = .ok (.iconst 0, 1) := by decide +kernel
theorem dX11_means_13 : decode cX11_means 13 = .ok (.bipush 20, 2) := by decide +kernel
theorem dX11_means_15 : decode cX11_means 15 = .ok (.invokestatic 115, 3) := by decide +kernel
theorem dX11_means_18 : decode cX11_means 18 = .ok (.ifCond .eq 7, 3) := by decide +kernel
theorem dX11_means_21 : decode cX11_means 21 = .ok (.iconst 1, 1) := by decide +kernel
theorem dX11_means_22 : decode cX11_means 22 = .ok (.goto 4, 3) := by decide +kernel
theorem dX11_means_25 : decode cX11_means 25 = .ok (.iconst 0, 1) := by decide +kernel
theorem dX11_means_26 : decode cX11_means 26 = .ok (.istore 4, 2) := by decide +kernel
theorem dX11_means_28 : decode cX11_means 28 = .ok (.iload 4, 2) := by decide +kernel
theorem dX11_means_30 : decode cX11_means 30 = .ok (.ifCond .eq 12, 3) := by decide +kernel
theorem dX11_means_33 : decode cX11_means 33 = .ok (.aload_n 0, 1) := by decide +kernel
theorem dX11_means_34 : decode cX11_means 34 = .ok (.iload_n 2, 1) := by decide +kernel
theorem dX11_means_35 : decode cX11_means 35 = .ok (.iload_n 3, 1) := by decide +kernel
theorem dX11_means_36 : decode cX11_means 36 = .ok (.invokevirtual 292, 3) := by decide +kernel
theorem dX11_means_39 : decode cX11_means 39 = .ok (.goto 4, 3) := by decide +kernel
theorem dX11_means_42 : decode cX11_means 42 = .ok (.iconst 1, 1) := by decide +kernel
theorem dX11_means_43 : decode cX11_means 43 = .ok (.istore 5, 2) := by decide +kernel
theorem dX11_means_45 : decode cX11_means 45 = .ok (.iload 5, 2) := by decide +kernel
theorem dX11_means_47 : decode cX11_means 47 = .ok (.ifCond .eq 10, 3) := by decide +kernel
theorem dX11_means_50 : decode cX11_means 50 = .ok (.aload_n 0, 1) := by decide +kernel
theorem dX11_means_51 : decode cX11_means 51 = .ok (.iload 5, 2) := by decide +kernel
theorem dX11_means_53 : decode cX11_means 53 = .ok (.invokevirtual 138, 3) := by decide +kernel
theorem dX11_means_56 : decode cX11_means 56 = .ok (.ireturn, 1) := by decide +kernel
theorem dX11_means_57 : decode cX11_means 57 = .ok (.aload_n 0, 1) := by decide +kernel
theorem dX11_means_58 : decode cX11_means 58 = .ok (.getfield 22, 3) := by decide +kernel
theorem dX11_means_61 : decode cX11_means 61 = .ok (.iload_n 2, 1) := by decide +kernel
theorem dX11_means_62 : decode cX11_means 62 = .ok (.aaload, 1) := by decide +kernel
theorem dX11_means_63 : decode cX11_means 63 = .ok (.iload_n 3, 1) := by decide +kernel
theorem dX11_means_64 : decode cX11_means 64 = .ok (.iconst 4, 1) := by decide +kernel
theorem dX11_means_65 : decode cX11_means 65 = .ok (.invokevirtual 295, 3) := by decide +kernel
theorem dX11_means_68 : decode cX11_means 68 = .ok (.ifCond .ne 9, 3) := by decide +kernel
theorem dX11_means_71 : decode cX11_means 71 = .ok (.aload_n 0, 1) := by decide +kernel
theorem dX11_means_72 : decode cX11_means 72 = .ok (.iconst 5, 1) := by decide +kernel
theorem dX11_means_73 : decode cX11_means 73 = .ok (.invokevirtual 138, 3) := by decide +kernel
theorem dX11_means_76 : decode cX11_means 76 = .ok (.ireturn, 1) := by decide +kernel
theorem dX11_means_77 : decode cX11_means 77 = .ok (.aload_n 0, 1) := by decide +kernel
theorem dX11_means_78 : decode cX11_means 78 = .ok (.getfield 89, 3) := by decide +kernel
theorem dX11_means_81 : decode cX11_means 81 = .ok (.invokevirtual 354, 3) := by decide +kernel
theorem dX11_means_84 : decode cX11_means 84 = .ok (.iconst 0, 1) := by decide +kernel
theorem dX11_means_85 : decode cX11_means 85 = .ok (.istore 6, 2) := by decide +kernel
theorem dX11_means_87 : decode cX11_means 87 = .ok (.iload 6, 2) := by decide +kernel
theorem dX11_means_89 : decode cX11_means 89 = .ok (.iload_n 3, 1) := by decide +kernel
theorem dX11_means_90 : decode cX11_means 90 = .ok (.if_icmp .ge 27, 3) := by decide +kernel
theorem dX11_means_93 : decode cX11_means 93 = .ok (.aload_n 0, 1) := by decide +kernel
theorem dX11_means_94 : decode cX11_means 94 = .ok (.getfield 89, 3) := by decide +kernel
theorem dX11_means_97 : decode cX11_means 97 = .ok (.aload_n 0, 1) := by decide +kernel
theorem dX11_means_98 : decode cX11_means 98 = .ok (.getfield 22, 3) := by decide +kernel
theorem dX11_means_101 : decode cX11_means 101 = .ok (.iload_n 2, 1) := by decide +kernel
theorem dX11_means_102 : decode cX11_means 102 = .ok (.aaload, 1) := by decide +kernel
theorem dX11_means_103 : decode cX11_means 103 = .ok (.iload 6, 2) := by decide +kernel
theorem dX11_means_105 : decode cX11_means 105 = .ok (.invokevirtual 301, 3) := by decide +kernel
theorem dX11_means_108 : decode cX11_means 108 = .ok (.invokevirtual 357, 3) := by decide +kernel
theorem dX11_means_111 : decode cX11_means 111 = .ok (.iinc 6 1, 3) := by decide +kernel
theorem dX11_means_114 : decode cX11_means 114 = .ok (.goto (-27), 3) := by decide +kernel
theorem dX11_means_117 : decode cX11_means 117 = .ok (.aload_n 0, 1) := by decide +kernel
theorem dX11_means_118 : decode cX11_means 118 = .ok (.aload_n 0, 1) := by decide +kernel
theorem dX11_means_119 : decode cX11_means 119 = .ok (.getfield 89, 3) := by decide +kernel
theorem dX11_means_122 : decode cX11_means 122 = .ok (.aload_n 0, 1) := by decide +kernel
theorem dX11_means_123 : decode cX11_means 123 = .ok (.getfield 37, 3) := by decide +kernel
theorem dX11_means_126 : decode cX11_means 126 = .ok (.aload_n 0, 1) := by decide +kernel
theorem dX11_means_127 : decode cX11_means 127 = .ok (.getfield 37, 3) := by decide +kernel
theorem dX11_means_130 : decode cX11_means 130 = .ok (.getfield 259, 3) := by decide +kernel
theorem dX11_means_133 : decode cX11_means 133 = .ok (.iload_n 1, 1) := by decide +kernel
theorem dX11_means_134 : decode cX11_means 134 = .ok (.iaload, 1) := by decide +kernel
theorem dX11_means_135 : decode cX11_means 135 = .ok (.invokevirtual 344, 3) := by decide +kernel
theorem dX11_means_138 : decode cX11_means 138 = .ok (.invokevirtual 192, 3) := by decide +kernel
theorem dX11_means_141 : decode cX11_means 141 = .ok (.ireturn, 1) := by decide +kernel
set_option maxRecDepth 100000 in
def f_X11_means_87 : Nat → Nat → Int32 → Int32 → Int32 → Int32 → dtM → Option (Int32 × dtM)
  | 0, _, _, _, _, _, _ => none
  | n + 1, l0, l1, l2, l3, l6, μ =>
    if l3 ≤ l6 then ((opGR 11 15 μ l0).bind fun x4 => (opGR 11 5 μ l0).bind fun x6 => (opGR 11 5 μ l0).bind fun x8 => (opGR 3 16 μ x8).bind fun x10 => (opLI 1 μ x10 l1).bind fun x12 => (opRv 5 μ x4).bind fun _ => opCall (f_X5_countReadings x4 x6 x12 μ) fun x17 μ15 => (opRv 11 μ15 l0).bind fun _ => opCall (f_X11_answer l0 x17 μ15) fun x21 μ19 => some (x21, μ19)) else ((opGR 11 15 μ l0).bind fun x22 => (opGR 11 3 μ l0).bind fun x24 => (opLR 4 μ x24 l2).bind fun x26 => (opRv 9 μ x26).bind fun _ => opCall (f_X9_smallNumber x26 l6 μ) fun x31 μ29 => (opRv 5 μ29 x22).bind fun _ => (f_X5_addSound x22 x31 μ29).bind fun μ33 => f_X11_means_87 n l0 l1 l2 l3 (l6 + 1) μ33)
set_option maxRecDepth 100000 in
def f_X11_means_43 (l0 : Nat) (l1 : Int32) (l2 : Int32) (l3 : Int32) (s0 : Int32) (μ : dtM) : Option (Int32 × dtM) :=
  if s0 = 0 then ((opGR 11 3 μ l0).bind fun x4 => (opLR 4 μ x4 l2).bind fun x6 => (opRv 9 μ x6).bind fun _ => opCall (f_X9_allBelow x6 l3 (4 : Int32) μ) fun x11 μ9 => if x11 = 0 then ((opRv 11 μ9 l0).bind fun _ => opCall (f_X11_fail l0 (5 : Int32) μ9) fun x23 μ21 => some (x23, μ21)) else ((opGR 11 15 μ9 l0).bind fun x15 => (opRv 5 μ9 x15).bind fun _ => (f_X5_beginRow x15 μ9).bind fun μ18 => f_X11_means_87 dtFuel l0 l1 l2 l3 (0 : Int32) μ18)) else ((opRv 11 μ l0).bind fun _ => opCall (f_X11_fail l0 s0 μ) fun x27 μ25 => some (x27, μ25))
set_option maxRecDepth 100000 in
def f_X11_means_26 (l0 : Nat) (l1 : Int32) (l2 : Int32) (l3 : Int32) (s0 : Int32) (μ : dtM) : Option (Int32 × dtM) :=
  if s0 = 0 then (f_X11_means_43 l0 l1 l2 l3 (1 : Int32) μ) else ((opRv 11 μ l0).bind fun _ => opCall (f_X11_runStatus l0 l2 l3 μ) fun x7 μ5 => f_X11_means_43 l0 l1 l2 l3 x7 μ5)
set_option maxRecDepth 100000 in
def f_X11_means_25 (l0 : Nat) (l1 : Int32) (l2 : Int32) (l3 : Int32) (μ : dtM) : Option (Int32 × dtM) :=
  f_X11_means_26 l0 l1 l2 l3 (0 : Int32) μ
set_option maxRecDepth 100000 in
def f_X11_means (p0 : Nat) (p1 : Int32) (p2 : Int32) (p3 : Int32) (μ : dtM) : Option (Int32 × dtM) :=
  (opGR 11 5 μ p0).bind fun x1 => (opRv 3 μ x1).bind fun _ => opCall (f_X3_hasPerson x1 p1 μ) fun x6 μ4 => if x6 = 0 then (f_X11_means_25 p0 p1 p2 p3 μ4) else (opCall (f_X11_within p3 (0 : Int32) (20 : Int32) μ4) fun x12 μ10 => if x12 = 0 then (f_X11_means_25 p0 p1 p2 p3 μ10) else (f_X11_means_26 p0 p1 p2 p3 (1 : Int32) μ10))
set_option maxRecDepth 100000 in
theorem c_X11_means_87 {r : Int32} {F : dtM} : ∀ (n : Nat) (l0 : Nat) (l1 : Int32) (l2 : Int32) (l3 : Int32) (l6 : Int32) (μ : dtM), f_X11_means_87 n l0 l1 l2 l3 l6 μ = some (r, F) → dtW yX11_means cX11_means 7 (some .int) 5 (some (.int r)) F 87 [some (.ref l0), some (.int l1), some (.int l2), some (.int l3), none, none, some (.int l6)] [] μ := by
  intro n
  induction n with
  | zero => intro l0 l1 l2 l3 l6 μ h; cases h
  | succ n ih =>
    intro l0 l1 l2 l3 l6 μ h
    have h := (show f_X11_means_87 (n + 1) l0 l1 l2 l3 l6 μ = some _ from h)
    rw [f_X11_means_87] at h
    refine dr_iload l6 dX11_means_87 rfl ?_
    refine dr_iload_n l3 dX11_means_89 rfl ?_
    obtain ⟨ht2, hf3⟩ := dtIte h
    refine dr_icmp_ge 117 dX11_means_90 (by decide) (fun hc1 => ?_) (fun hc1 => ?_)
    · have h := ht2 hc1
      refine dr_aload_n l0 dX11_means_117 rfl ?_
      refine dr_aload_n l0 dX11_means_118 rfl ?_
      obtain ⟨x4, e5, h⟩ := dtBind h
      refine dr_getR x4 dX11_means_119 fl_RX11_89 e5 ?_
      refine dr_aload_n l0 dX11_means_122 rfl ?_
      obtain ⟨x6, e7, h⟩ := dtBind h
      refine dr_getR x6 dX11_means_123 fl_RX11_37 e7 ?_
      refine dr_aload_n l0 dX11_means_126 rfl ?_
      obtain ⟨x8, e9, h⟩ := dtBind h
      refine dr_getR x8 dX11_means_127 fl_RX11_37 e9 ?_
      obtain ⟨x10, e11, h⟩ := dtBind h
      refine dr_getR x10 dX11_means_130 fl_RX11_259 e11 ?_
      refine dr_iload_n l1 dX11_means_133 rfl ?_
      obtain ⟨x12, e13, h⟩ := dtBind h
      refine dr_iaload x12 dX11_means_134 e13 ?_
      obtain ⟨_, hb14, h⟩ := dtBind h
      obtain ⟨x17, μ15, e16, h⟩ := dtCall h
      refine dr_callV_i (S0 := [.ref l0]) [.ref x6, .int x12] x17 μ15 dX11_means_135 (c_X5_countReadings x4 x6 x12 μ e16) mf_X5_countReadings wt_1062 wt_1063 wt_1061 rfl (dtRv hb14) (by decide) rfl (Nat.le_of_ble_eq_true rfl) (Nat.le_of_ble_eq_true rfl) rfl ?_
      obtain ⟨_, hb18, h⟩ := dtBind h
      obtain ⟨x21, μ19, e20, h⟩ := dtCall h
      refine dr_callV_i (S0 := []) [.int x17] x21 μ19 dX11_means_138 (c_X11_answer l0 x17 μ15 e20) mf_X11_answer wt_764 ws_19 wt_762 rfl (dtRv hb18) (by decide) rfl (Nat.le_of_ble_eq_true rfl) (Nat.le_of_ble_eq_true rfl) rfl ?_
      cases h
      exact dr_ireturn dX11_means_141 rfl
    · have h := hf3 hc1
      refine dr_aload_n l0 dX11_means_93 rfl ?_
      obtain ⟨x22, e23, h⟩ := dtBind h
      refine dr_getR x22 dX11_means_94 fl_RX11_89 e23 ?_
      refine dr_aload_n l0 dX11_means_97 rfl ?_
      obtain ⟨x24, e25, h⟩ := dtBind h
      refine dr_getR x24 dX11_means_98 fl_RX11_22 e25 ?_
      refine dr_iload_n l2 dX11_means_101 rfl ?_
      obtain ⟨x26, e27, h⟩ := dtBind h
      refine dr_aaload4 x26 dX11_means_102 e27 ?_
      refine dr_iload l6 dX11_means_103 rfl ?_
      obtain ⟨_, hb28, h⟩ := dtBind h
      obtain ⟨x31, μ29, e30, h⟩ := dtCall h
      refine dr_callV_i (S0 := [.ref x22]) [.int l6] x31 μ29 dX11_means_105 (c_X9_smallNumber x26 l6 μ e30) mf_X9_smallNumber wt_965 wt_966 wt_964 rfl (dtRv hb28) (by decide) rfl (Nat.le_of_ble_eq_true rfl) (Nat.le_of_ble_eq_true rfl) rfl ?_
      obtain ⟨_, hb32, h⟩ := dtBind h
      obtain ⟨μ33, e34, h⟩ := dtBind h
      refine dr_callV_v (S0 := []) [.int x31] μ33 dX11_means_108 (c_X5_addSound x22 x31 μ29 e34) mf_X5_addSound wt_1058 wt_1059 wt_1102 rfl (dtRv hb32) (by decide) rfl (Nat.le_of_ble_eq_true rfl) (Nat.le_of_ble_eq_true rfl) rfl ?_
      refine dr_iinc l6 (l6 + 1) [some (.ref l0), some (.int l1), some (.int l2), some (.int l3), none, none, some (.int (l6 + 1))] dX11_means_111 rfl rfl rfl rfl rfl ?_
      refine dr_goto 87 dX11_means_114 (by decide) ?_
      exact ih l0 l1 l2 l3 (l6 + 1) μ33 h
set_option maxRecDepth 100000 in
theorem c_X11_means_43 {r : Int32} {F : dtM} (l0 : Nat) (l1 : Int32) (l2 : Int32) (l3 : Int32) (s0 : Int32) (μ : dtM) (h : f_X11_means_43 l0 l1 l2 l3 s0 μ = some (r, F)) : dtW yX11_means cX11_means 7 (some .int) 5 (some (.int r)) F 43 [some (.ref l0), some (.int l1), some (.int l2), some (.int l3)] [.int s0] μ := by
  rw [f_X11_means_43] at h
  refine dr_istore [some (.ref l0), some (.int l1), some (.int l2), some (.int l3), none, some (.int s0)] dX11_means_43 rfl rfl rfl ?_
  refine dr_iload s0 dX11_means_45 rfl ?_
  obtain ⟨ht2, hf3⟩ := dtIte h
  refine dr_if_eq 57 dX11_means_47 (by decide) (fun hc1 => ?_) (fun hc1 => ?_)
  · have h := ht2 hc1
    refine dr_aload_n l0 dX11_means_57 rfl ?_
    obtain ⟨x4, e5, h⟩ := dtBind h
    refine dr_getR x4 dX11_means_58 fl_RX11_22 e5 ?_
    refine dr_iload_n l2 dX11_means_61 rfl ?_
    obtain ⟨x6, e7, h⟩ := dtBind h
    refine dr_aaload4 x6 dX11_means_62 e7 ?_
    refine dr_iload_n l3 dX11_means_63 rfl ?_
    refine dr_iconst (4 : Int32) dX11_means_64 (by decide) ?_
    obtain ⟨_, hb8, h⟩ := dtBind h
    obtain ⟨x11, μ9, e10, h⟩ := dtCall h
    refine dr_callV_i (S0 := []) [.int l3, .int (4 : Int32)] x11 μ9 dX11_means_65 (c_X9_allBelow x6 l3 (4 : Int32) μ e10) mf_X9_allBelow wt_960 wt_961 wt_959 rfl (dtRv hb8) (by decide) rfl (Nat.le_of_ble_eq_true rfl) (Nat.le_of_ble_eq_true rfl) rfl ?_
    obtain ⟨ht13, hf14⟩ := dtIte h
    refine dr_if_ne 77 dX11_means_68 (by decide) (fun hc12 => ?_) (fun hc12 => ?_)
    · have h := hf14 hc12
      refine dr_aload_n l0 dX11_means_77 rfl ?_
      obtain ⟨x15, e16, h⟩ := dtBind h
      refine dr_getR x15 dX11_means_78 fl_RX11_89 e16 ?_
      obtain ⟨_, hb17, h⟩ := dtBind h
      obtain ⟨μ18, e19, h⟩ := dtBind h
      refine dr_callV_v (S0 := []) [] μ18 dX11_means_81 (c_X5_beginRow x15 μ9 e19) mf_X5_beginRow wt_1054 wt_1055 wt_1101 rfl (dtRv hb17) (by decide) rfl (Nat.le_of_ble_eq_true rfl) (Nat.le_of_ble_eq_true rfl) rfl ?_
      refine dr_iconst (0 : Int32) dX11_means_84 (by decide) ?_
      refine dr_istore [some (.ref l0), some (.int l1), some (.int l2), some (.int l3), none, some (.int s0), some (.int (0 : Int32))] dX11_means_85 rfl rfl rfl ?_
      refine dr_mask [true, true, true, true, false, false, true] [some (.ref l0), some (.int l1), some (.int l2), some (.int l3), none, none, some (.int (0 : Int32))] rfl ?_
      exact c_X11_means_87 dtFuel l0 l1 l2 l3 (0 : Int32) μ18 h
    · have h := ht13 hc12
      refine dr_aload_n l0 dX11_means_71 rfl ?_
      refine dr_iconst (5 : Int32) dX11_means_72 (by decide) ?_
      obtain ⟨_, hb20, h⟩ := dtBind h
      obtain ⟨x23, μ21, e22, h⟩ := dtCall h
      refine dr_callV_i (S0 := []) [.int (5 : Int32)] x23 μ21 dX11_means_73 (c_X11_fail l0 (5 : Int32) μ9 e22) mf_X11_fail wt_510 ws_3 wt_508 rfl (dtRv hb20) (by decide) rfl (Nat.le_of_ble_eq_true rfl) (Nat.le_of_ble_eq_true rfl) rfl ?_
      cases h
      exact dr_ireturn dX11_means_76 rfl
  · have h := hf3 hc1
    refine dr_aload_n l0 dX11_means_50 rfl ?_
    refine dr_iload s0 dX11_means_51 rfl ?_
    obtain ⟨_, hb24, h⟩ := dtBind h
    obtain ⟨x27, μ25, e26, h⟩ := dtCall h
    refine dr_callV_i (S0 := []) [.int s0] x27 μ25 dX11_means_53 (c_X11_fail l0 s0 μ e26) mf_X11_fail wt_510 ws_3 wt_508 rfl (dtRv hb24) (by decide) rfl (Nat.le_of_ble_eq_true rfl) (Nat.le_of_ble_eq_true rfl) rfl ?_
    cases h
    exact dr_ireturn dX11_means_56 rfl
set_option maxRecDepth 100000 in
theorem c_X11_means_26 {r : Int32} {F : dtM} (l0 : Nat) (l1 : Int32) (l2 : Int32) (l3 : Int32) (s0 : Int32) (μ : dtM) (h : f_X11_means_26 l0 l1 l2 l3 s0 μ = some (r, F)) : dtW yX11_means cX11_means 7 (some .int) 5 (some (.int r)) F 26 [some (.ref l0), some (.int l1), some (.int l2), some (.int l3)] [.int s0] μ := by
  rw [f_X11_means_26] at h
  refine dr_istore [some (.ref l0), some (.int l1), some (.int l2), some (.int l3), some (.int s0)] dX11_means_26 rfl rfl rfl ?_
  refine dr_iload s0 dX11_means_28 rfl ?_
  obtain ⟨ht2, hf3⟩ := dtIte h
  refine dr_if_eq 42 dX11_means_30 (by decide) (fun hc1 => ?_) (fun hc1 => ?_)
  · have h := ht2 hc1
    refine dr_iconst (1 : Int32) dX11_means_42 (by decide) ?_
    refine dr_mask [true, true, true, true] [some (.ref l0), some (.int l1), some (.int l2), some (.int l3)] rfl ?_
    exact c_X11_means_43 l0 l1 l2 l3 (1 : Int32) μ h
  · have h := hf3 hc1
    refine dr_aload_n l0 dX11_means_33 rfl ?_
    refine dr_iload_n l2 dX11_means_34 rfl ?_
    refine dr_iload_n l3 dX11_means_35 rfl ?_
    obtain ⟨_, hb4, h⟩ := dtBind h
    obtain ⟨x7, μ5, e6, h⟩ := dtCall h
    refine dr_callV_i (S0 := []) [.int l2, .int l3] x7 μ5 dX11_means_36 (c_X11_runStatus l0 l2 l3 μ e6) mf_X11_runStatus wt_957 ws_31 wt_955 rfl (dtRv hb4) (by decide) rfl (Nat.le_of_ble_eq_true rfl) (Nat.le_of_ble_eq_true rfl) rfl ?_
    refine dr_goto 43 dX11_means_39 (by decide) ?_
    refine dr_mask [true, true, true, true] [some (.ref l0), some (.int l1), some (.int l2), some (.int l3)] rfl ?_
    exact c_X11_means_43 l0 l1 l2 l3 x7 μ5 h
set_option maxRecDepth 100000 in
theorem c_X11_means_25 {r : Int32} {F : dtM} (l0 : Nat) (l1 : Int32) (l2 : Int32) (l3 : Int32) (μ : dtM) (h : f_X11_means_25 l0 l1 l2 l3 μ = some (r, F)) : dtW yX11_means cX11_means 7 (some .int) 5 (some (.int r)) F 25 [some (.ref l0), some (.int l1), some (.int l2), some (.int l3)] [] μ := by
  rw [f_X11_means_25] at h
  refine dr_iconst (0 : Int32) dX11_means_25 (by decide) ?_
  exact c_X11_means_26 l0 l1 l2 l3 (0 : Int32) μ h
set_option maxRecDepth 100000 in
theorem c_X11_means {r : Int32} {F : dtM} (p0 : Nat) (p1 : Int32) (p2 : Int32) (p3 : Int32) (μ : dtM) (h : f_X11_means p0 p1 p2 p3 μ = some (r, F)) : dtMet yX11_means cX11_means 7 (some .int) 5 [.ref p0, .int p1, .int p2, .int p3] μ (some (.int r)) F := by
  refine dtMet.of (by decide +kernel) (Nat.le_of_ble_eq_true rfl) (show dtW yX11_means cX11_means 7 (some .int) 5 (some (.int r)) F 0 [some (.ref p0), some (.int p1), some (.int p2), some (.int p3)] [] μ from ?_)
  rw [f_X11_means] at h
  refine dr_aload_n p0 dX11_means_0 rfl ?_
  obtain ⟨x1, e2, h⟩ := dtBind h
  refine dr_getR x1 dX11_means_1 fl_RX11_37 e2 ?_
  refine dr_iload_n p1 dX11_means_4 rfl ?_
  obtain ⟨_, hb3, h⟩ := dtBind h
  obtain ⟨x6, μ4, e5, h⟩ := dtCall h
  refine dr_callV_i (S0 := []) [.int p1] x6 μ4 dX11_means_5 (c_X3_hasPerson x1 p1 μ e5) mf_X3_hasPerson wt_867 wt_868 wt_866 rfl (dtRv hb3) (by decide) rfl (Nat.le_of_ble_eq_true rfl) (Nat.le_of_ble_eq_true rfl) rfl ?_
  obtain ⟨ht8, hf9⟩ := dtIte h
  refine dr_if_eq 25 dX11_means_8 (by decide) (fun hc7 => ?_) (fun hc7 => ?_)
  · have h := ht8 hc7
    exact c_X11_means_25 p0 p1 p2 p3 μ4 h
  · have h := hf9 hc7
    refine dr_iload_n p3 dX11_means_11 rfl ?_
    refine dr_iconst (0 : Int32) dX11_means_12 (by decide) ?_
    refine dr_bipush (20 : Int32) dX11_means_13 (by decide) ?_
    obtain ⟨x12, μ10, e11, h⟩ := dtCall h
    refine dr_callS_i (S0 := []) [.int p3, .int (0 : Int32), .int (20 : Int32)] x12 μ10 dX11_means_15 (c_X11_within p3 (0 : Int32) (20 : Int32) μ4 e11) mf_X11_within wt_478 wt_477 rfl (Nat.le_of_ble_eq_true rfl) (Nat.le_of_ble_eq_true rfl) rfl ?_
    obtain ⟨ht14, hf15⟩ := dtIte h
    refine dr_if_eq 25 dX11_means_18 (by decide) (fun hc13 => ?_) (fun hc13 => ?_)
    · have h := ht14 hc13
      exact c_X11_means_25 p0 p1 p2 p3 μ10 h
    · have h := hf15 hc13
      refine dr_iconst (1 : Int32) dX11_means_21 (by decide) ?_
      refine dr_goto 26 dX11_means_22 (by decide) ?_
      exact c_X11_means_26 p0 p1 p2 p3 (1 : Int32) μ10 h
/-! X11_unsaid -/
theorem dX11_unsaid_0 : decode cX11_unsaid 0 = .ok (.aload_n 0, 1) := by decide +kernel
theorem dX11_unsaid_1 : decode cX11_unsaid 1 = .ok (.getfield 37, 3) := by decide +kernel
theorem dX11_unsaid_4 : decode cX11_unsaid 4 = .ok (.iload_n 1, 1) := by decide +kernel
theorem dX11_unsaid_5 : decode cX11_unsaid 5 = .ok (.invokevirtual 250, 3) := by decide +kernel
theorem dX11_unsaid_8 : decode cX11_unsaid 8 = .ok (.ifCond .eq 17, 3) := by decide +kernel
theorem dX11_unsaid_11 : decode cX11_unsaid 11 = .ok (.iload_n 3, 1) := by decide +kernel
theorem dX11_unsaid_12 : decode cX11_unsaid 12 = .ok (.iconst 0, 1) := by decide +kernel
theorem dX11_unsaid_13 : decode cX11_unsaid 13 = .ok (.bipush 6, 2) := by decide +kernel
theorem dX11_unsaid_15 : decode cX11_unsaid 15 = .ok (.invokestatic 115, 3) := by decide +kernel
theorem dX11_unsaid_18 : decode cX11_unsaid 18 = .ok (.ifCond .eq 7, 3) := by decide +kernel
theorem dX11_unsaid_21 : decode cX11_unsaid 21 = .ok (.iconst 1, 1) := by decide +kernel
theorem dX11_unsaid_22 : decode cX11_unsaid 22 = .ok (.goto 4, 3) := by decide +kernel
theorem dX11_unsaid_25 : decode cX11_unsaid 25 = .ok (.iconst 0, 1) := by decide +kernel
theorem dX11_unsaid_26 : decode cX11_unsaid 26 = .ok (.istore 4, 2) := by decide +kernel
theorem dX11_unsaid_28 : decode cX11_unsaid 28 = .ok (.iload 4, 2) := by decide +kernel
theorem dX11_unsaid_30 : decode cX11_unsaid 30 = .ok (.ifCond .eq 12, 3) := by decide +kernel
theorem dX11_unsaid_33 : decode cX11_unsaid 33 = .ok (.aload_n 0, 1) := by decide +kernel
theorem dX11_unsaid_34 : decode cX11_unsaid 34 = .ok (.iload_n 2, 1) := by decide +kernel
theorem dX11_unsaid_35 : decode cX11_unsaid 35 = .ok (.iload_n 3, 1) := by decide +kernel
theorem dX11_unsaid_36 : decode cX11_unsaid 36 = .ok (.invokevirtual 292, 3) := by decide +kernel
theorem dX11_unsaid_39 : decode cX11_unsaid 39 = .ok (.goto 4, 3) := by decide +kernel
theorem dX11_unsaid_42 : decode cX11_unsaid 42 = .ok (.iconst 1, 1) := by decide +kernel
theorem dX11_unsaid_43 : decode cX11_unsaid 43 = .ok (.istore 5, 2) := by decide +kernel
theorem dX11_unsaid_45 : decode cX11_unsaid 45 = .ok (.iload 5, 2) := by decide +kernel
theorem dX11_unsaid_47 : decode cX11_unsaid 47 = .ok (.ifCond .eq 10, 3) := by decide +kernel
theorem dX11_unsaid_50 : decode cX11_unsaid 50 = .ok (.aload_n 0, 1) := by decide +kernel
theorem dX11_unsaid_51 : decode cX11_unsaid 51 = .ok (.iload 5, 2) := by decide +kernel
theorem dX11_unsaid_53 : decode cX11_unsaid 53 = .ok (.invokevirtual 138, 3) := by decide +kernel
theorem dX11_unsaid_56 : decode cX11_unsaid 56 = .ok (.ireturn, 1) := by decide +kernel
theorem dX11_unsaid_57 : decode cX11_unsaid 57 = .ok (.aload_n 0, 1) := by decide +kernel
theorem dX11_unsaid_58 : decode cX11_unsaid 58 = .ok (.getfield 22, 3) := by decide +kernel
theorem dX11_unsaid_61 : decode cX11_unsaid 61 = .ok (.iload_n 2, 1) := by decide +kernel
theorem dX11_unsaid_62 : decode cX11_unsaid 62 = .ok (.aaload, 1) := by decide +kernel
theorem dX11_unsaid_63 : decode cX11_unsaid 63 = .ok (.iload_n 3, 1) := by decide +kernel
theorem dX11_unsaid_64 : decode cX11_unsaid 64 = .ok (.aload_n 0, 1) := by decide +kernel
theorem dX11_unsaid_65 : decode cX11_unsaid 65 = .ok (.getfield 37, 3) := by decide +kernel
theorem dX11_unsaid_68 : decode cX11_unsaid 68 = .ok (.getfield 214, 3) := by decide +kernel
theorem dX11_unsaid_71 : decode cX11_unsaid 71 = .ok (.invokevirtual 295, 3) := by decide +kernel
theorem dX11_unsaid_74 : decode cX11_unsaid 74 = .ok (.ifCond .ne 9, 3) := by decide +kernel
theorem dX11_unsaid_77 : decode cX11_unsaid 77 = .ok (.aload_n 0, 1) := by decide +kernel
theorem dX11_unsaid_78 : decode cX11_unsaid 78 = .ok (.iconst 5, 1) := by decide +kernel
theorem dX11_unsaid_79 : decode cX11_unsaid 79 = .ok (.invokevirtual 138, 3) := by decide +kernel
theorem dX11_unsaid_82 : decode cX11_unsaid 82 = .ok (.ireturn, 1) := by decide +kernel
theorem dX11_unsaid_83 : decode cX11_unsaid 83 = .ok (.aload_n 0, 1) := by decide +kernel
theorem dX11_unsaid_84 : decode cX11_unsaid 84 = .ok (.getfield 89, 3) := by decide +kernel
theorem dX11_unsaid_87 : decode cX11_unsaid 87 = .ok (.invokevirtual 354, 3) := by decide +kernel
theorem dX11_unsaid_90 : decode cX11_unsaid 90 = .ok (.iconst 0, 1) := by decide +kernel
theorem dX11_unsaid_91 : decode cX11_unsaid 91 = .ok (.istore 6, 2) := by decide +kernel
theorem dX11_unsaid_93 : decode cX11_unsaid 93 = .ok (.iload 6, 2) := by decide +kernel
theorem dX11_unsaid_95 : decode cX11_unsaid 95 = .ok (.iload_n 3, 1) := by decide +kernel
theorem dX11_unsaid_96 : decode cX11_unsaid 96 = .ok (.if_icmp .ge 31, 3) := by decide +kernel
theorem dX11_unsaid_99 : decode cX11_unsaid 99 = .ok (.aload_n 0, 1) := by decide +kernel
theorem dX11_unsaid_100 : decode cX11_unsaid 100 = .ok (.getfield 89, 3) := by decide +kernel
theorem dX11_unsaid_103 : decode cX11_unsaid 103 = .ok (.aload_n 0, 1) := by decide +kernel
theorem dX11_unsaid_104 : decode cX11_unsaid 104 = .ok (.getfield 37, 3) := by decide +kernel
theorem dX11_unsaid_107 : decode cX11_unsaid 107 = .ok (.aload_n 0, 1) := by decide +kernel
theorem dX11_unsaid_108 : decode cX11_unsaid 108 = .ok (.getfield 22, 3) := by decide +kernel
theorem dX11_unsaid_111 : decode cX11_unsaid 111 = .ok (.iload_n 2, 1) := by decide +kernel
theorem dX11_unsaid_112 : decode cX11_unsaid 112 = .ok (.aaload, 1) := by decide +kernel
theorem dX11_unsaid_113 : decode cX11_unsaid 113 = .ok (.iload 6, 2) := by decide +kernel
theorem dX11_unsaid_115 : decode cX11_unsaid 115 = .ok (.invokevirtual 301, 3) := by decide +kernel
theorem dX11_unsaid_118 : decode cX11_unsaid 118 = .ok (.invokevirtual 358, 3) := by decide +kernel
theorem dX11_unsaid_121 : decode cX11_unsaid 121 = .ok (.iinc 6 1, 3) := by decide +kernel
theorem dX11_unsaid_124 : decode cX11_unsaid 124 = .ok (.goto (-31), 3) := by decide +kernel
theorem dX11_unsaid_127 : decode cX11_unsaid 127 = .ok (.aload_n 0, 1) := by decide +kernel
theorem dX11_unsaid_128 : decode cX11_unsaid 128 = .ok (.aload_n 0, 1) := by decide +kernel
theorem dX11_unsaid_129 : decode cX11_unsaid 129 = .ok (.getfield 89, 3) := by decide +kernel
theorem dX11_unsaid_132 : decode cX11_unsaid 132 = .ok (.aload_n 0, 1) := by decide +kernel
theorem dX11_unsaid_133 : decode cX11_unsaid 133 = .ok (.getfield 37, 3) := by decide +kernel
theorem dX11_unsaid_136 : decode cX11_unsaid 136 = .ok (.aload_n 0, 1) := by decide +kernel
theorem dX11_unsaid_137 : decode cX11_unsaid 137 = .ok (.getfield 37, 3) := by decide +kernel
theorem dX11_unsaid_140 : decode cX11_unsaid 140 = .ok (.getfield 259, 3) := by decide +kernel
theorem dX11_unsaid_143 : decode cX11_unsaid 143 = .ok (.iload_n 1, 1) := by decide +kernel
theorem dX11_unsaid_144 : decode cX11_unsaid 144 = .ok (.iaload, 1) := by decide +kernel
theorem dX11_unsaid_145 : decode cX11_unsaid 145 = .ok (.invokevirtual 344, 3) := by decide +kernel
theorem dX11_unsaid_148 : decode cX11_unsaid 148 = .ok (.invokevirtual 192, 3) := by decide +kernel
theorem dX11_unsaid_151 : decode cX11_unsaid 151 = .ok (.ireturn, 1) := by decide +kernel
set_option maxRecDepth 100000 in
def f_X11_unsaid_93 : Nat → Nat → Int32 → Int32 → Int32 → Int32 → dtM → Option (Int32 × dtM)
  | 0, _, _, _, _, _, _ => none
  | n + 1, l0, l1, l2, l3, l6, μ =>
    if l3 ≤ l6 then ((opGR 11 15 μ l0).bind fun x4 => (opGR 11 5 μ l0).bind fun x6 => (opGR 11 5 μ l0).bind fun x8 => (opGR 3 16 μ x8).bind fun x10 => (opLI 1 μ x10 l1).bind fun x12 => (opRv 5 μ x4).bind fun _ => opCall (f_X5_countReadings x4 x6 x12 μ) fun x17 μ15 => (opRv 11 μ15 l0).bind fun _ => opCall (f_X11_answer l0 x17 μ15) fun x21 μ19 => some (x21, μ19)) else ((opGR 11 15 μ l0).bind fun x22 => (opGR 11 5 μ l0).bind fun x24 => (opGR 11 3 μ l0).bind fun x26 => (opLR 4 μ x26 l2).bind fun x28 => (opRv 9 μ x28).bind fun _ => opCall (f_X9_smallNumber x28 l6 μ) fun x33 μ31 => (opRv 5 μ31 x22).bind fun _ => (f_X5_addWord x22 x24 x33 μ31).bind fun μ35 => f_X11_unsaid_93 n l0 l1 l2 l3 (l6 + 1) μ35)
set_option maxRecDepth 100000 in
def f_X11_unsaid_43 (l0 : Nat) (l1 : Int32) (l2 : Int32) (l3 : Int32) (s0 : Int32) (μ : dtM) : Option (Int32 × dtM) :=
  if s0 = 0 then ((opGR 11 3 μ l0).bind fun x4 => (opLR 4 μ x4 l2).bind fun x6 => (opGR 11 5 μ l0).bind fun x8 => (opGI 3 2 μ x8).bind fun x10 => (opRv 9 μ x6).bind fun _ => opCall (f_X9_allBelow x6 l3 x10 μ) fun x15 μ13 => if x15 = 0 then ((opRv 11 μ13 l0).bind fun _ => opCall (f_X11_fail l0 (5 : Int32) μ13) fun x27 μ25 => some (x27, μ25)) else ((opGR 11 15 μ13 l0).bind fun x19 => (opRv 5 μ13 x19).bind fun _ => (f_X5_beginRow x19 μ13).bind fun μ22 => f_X11_unsaid_93 dtFuel l0 l1 l2 l3 (0 : Int32) μ22)) else ((opRv 11 μ l0).bind fun _ => opCall (f_X11_fail l0 s0 μ) fun x31 μ29 => some (x31, μ29))
set_option maxRecDepth 100000 in
def f_X11_unsaid_26 (l0 : Nat) (l1 : Int32) (l2 : Int32) (l3 : Int32) (s0 : Int32) (μ : dtM) : Option (Int32 × dtM) :=
  if s0 = 0 then (f_X11_unsaid_43 l0 l1 l2 l3 (1 : Int32) μ) else ((opRv 11 μ l0).bind fun _ => opCall (f_X11_runStatus l0 l2 l3 μ) fun x7 μ5 => f_X11_unsaid_43 l0 l1 l2 l3 x7 μ5)
set_option maxRecDepth 100000 in
def f_X11_unsaid_25 (l0 : Nat) (l1 : Int32) (l2 : Int32) (l3 : Int32) (μ : dtM) : Option (Int32 × dtM) :=
  f_X11_unsaid_26 l0 l1 l2 l3 (0 : Int32) μ
set_option maxRecDepth 100000 in
def f_X11_unsaid (p0 : Nat) (p1 : Int32) (p2 : Int32) (p3 : Int32) (μ : dtM) : Option (Int32 × dtM) :=
  (opGR 11 5 μ p0).bind fun x1 => (opRv 3 μ x1).bind fun _ => opCall (f_X3_hasPerson x1 p1 μ) fun x6 μ4 => if x6 = 0 then (f_X11_unsaid_25 p0 p1 p2 p3 μ4) else (opCall (f_X11_within p3 (0 : Int32) (6 : Int32) μ4) fun x12 μ10 => if x12 = 0 then (f_X11_unsaid_25 p0 p1 p2 p3 μ10) else (f_X11_unsaid_26 p0 p1 p2 p3 (1 : Int32) μ10))
set_option maxRecDepth 100000 in
theorem c_X11_unsaid_93 {r : Int32} {F : dtM} : ∀ (n : Nat) (l0 : Nat) (l1 : Int32) (l2 : Int32) (l3 : Int32) (l6 : Int32) (μ : dtM), f_X11_unsaid_93 n l0 l1 l2 l3 l6 μ = some (r, F) → dtW yX11_unsaid cX11_unsaid 7 (some .int) 5 (some (.int r)) F 93 [some (.ref l0), some (.int l1), some (.int l2), some (.int l3), none, none, some (.int l6)] [] μ := by
  intro n
  induction n with
  | zero => intro l0 l1 l2 l3 l6 μ h; cases h
  | succ n ih =>
    intro l0 l1 l2 l3 l6 μ h
    have h := (show f_X11_unsaid_93 (n + 1) l0 l1 l2 l3 l6 μ = some _ from h)
    rw [f_X11_unsaid_93] at h
    refine dr_iload l6 dX11_unsaid_93 rfl ?_
    refine dr_iload_n l3 dX11_unsaid_95 rfl ?_
    obtain ⟨ht2, hf3⟩ := dtIte h
    refine dr_icmp_ge 127 dX11_unsaid_96 (by decide) (fun hc1 => ?_) (fun hc1 => ?_)
    · have h := ht2 hc1
      refine dr_aload_n l0 dX11_unsaid_127 rfl ?_
      refine dr_aload_n l0 dX11_unsaid_128 rfl ?_
      obtain ⟨x4, e5, h⟩ := dtBind h
      refine dr_getR x4 dX11_unsaid_129 fl_RX11_89 e5 ?_
      refine dr_aload_n l0 dX11_unsaid_132 rfl ?_
      obtain ⟨x6, e7, h⟩ := dtBind h
      refine dr_getR x6 dX11_unsaid_133 fl_RX11_37 e7 ?_
      refine dr_aload_n l0 dX11_unsaid_136 rfl ?_
      obtain ⟨x8, e9, h⟩ := dtBind h
      refine dr_getR x8 dX11_unsaid_137 fl_RX11_37 e9 ?_
      obtain ⟨x10, e11, h⟩ := dtBind h
      refine dr_getR x10 dX11_unsaid_140 fl_RX11_259 e11 ?_
      refine dr_iload_n l1 dX11_unsaid_143 rfl ?_
      obtain ⟨x12, e13, h⟩ := dtBind h
      refine dr_iaload x12 dX11_unsaid_144 e13 ?_
      obtain ⟨_, hb14, h⟩ := dtBind h
      obtain ⟨x17, μ15, e16, h⟩ := dtCall h
      refine dr_callV_i (S0 := [.ref l0]) [.ref x6, .int x12] x17 μ15 dX11_unsaid_145 (c_X5_countReadings x4 x6 x12 μ e16) mf_X5_countReadings wt_1062 wt_1063 wt_1061 rfl (dtRv hb14) (by decide) rfl (Nat.le_of_ble_eq_true rfl) (Nat.le_of_ble_eq_true rfl) rfl ?_
      obtain ⟨_, hb18, h⟩ := dtBind h
      obtain ⟨x21, μ19, e20, h⟩ := dtCall h
      refine dr_callV_i (S0 := []) [.int x17] x21 μ19 dX11_unsaid_148 (c_X11_answer l0 x17 μ15 e20) mf_X11_answer wt_764 ws_19 wt_762 rfl (dtRv hb18) (by decide) rfl (Nat.le_of_ble_eq_true rfl) (Nat.le_of_ble_eq_true rfl) rfl ?_
      cases h
      exact dr_ireturn dX11_unsaid_151 rfl
    · have h := hf3 hc1
      refine dr_aload_n l0 dX11_unsaid_99 rfl ?_
      obtain ⟨x22, e23, h⟩ := dtBind h
      refine dr_getR x22 dX11_unsaid_100 fl_RX11_89 e23 ?_
      refine dr_aload_n l0 dX11_unsaid_103 rfl ?_
      obtain ⟨x24, e25, h⟩ := dtBind h
      refine dr_getR x24 dX11_unsaid_104 fl_RX11_37 e25 ?_
      refine dr_aload_n l0 dX11_unsaid_107 rfl ?_
      obtain ⟨x26, e27, h⟩ := dtBind h
      refine dr_getR x26 dX11_unsaid_108 fl_RX11_22 e27 ?_
      refine dr_iload_n l2 dX11_unsaid_111 rfl ?_
      obtain ⟨x28, e29, h⟩ := dtBind h
      refine dr_aaload4 x28 dX11_unsaid_112 e29 ?_
      refine dr_iload l6 dX11_unsaid_113 rfl ?_
      obtain ⟨_, hb30, h⟩ := dtBind h
      obtain ⟨x33, μ31, e32, h⟩ := dtCall h
      refine dr_callV_i (S0 := [.ref x24, .ref x22]) [.int l6] x33 μ31 dX11_unsaid_115 (c_X9_smallNumber x28 l6 μ e32) mf_X9_smallNumber wt_965 wt_966 wt_964 rfl (dtRv hb30) (by decide) rfl (Nat.le_of_ble_eq_true rfl) (Nat.le_of_ble_eq_true rfl) rfl ?_
      obtain ⟨_, hb34, h⟩ := dtBind h
      obtain ⟨μ35, e36, h⟩ := dtBind h
      refine dr_callV_v (S0 := []) [.ref x24, .int x33] μ35 dX11_unsaid_118 (c_X5_addWord x22 x24 x33 μ31 e36) mf_X5_addWord wt_1108 wt_1109 wt_1107 rfl (dtRv hb34) (by decide) rfl (Nat.le_of_ble_eq_true rfl) (Nat.le_of_ble_eq_true rfl) rfl ?_
      refine dr_iinc l6 (l6 + 1) [some (.ref l0), some (.int l1), some (.int l2), some (.int l3), none, none, some (.int (l6 + 1))] dX11_unsaid_121 rfl rfl rfl rfl rfl ?_
      refine dr_goto 93 dX11_unsaid_124 (by decide) ?_
      exact ih l0 l1 l2 l3 (l6 + 1) μ35 h
set_option maxRecDepth 100000 in
theorem c_X11_unsaid_43 {r : Int32} {F : dtM} (l0 : Nat) (l1 : Int32) (l2 : Int32) (l3 : Int32) (s0 : Int32) (μ : dtM) (h : f_X11_unsaid_43 l0 l1 l2 l3 s0 μ = some (r, F)) : dtW yX11_unsaid cX11_unsaid 7 (some .int) 5 (some (.int r)) F 43 [some (.ref l0), some (.int l1), some (.int l2), some (.int l3)] [.int s0] μ := by
  rw [f_X11_unsaid_43] at h
  refine dr_istore [some (.ref l0), some (.int l1), some (.int l2), some (.int l3), none, some (.int s0)] dX11_unsaid_43 rfl rfl rfl ?_
  refine dr_iload s0 dX11_unsaid_45 rfl ?_
  obtain ⟨ht2, hf3⟩ := dtIte h
  refine dr_if_eq 57 dX11_unsaid_47 (by decide) (fun hc1 => ?_) (fun hc1 => ?_)
  · have h := ht2 hc1
    refine dr_aload_n l0 dX11_unsaid_57 rfl ?_
    obtain ⟨x4, e5, h⟩ := dtBind h
    refine dr_getR x4 dX11_unsaid_58 fl_RX11_22 e5 ?_
    refine dr_iload_n l2 dX11_unsaid_61 rfl ?_
    obtain ⟨x6, e7, h⟩ := dtBind h
    refine dr_aaload4 x6 dX11_unsaid_62 e7 ?_
    refine dr_iload_n l3 dX11_unsaid_63 rfl ?_
    refine dr_aload_n l0 dX11_unsaid_64 rfl ?_
    obtain ⟨x8, e9, h⟩ := dtBind h
    refine dr_getR x8 dX11_unsaid_65 fl_RX11_37 e9 ?_
    obtain ⟨x10, e11, h⟩ := dtBind h
    refine dr_getI x10 dX11_unsaid_68 fl_RX11_214 e11 ?_
    obtain ⟨_, hb12, h⟩ := dtBind h
    obtain ⟨x15, μ13, e14, h⟩ := dtCall h
    refine dr_callV_i (S0 := []) [.int l3, .int x10] x15 μ13 dX11_unsaid_71 (c_X9_allBelow x6 l3 x10 μ e14) mf_X9_allBelow wt_960 wt_961 wt_959 rfl (dtRv hb12) (by decide) rfl (Nat.le_of_ble_eq_true rfl) (Nat.le_of_ble_eq_true rfl) rfl ?_
    obtain ⟨ht17, hf18⟩ := dtIte h
    refine dr_if_ne 83 dX11_unsaid_74 (by decide) (fun hc16 => ?_) (fun hc16 => ?_)
    · have h := hf18 hc16
      refine dr_aload_n l0 dX11_unsaid_83 rfl ?_
      obtain ⟨x19, e20, h⟩ := dtBind h
      refine dr_getR x19 dX11_unsaid_84 fl_RX11_89 e20 ?_
      obtain ⟨_, hb21, h⟩ := dtBind h
      obtain ⟨μ22, e23, h⟩ := dtBind h
      refine dr_callV_v (S0 := []) [] μ22 dX11_unsaid_87 (c_X5_beginRow x19 μ13 e23) mf_X5_beginRow wt_1054 wt_1055 wt_1101 rfl (dtRv hb21) (by decide) rfl (Nat.le_of_ble_eq_true rfl) (Nat.le_of_ble_eq_true rfl) rfl ?_
      refine dr_iconst (0 : Int32) dX11_unsaid_90 (by decide) ?_
      refine dr_istore [some (.ref l0), some (.int l1), some (.int l2), some (.int l3), none, some (.int s0), some (.int (0 : Int32))] dX11_unsaid_91 rfl rfl rfl ?_
      refine dr_mask [true, true, true, true, false, false, true] [some (.ref l0), some (.int l1), some (.int l2), some (.int l3), none, none, some (.int (0 : Int32))] rfl ?_
      exact c_X11_unsaid_93 dtFuel l0 l1 l2 l3 (0 : Int32) μ22 h
    · have h := ht17 hc16
      refine dr_aload_n l0 dX11_unsaid_77 rfl ?_
      refine dr_iconst (5 : Int32) dX11_unsaid_78 (by decide) ?_
      obtain ⟨_, hb24, h⟩ := dtBind h
      obtain ⟨x27, μ25, e26, h⟩ := dtCall h
      refine dr_callV_i (S0 := []) [.int (5 : Int32)] x27 μ25 dX11_unsaid_79 (c_X11_fail l0 (5 : Int32) μ13 e26) mf_X11_fail wt_510 ws_3 wt_508 rfl (dtRv hb24) (by decide) rfl (Nat.le_of_ble_eq_true rfl) (Nat.le_of_ble_eq_true rfl) rfl ?_
      cases h
      exact dr_ireturn dX11_unsaid_82 rfl
  · have h := hf3 hc1
    refine dr_aload_n l0 dX11_unsaid_50 rfl ?_
    refine dr_iload s0 dX11_unsaid_51 rfl ?_
    obtain ⟨_, hb28, h⟩ := dtBind h
    obtain ⟨x31, μ29, e30, h⟩ := dtCall h
    refine dr_callV_i (S0 := []) [.int s0] x31 μ29 dX11_unsaid_53 (c_X11_fail l0 s0 μ e30) mf_X11_fail wt_510 ws_3 wt_508 rfl (dtRv hb28) (by decide) rfl (Nat.le_of_ble_eq_true rfl) (Nat.le_of_ble_eq_true rfl) rfl ?_
    cases h
    exact dr_ireturn dX11_unsaid_56 rfl
set_option maxRecDepth 100000 in
theorem c_X11_unsaid_26 {r : Int32} {F : dtM} (l0 : Nat) (l1 : Int32) (l2 : Int32) (l3 : Int32) (s0 : Int32) (μ : dtM) (h : f_X11_unsaid_26 l0 l1 l2 l3 s0 μ = some (r, F)) : dtW yX11_unsaid cX11_unsaid 7 (some .int) 5 (some (.int r)) F 26 [some (.ref l0), some (.int l1), some (.int l2), some (.int l3)] [.int s0] μ := by
  rw [f_X11_unsaid_26] at h
  refine dr_istore [some (.ref l0), some (.int l1), some (.int l2), some (.int l3), some (.int s0)] dX11_unsaid_26 rfl rfl rfl ?_
  refine dr_iload s0 dX11_unsaid_28 rfl ?_
  obtain ⟨ht2, hf3⟩ := dtIte h
  refine dr_if_eq 42 dX11_unsaid_30 (by decide) (fun hc1 => ?_) (fun hc1 => ?_)
  · have h := ht2 hc1
    refine dr_iconst (1 : Int32) dX11_unsaid_42 (by decide) ?_
    refine dr_mask [true, true, true, true] [some (.ref l0), some (.int l1), some (.int l2), some (.int l3)] rfl ?_
    exact c_X11_unsaid_43 l0 l1 l2 l3 (1 : Int32) μ h
  · have h := hf3 hc1
    refine dr_aload_n l0 dX11_unsaid_33 rfl ?_
    refine dr_iload_n l2 dX11_unsaid_34 rfl ?_
    refine dr_iload_n l3 dX11_unsaid_35 rfl ?_
    obtain ⟨_, hb4, h⟩ := dtBind h
    obtain ⟨x7, μ5, e6, h⟩ := dtCall h
    refine dr_callV_i (S0 := []) [.int l2, .int l3] x7 μ5 dX11_unsaid_36 (c_X11_runStatus l0 l2 l3 μ e6) mf_X11_runStatus wt_957 ws_31 wt_955 rfl (dtRv hb4) (by decide) rfl (Nat.le_of_ble_eq_true rfl) (Nat.le_of_ble_eq_true rfl) rfl ?_
    refine dr_goto 43 dX11_unsaid_39 (by decide) ?_
    refine dr_mask [true, true, true, true] [some (.ref l0), some (.int l1), some (.int l2), some (.int l3)] rfl ?_
    exact c_X11_unsaid_43 l0 l1 l2 l3 x7 μ5 h
set_option maxRecDepth 100000 in
theorem c_X11_unsaid_25 {r : Int32} {F : dtM} (l0 : Nat) (l1 : Int32) (l2 : Int32) (l3 : Int32) (μ : dtM) (h : f_X11_unsaid_25 l0 l1 l2 l3 μ = some (r, F)) : dtW yX11_unsaid cX11_unsaid 7 (some .int) 5 (some (.int r)) F 25 [some (.ref l0), some (.int l1), some (.int l2), some (.int l3)] [] μ := by
  rw [f_X11_unsaid_25] at h
  refine dr_iconst (0 : Int32) dX11_unsaid_25 (by decide) ?_
  exact c_X11_unsaid_26 l0 l1 l2 l3 (0 : Int32) μ h
set_option maxRecDepth 100000 in
theorem c_X11_unsaid {r : Int32} {F : dtM} (p0 : Nat) (p1 : Int32) (p2 : Int32) (p3 : Int32) (μ : dtM) (h : f_X11_unsaid p0 p1 p2 p3 μ = some (r, F)) : dtMet yX11_unsaid cX11_unsaid 7 (some .int) 5 [.ref p0, .int p1, .int p2, .int p3] μ (some (.int r)) F := by
  refine dtMet.of (by decide +kernel) (Nat.le_of_ble_eq_true rfl) (show dtW yX11_unsaid cX11_unsaid 7 (some .int) 5 (some (.int r)) F 0 [some (.ref p0), some (.int p1), some (.int p2), some (.int p3)] [] μ from ?_)
  rw [f_X11_unsaid] at h
  refine dr_aload_n p0 dX11_unsaid_0 rfl ?_
  obtain ⟨x1, e2, h⟩ := dtBind h
  refine dr_getR x1 dX11_unsaid_1 fl_RX11_37 e2 ?_
  refine dr_iload_n p1 dX11_unsaid_4 rfl ?_
  obtain ⟨_, hb3, h⟩ := dtBind h
  obtain ⟨x6, μ4, e5, h⟩ := dtCall h
  refine dr_callV_i (S0 := []) [.int p1] x6 μ4 dX11_unsaid_5 (c_X3_hasPerson x1 p1 μ e5) mf_X3_hasPerson wt_867 wt_868 wt_866 rfl (dtRv hb3) (by decide) rfl (Nat.le_of_ble_eq_true rfl) (Nat.le_of_ble_eq_true rfl) rfl ?_
  obtain ⟨ht8, hf9⟩ := dtIte h
  refine dr_if_eq 25 dX11_unsaid_8 (by decide) (fun hc7 => ?_) (fun hc7 => ?_)
  · have h := ht8 hc7
    exact c_X11_unsaid_25 p0 p1 p2 p3 μ4 h
  · have h := hf9 hc7
    refine dr_iload_n p3 dX11_unsaid_11 rfl ?_
    refine dr_iconst (0 : Int32) dX11_unsaid_12 (by decide) ?_
    refine dr_bipush (6 : Int32) dX11_unsaid_13 (by decide) ?_
    obtain ⟨x12, μ10, e11, h⟩ := dtCall h
    refine dr_callS_i (S0 := []) [.int p3, .int (0 : Int32), .int (6 : Int32)] x12 μ10 dX11_unsaid_15 (c_X11_within p3 (0 : Int32) (6 : Int32) μ4 e11) mf_X11_within wt_478 wt_477 rfl (Nat.le_of_ble_eq_true rfl) (Nat.le_of_ble_eq_true rfl) rfl ?_
    obtain ⟨ht14, hf15⟩ := dtIte h
    refine dr_if_eq 25 dX11_unsaid_18 (by decide) (fun hc13 => ?_) (fun hc13 => ?_)
    · have h := ht14 hc13
      exact c_X11_unsaid_25 p0 p1 p2 p3 μ10 h
    · have h := hf15 hc13
      refine dr_iconst (1 : Int32) dX11_unsaid_21 (by decide) ?_
      refine dr_goto 26 dX11_unsaid_22 (by decide) ?_
      exact c_X11_unsaid_26 p0 p1 p2 p3 (1 : Int32) μ10 h
/-! X11_doubt -/
theorem dX11_doubt_0 : decode cX11_doubt 0 = .ok (.aload_n 0, 1) := by decide +kernel
theorem dX11_doubt_1 : decode cX11_doubt 1 = .ok (.getfield 37, 3) := by decide +kernel
theorem dX11_doubt_4 : decode cX11_doubt 4 = .ok (.iload_n 1, 1) := by decide +kernel
theorem dX11_doubt_5 : decode cX11_doubt 5 = .ok (.invokevirtual 250, 3) := by decide +kernel
theorem dX11_doubt_8 : decode cX11_doubt 8 = .ok (.ifCond .ne 9, 3) := by decide +kernel
theorem dX11_doubt_11 : decode cX11_doubt 11 = .ok (.aload_n 0, 1) := by decide +kernel
theorem dX11_doubt_12 : decode cX11_doubt 12 = .ok (.iconst 1, 1) := by decide +kernel
theorem dX11_doubt_13 : decode cX11_doubt 13 = .ok (.invokevirtual 138, 3) := by decide +kernel
theorem dX11_doubt_16 : decode cX11_doubt 16 = .ok (.ireturn, 1) := by decide +kernel
theorem dX11_doubt_17 : decode cX11_doubt 17 = .ok (.aload_n 0, 1) := by decide +kernel
theorem dX11_doubt_18 : decode cX11_doubt 18 = .ok (.aload_n 0, 1) := by decide +kernel
theorem dX11_doubt_19 : decode cX11_doubt 19 = .ok (.getfield 89, 3) := by decide +kernel
theorem dX11_doubt_22 : decode cX11_doubt 22 = .ok (.aload_n 0, 1) := by decide +kernel
theorem dX11_doubt_23 : decode cX11_doubt 23 = .ok (.getfield 37, 3) := by decide +kernel
theorem dX11_doubt_26 : decode cX11_doubt 26 = .ok (.aload_n 0, 1) := by decide +kernel
theorem dX11_doubt_27 : decode cX11_doubt 27 = .ok (.getfield 37, 3) := by decide +kernel
theorem dX11_doubt_30 : decode cX11_doubt 30 = .ok (.getfield 259, 3) := by decide +kernel
theorem dX11_doubt_33 : decode cX11_doubt 33 = .ok (.iload_n 1, 1) := by decide +kernel
theorem dX11_doubt_34 : decode cX11_doubt 34 = .ok (.iaload, 1) := by decide +kernel
theorem dX11_doubt_35 : decode cX11_doubt 35 = .ok (.invokevirtual 361, 3) := by decide +kernel
theorem dX11_doubt_38 : decode cX11_doubt 38 = .ok (.invokevirtual 321, 3) := by decide +kernel
theorem dX11_doubt_41 : decode cX11_doubt 41 = .ok (.ireturn, 1) := by decide +kernel
set_option maxRecDepth 100000 in
def f_X11_doubt (p0 : Nat) (p1 : Int32) (μ : dtM) : Option (Int32 × dtM) :=
  (opGR 11 5 μ p0).bind fun x1 => (opRv 3 μ x1).bind fun _ => opCall (f_X3_hasPerson x1 p1 μ) fun x6 μ4 => if x6 = 0 then ((opRv 11 μ4 p0).bind fun _ => opCall (f_X11_fail p0 (1 : Int32) μ4) fun x31 μ29 => some (x31, μ29)) else ((opGR 11 15 μ4 p0).bind fun x10 => (opGR 11 5 μ4 p0).bind fun x12 => (opGR 11 5 μ4 p0).bind fun x14 => (opGR 3 16 μ4 x14).bind fun x16 => (opLI 1 μ4 x16 p1).bind fun x18 => (opRv 5 μ4 x10).bind fun _ => opCall (f_X5_findDoubt x10 x12 x18 μ4) fun x23 μ21 => (opRv 11 μ21 p0).bind fun _ => opCall (f_X11_found p0 x23 μ21) fun x27 μ25 => some (x27, μ25))
set_option maxRecDepth 100000 in
theorem c_X11_doubt {r : Int32} {F : dtM} (p0 : Nat) (p1 : Int32) (μ : dtM) (h : f_X11_doubt p0 p1 μ = some (r, F)) : dtMet yX11_doubt cX11_doubt 2 (some .int) 48 [.ref p0, .int p1] μ (some (.int r)) F := by
  refine dtMet.of (by decide +kernel) (Nat.le_of_ble_eq_true rfl) (show dtW yX11_doubt cX11_doubt 2 (some .int) 48 (some (.int r)) F 0 [some (.ref p0), some (.int p1)] [] μ from ?_)
  rw [f_X11_doubt] at h
  refine dr_aload_n p0 dX11_doubt_0 rfl ?_
  obtain ⟨x1, e2, h⟩ := dtBind h
  refine dr_getR x1 dX11_doubt_1 fl_RX11_37 e2 ?_
  refine dr_iload_n p1 dX11_doubt_4 rfl ?_
  obtain ⟨_, hb3, h⟩ := dtBind h
  obtain ⟨x6, μ4, e5, h⟩ := dtCall h
  refine dr_callV_i (S0 := []) [.int p1] x6 μ4 dX11_doubt_5 (c_X3_hasPerson x1 p1 μ e5) mf_X3_hasPerson wt_867 wt_868 wt_866 rfl (dtRv hb3) (by decide) rfl (Nat.le_of_ble_eq_true rfl) (Nat.le_of_ble_eq_true rfl) rfl ?_
  obtain ⟨ht8, hf9⟩ := dtIte h
  refine dr_if_ne 17 dX11_doubt_8 (by decide) (fun hc7 => ?_) (fun hc7 => ?_)
  · have h := hf9 hc7
    refine dr_aload_n p0 dX11_doubt_17 rfl ?_
    refine dr_aload_n p0 dX11_doubt_18 rfl ?_
    obtain ⟨x10, e11, h⟩ := dtBind h
    refine dr_getR x10 dX11_doubt_19 fl_RX11_89 e11 ?_
    refine dr_aload_n p0 dX11_doubt_22 rfl ?_
    obtain ⟨x12, e13, h⟩ := dtBind h
    refine dr_getR x12 dX11_doubt_23 fl_RX11_37 e13 ?_
    refine dr_aload_n p0 dX11_doubt_26 rfl ?_
    obtain ⟨x14, e15, h⟩ := dtBind h
    refine dr_getR x14 dX11_doubt_27 fl_RX11_37 e15 ?_
    obtain ⟨x16, e17, h⟩ := dtBind h
    refine dr_getR x16 dX11_doubt_30 fl_RX11_259 e17 ?_
    refine dr_iload_n p1 dX11_doubt_33 rfl ?_
    obtain ⟨x18, e19, h⟩ := dtBind h
    refine dr_iaload x18 dX11_doubt_34 e19 ?_
    obtain ⟨_, hb20, h⟩ := dtBind h
    obtain ⟨x23, μ21, e22, h⟩ := dtCall h
    refine dr_callV_i (S0 := [.ref p0]) [.ref x12, .int x18] x23 μ21 dX11_doubt_35 (c_X5_findDoubt x10 x12 x18 μ4 e22) mf_X5_findDoubt wt_1116 wt_1117 wt_1115 rfl (dtRv hb20) (by decide) rfl (Nat.le_of_ble_eq_true rfl) (Nat.le_of_ble_eq_true rfl) rfl ?_
    obtain ⟨_, hb24, h⟩ := dtBind h
    obtain ⟨x27, μ25, e26, h⟩ := dtCall h
    refine dr_callV_i (S0 := []) [.int x23] x27 μ25 dX11_doubt_38 (c_X11_found p0 x23 μ21 e26) mf_X11_found wt_1001 ws_32 wt_999 rfl (dtRv hb24) (by decide) rfl (Nat.le_of_ble_eq_true rfl) (Nat.le_of_ble_eq_true rfl) rfl ?_
    cases h
    exact dr_ireturn dX11_doubt_41 rfl
  · have h := ht8 hc7
    refine dr_aload_n p0 dX11_doubt_11 rfl ?_
    refine dr_iconst (1 : Int32) dX11_doubt_12 (by decide) ?_
    obtain ⟨_, hb28, h⟩ := dtBind h
    obtain ⟨x31, μ29, e30, h⟩ := dtCall h
    refine dr_callV_i (S0 := []) [.int (1 : Int32)] x31 μ29 dX11_doubt_13 (c_X11_fail p0 (1 : Int32) μ4 e30) mf_X11_fail wt_510 ws_3 wt_508 rfl (dtRv hb28) (by decide) rfl (Nat.le_of_ble_eq_true rfl) (Nat.le_of_ble_eq_true rfl) rfl ?_
    cases h
    exact dr_ireturn dX11_doubt_16 rfl
/-! X11_doubtAt -/
theorem dX11_doubtAt_0 : decode cX11_doubtAt 0 = .ok (.aload_n 0, 1) := by decide +kernel
theorem dX11_doubtAt_1 : decode cX11_doubtAt 1 = .ok (.getfield 37, 3) := by decide +kernel
theorem dX11_doubtAt_4 : decode cX11_doubtAt 4 = .ok (.iload_n 1, 1) := by decide +kernel
theorem dX11_doubtAt_5 : decode cX11_doubtAt 5 = .ok (.invokevirtual 250, 3) := by decide +kernel
theorem dX11_doubtAt_8 : decode cX11_doubtAt 8 = .ok (.ifCond .eq 7, 3) := by decide +kernel
theorem dX11_doubtAt_11 : decode cX11_doubtAt 11 = .ok (.iload_n 2, 1) := by decide +kernel
theorem dX11_doubtAt_12 : decode cX11_doubtAt 12 = .ok (.ifCond .ge 9, 3) := by decide +kernel
theorem dX11_doubtAt_15 : decode cX11_doubtAt 15 = .ok (.aload_n 0, 1) := by decide +kernel
theorem dX11_doubtAt_16 : decode cX11_doubtAt 16 = .ok (.iconst 1, 1) := by decide +kernel
theorem dX11_doubtAt_17 : decode cX11_doubtAt 17 = .ok (.invokevirtual 138, 3) := by decide +kernel
theorem dX11_doubtAt_20 : decode cX11_doubtAt 20 = .ok (.ireturn, 1) := by decide +kernel
theorem dX11_doubtAt_21 : decode cX11_doubtAt 21 = .ok (.aload_n 0, 1) := by decide +kernel
theorem dX11_doubtAt_22 : decode cX11_doubtAt 22 = .ok (.getfield 89, 3) := by decide +kernel
theorem dX11_doubtAt_25 : decode cX11_doubtAt 25 = .ok (.aload_n 0, 1) := by decide +kernel
theorem dX11_doubtAt_26 : decode cX11_doubtAt 26 = .ok (.getfield 37, 3) := by decide +kernel
theorem dX11_doubtAt_29 : decode cX11_doubtAt 29 = .ok (.aload_n 0, 1) := by decide +kernel
theorem dX11_doubtAt_30 : decode cX11_doubtAt 30 = .ok (.getfield 37, 3) := by decide +kernel
theorem dX11_doubtAt_33 : decode cX11_doubtAt 33 = .ok (.getfield 259, 3) := by decide +kernel
theorem dX11_doubtAt_36 : decode cX11_doubtAt 36 = .ok (.iload_n 1, 1) := by decide +kernel
theorem dX11_doubtAt_37 : decode cX11_doubtAt 37 = .ok (.iaload, 1) := by decide +kernel
theorem dX11_doubtAt_38 : decode cX11_doubtAt 38 = .ok (.invokevirtual 361, 3) := by decide +kernel
theorem dX11_doubtAt_41 : decode cX11_doubtAt 41 = .ok (.istore_n 3, 1) := by decide +kernel
theorem dX11_doubtAt_42 : decode cX11_doubtAt 42 = .ok (.aload_n 0, 1) := by decide +kernel
theorem dX11_doubtAt_43 : decode cX11_doubtAt 43 = .ok (.iload_n 2, 1) := by decide +kernel
theorem dX11_doubtAt_44 : decode cX11_doubtAt 44 = .ok (.iload_n 3, 1) := by decide +kernel
theorem dX11_doubtAt_45 : decode cX11_doubtAt 45 = .ok (.if_icmp .ge 14, 3) := by decide +kernel
theorem dX11_doubtAt_48 : decode cX11_doubtAt 48 = .ok (.aload_n 0, 1) := by decide +kernel
theorem dX11_doubtAt_49 : decode cX11_doubtAt 49 = .ok (.getfield 89, 3) := by decide +kernel
theorem dX11_doubtAt_52 : decode cX11_doubtAt 52 = .ok (.iload_n 2, 1) := by decide +kernel
theorem dX11_doubtAt_53 : decode cX11_doubtAt 53 = .ok (.invokevirtual 364, 3) := by decide +kernel
theorem dX11_doubtAt_56 : decode cX11_doubtAt 56 = .ok (.goto 4, 3) := by decide +kernel
theorem dX11_doubtAt_59 : decode cX11_doubtAt 59 = .ok (.iconst (-1), 1) := by decide +kernel
theorem dX11_doubtAt_60 : decode cX11_doubtAt 60 = .ok (.invokevirtual 321, 3) := by decide +kernel
theorem dX11_doubtAt_63 : decode cX11_doubtAt 63 = .ok (.ireturn, 1) := by decide +kernel
set_option maxRecDepth 100000 in
def f_X11_doubtAt_15 (l0 : Nat) (μ : dtM) : Option (Int32 × dtM) :=
  (opRv 11 μ l0).bind fun _ => opCall (f_X11_fail l0 (1 : Int32) μ) fun x4 μ2 => some (x4, μ2)
set_option maxRecDepth 100000 in
def f_X11_doubtAt_60 (s0 : Nat) (s1 : Int32) (μ : dtM) : Option (Int32 × dtM) :=
  (opRv 11 μ s0).bind fun _ => opCall (f_X11_found s0 s1 μ) fun x4 μ2 => some (x4, μ2)
set_option maxRecDepth 100000 in
def f_X11_doubtAt (p0 : Nat) (p1 : Int32) (p2 : Int32) (μ : dtM) : Option (Int32 × dtM) :=
  (opGR 11 5 μ p0).bind fun x1 => (opRv 3 μ x1).bind fun _ => opCall (f_X3_hasPerson x1 p1 μ) fun x6 μ4 => if x6 = 0 then (f_X11_doubtAt_15 p0 μ4) else (if 0 ≤ p2 then ((opGR 11 15 μ4 p0).bind fun x13 => (opGR 11 5 μ4 p0).bind fun x15 => (opGR 11 5 μ4 p0).bind fun x17 => (opGR 3 16 μ4 x17).bind fun x19 => (opLI 1 μ4 x19 p1).bind fun x21 => (opRv 5 μ4 x13).bind fun _ => opCall (f_X5_findDoubt x13 x15 x21 μ4) fun x26 μ24 => if x26 ≤ p2 then (f_X11_doubtAt_60 p0 (-1 : Int32) μ24) else ((opGR 11 15 μ24 p0).bind fun x30 => (opRv 5 μ24 x30).bind fun _ => opCall (f_X5_soundAt x30 p2 μ24) fun x35 μ33 => f_X11_doubtAt_60 p0 x35 μ33)) else (f_X11_doubtAt_15 p0 μ4))
set_option maxRecDepth 100000 in
theorem c_X11_doubtAt_15 {r : Int32} {F : dtM} (l0 : Nat) (μ : dtM) (h : f_X11_doubtAt_15 l0 μ = some (r, F)) : dtW yX11_doubtAt cX11_doubtAt 4 (some .int) 48 (some (.int r)) F 15 [some (.ref l0)] [] μ := by
  rw [f_X11_doubtAt_15] at h
  refine dr_aload_n l0 dX11_doubtAt_15 rfl ?_
  refine dr_iconst (1 : Int32) dX11_doubtAt_16 (by decide) ?_
  obtain ⟨_, hb1, h⟩ := dtBind h
  obtain ⟨x4, μ2, e3, h⟩ := dtCall h
  refine dr_callV_i (S0 := []) [.int (1 : Int32)] x4 μ2 dX11_doubtAt_17 (c_X11_fail l0 (1 : Int32) μ e3) mf_X11_fail wt_510 ws_3 wt_508 rfl (dtRv hb1) (by decide) rfl (Nat.le_of_ble_eq_true rfl) (Nat.le_of_ble_eq_true rfl) rfl ?_
  cases h
  exact dr_ireturn dX11_doubtAt_20 rfl
set_option maxRecDepth 100000 in
theorem c_X11_doubtAt_60 {r : Int32} {F : dtM} (s0 : Nat) (s1 : Int32) (μ : dtM) (h : f_X11_doubtAt_60 s0 s1 μ = some (r, F)) : dtW yX11_doubtAt cX11_doubtAt 4 (some .int) 48 (some (.int r)) F 60 [] [.int s1, .ref s0] μ := by
  rw [f_X11_doubtAt_60] at h
  obtain ⟨_, hb1, h⟩ := dtBind h
  obtain ⟨x4, μ2, e3, h⟩ := dtCall h
  refine dr_callV_i (S0 := []) [.int s1] x4 μ2 dX11_doubtAt_60 (c_X11_found s0 s1 μ e3) mf_X11_found wt_1001 ws_32 wt_999 rfl (dtRv hb1) (by decide) rfl (Nat.le_of_ble_eq_true rfl) (Nat.le_of_ble_eq_true rfl) rfl ?_
  cases h
  exact dr_ireturn dX11_doubtAt_63 rfl
set_option maxRecDepth 100000 in
theorem c_X11_doubtAt {r : Int32} {F : dtM} (p0 : Nat) (p1 : Int32) (p2 : Int32) (μ : dtM) (h : f_X11_doubtAt p0 p1 p2 μ = some (r, F)) : dtMet yX11_doubtAt cX11_doubtAt 4 (some .int) 48 [.ref p0, .int p1, .int p2] μ (some (.int r)) F := by
  refine dtMet.of (by decide +kernel) (Nat.le_of_ble_eq_true rfl) (show dtW yX11_doubtAt cX11_doubtAt 4 (some .int) 48 (some (.int r)) F 0 [some (.ref p0), some (.int p1), some (.int p2)] [] μ from ?_)
  rw [f_X11_doubtAt] at h
  refine dr_aload_n p0 dX11_doubtAt_0 rfl ?_
  obtain ⟨x1, e2, h⟩ := dtBind h
  refine dr_getR x1 dX11_doubtAt_1 fl_RX11_37 e2 ?_
  refine dr_iload_n p1 dX11_doubtAt_4 rfl ?_
  obtain ⟨_, hb3, h⟩ := dtBind h
  obtain ⟨x6, μ4, e5, h⟩ := dtCall h
  refine dr_callV_i (S0 := []) [.int p1] x6 μ4 dX11_doubtAt_5 (c_X3_hasPerson x1 p1 μ e5) mf_X3_hasPerson wt_867 wt_868 wt_866 rfl (dtRv hb3) (by decide) rfl (Nat.le_of_ble_eq_true rfl) (Nat.le_of_ble_eq_true rfl) rfl ?_
  obtain ⟨ht8, hf9⟩ := dtIte h
  refine dr_if_eq 15 dX11_doubtAt_8 (by decide) (fun hc7 => ?_) (fun hc7 => ?_)
  · have h := ht8 hc7
    refine dr_mask [true] [some (.ref p0)] rfl ?_
    exact c_X11_doubtAt_15 p0 μ4 h
  · have h := hf9 hc7
    refine dr_iload_n p2 dX11_doubtAt_11 rfl ?_
    obtain ⟨ht11, hf12⟩ := dtIte h
    refine dr_if_ge 21 dX11_doubtAt_12 (by decide) (fun hc10 => ?_) (fun hc10 => ?_)
    · have h := ht11 hc10
      refine dr_aload_n p0 dX11_doubtAt_21 rfl ?_
      obtain ⟨x13, e14, h⟩ := dtBind h
      refine dr_getR x13 dX11_doubtAt_22 fl_RX11_89 e14 ?_
      refine dr_aload_n p0 dX11_doubtAt_25 rfl ?_
      obtain ⟨x15, e16, h⟩ := dtBind h
      refine dr_getR x15 dX11_doubtAt_26 fl_RX11_37 e16 ?_
      refine dr_aload_n p0 dX11_doubtAt_29 rfl ?_
      obtain ⟨x17, e18, h⟩ := dtBind h
      refine dr_getR x17 dX11_doubtAt_30 fl_RX11_37 e18 ?_
      obtain ⟨x19, e20, h⟩ := dtBind h
      refine dr_getR x19 dX11_doubtAt_33 fl_RX11_259 e20 ?_
      refine dr_iload_n p1 dX11_doubtAt_36 rfl ?_
      obtain ⟨x21, e22, h⟩ := dtBind h
      refine dr_iaload x21 dX11_doubtAt_37 e22 ?_
      obtain ⟨_, hb23, h⟩ := dtBind h
      obtain ⟨x26, μ24, e25, h⟩ := dtCall h
      refine dr_callV_i (S0 := []) [.ref x15, .int x21] x26 μ24 dX11_doubtAt_38 (c_X5_findDoubt x13 x15 x21 μ4 e25) mf_X5_findDoubt wt_1116 wt_1117 wt_1115 rfl (dtRv hb23) (by decide) rfl (Nat.le_of_ble_eq_true rfl) (Nat.le_of_ble_eq_true rfl) rfl ?_
      refine dr_istore_n 3 [some (.ref p0), some (.int p1), some (.int p2), some (.int x26)] dX11_doubtAt_41 rfl rfl rfl rfl ?_
      refine dr_aload_n p0 dX11_doubtAt_42 rfl ?_
      refine dr_iload_n p2 dX11_doubtAt_43 rfl ?_
      refine dr_iload_n x26 dX11_doubtAt_44 rfl ?_
      obtain ⟨ht28, hf29⟩ := dtIte h
      refine dr_icmp_ge 59 dX11_doubtAt_45 (by decide) (fun hc27 => ?_) (fun hc27 => ?_)
      · have h := ht28 hc27
        refine dr_iconst (-1 : Int32) dX11_doubtAt_59 (by decide) ?_
        refine dr_mask [] [] rfl ?_
        exact c_X11_doubtAt_60 p0 (-1 : Int32) μ24 h
      · have h := hf29 hc27
        refine dr_aload_n p0 dX11_doubtAt_48 rfl ?_
        obtain ⟨x30, e31, h⟩ := dtBind h
        refine dr_getR x30 dX11_doubtAt_49 fl_RX11_89 e31 ?_
        refine dr_iload_n p2 dX11_doubtAt_52 rfl ?_
        obtain ⟨_, hb32, h⟩ := dtBind h
        obtain ⟨x35, μ33, e34, h⟩ := dtCall h
        refine dr_callV_i (S0 := [.ref p0]) [.int p2] x35 μ33 dX11_doubtAt_53 (c_X5_soundAt x30 p2 μ24 e34) mf_X5_soundAt wt_1143 wt_1144 wt_1142 rfl (dtRv hb32) (by decide) rfl (Nat.le_of_ble_eq_true rfl) (Nat.le_of_ble_eq_true rfl) rfl ?_
        refine dr_goto 60 dX11_doubtAt_56 (by decide) ?_
        refine dr_mask [] [] rfl ?_
        exact c_X11_doubtAt_60 p0 x35 μ33 h
    · have h := hf12 hc10
      refine dr_mask [true] [some (.ref p0)] rfl ?_
      exact c_X11_doubtAt_15 p0 μ4 h
/-! X11_shared -/
theorem dX11_shared_0 : decode cX11_shared 0 = .ok (.aload_n 0, 1) := by decide +kernel
theorem dX11_shared_1 : decode cX11_shared 1 = .ok (.iload_n 1, 1) := by decide +kernel
theorem dX11_shared_2 : decode cX11_shared 2 = .ok (.iload_n 2, 1) := by decide +kernel
theorem dX11_shared_3 : decode cX11_shared 3 = .ok (.invokevirtual 333, 3) := by decide +kernel
theorem dX11_shared_6 : decode cX11_shared 6 = .ok (.ifCond .ne 9, 3) := by decide +kernel
theorem dX11_shared_9 : decode cX11_shared 9 = .ok (.aload_n 0, 1) := by decide +kernel
theorem dX11_shared_10 : decode cX11_shared 10 = .ok (.iconst 1, 1) := by decide +kernel
theorem dX11_shared_11 : decode cX11_shared 11 = .ok (.invokevirtual 138, 3) := by decide +kernel
theorem dX11_shared_14 : decode cX11_shared 14 = .ok (.ireturn, 1) := by decide +kernel
theorem dX11_shared_15 : decode cX11_shared 15 = .ok (.aload_n 0, 1) := by decide +kernel
theorem dX11_shared_16 : decode cX11_shared 16 = .ok (.aload_n 0, 1) := by decide +kernel
theorem dX11_shared_17 : decode cX11_shared 17 = .ok (.getfield 89, 3) := by decide +kernel
theorem dX11_shared_20 : decode cX11_shared 20 = .ok (.aload_n 0, 1) := by decide +kernel
theorem dX11_shared_21 : decode cX11_shared 21 = .ok (.getfield 37, 3) := by decide +kernel
theorem dX11_shared_24 : decode cX11_shared 24 = .ok (.aload_n 0, 1) := by decide +kernel
theorem dX11_shared_25 : decode cX11_shared 25 = .ok (.getfield 37, 3) := by decide +kernel
theorem dX11_shared_28 : decode cX11_shared 28 = .ok (.getfield 259, 3) := by decide +kernel
theorem dX11_shared_31 : decode cX11_shared 31 = .ok (.iload_n 1, 1) := by decide +kernel
theorem dX11_shared_32 : decode cX11_shared 32 = .ok (.iaload, 1) := by decide +kernel
theorem dX11_shared_33 : decode cX11_shared 33 = .ok (.aload_n 0, 1) := by decide +kernel
theorem dX11_shared_34 : decode cX11_shared 34 = .ok (.getfield 37, 3) := by decide +kernel
theorem dX11_shared_37 : decode cX11_shared 37 = .ok (.getfield 259, 3) := by decide +kernel
theorem dX11_shared_40 : decode cX11_shared 40 = .ok (.iload_n 2, 1) := by decide +kernel
theorem dX11_shared_41 : decode cX11_shared 41 = .ok (.iaload, 1) := by decide +kernel
theorem dX11_shared_42 : decode cX11_shared 42 = .ok (.invokevirtual 367, 3) := by decide +kernel
theorem dX11_shared_45 : decode cX11_shared 45 = .ok (.invokevirtual 192, 3) := by decide +kernel
theorem dX11_shared_48 : decode cX11_shared 48 = .ok (.ireturn, 1) := by decide +kernel
set_option maxRecDepth 100000 in
def f_X11_shared (p0 : Nat) (p1 : Int32) (p2 : Int32) (μ : dtM) : Option (Int32 × dtM) :=
  (opRv 11 μ p0).bind fun _ => opCall (f_X11_areTwo p0 p1 p2 μ) fun x4 μ2 => if x4 = 0 then ((opRv 11 μ2 p0).bind fun _ => opCall (f_X11_fail p0 (1 : Int32) μ2) fun x35 μ33 => some (x35, μ33)) else ((opGR 11 15 μ2 p0).bind fun x8 => (opGR 11 5 μ2 p0).bind fun x10 => (opGR 11 5 μ2 p0).bind fun x12 => (opGR 3 16 μ2 x12).bind fun x14 => (opLI 1 μ2 x14 p1).bind fun x16 => (opGR 11 5 μ2 p0).bind fun x18 => (opGR 3 16 μ2 x18).bind fun x20 => (opLI 1 μ2 x20 p2).bind fun x22 => (opRv 5 μ2 x8).bind fun _ => opCall (f_X5_wordsShared x8 x10 x16 x22 μ2) fun x27 μ25 => (opRv 11 μ25 p0).bind fun _ => opCall (f_X11_answer p0 x27 μ25) fun x31 μ29 => some (x31, μ29))
set_option maxRecDepth 100000 in
theorem c_X11_shared {r : Int32} {F : dtM} (p0 : Nat) (p1 : Int32) (p2 : Int32) (μ : dtM) (h : f_X11_shared p0 p1 p2 μ = some (r, F)) : dtMet yX11_shared cX11_shared 3 (some .int) 6 [.ref p0, .int p1, .int p2] μ (some (.int r)) F := by
  refine dtMet.of (by decide +kernel) (Nat.le_of_ble_eq_true rfl) (show dtW yX11_shared cX11_shared 3 (some .int) 6 (some (.int r)) F 0 [some (.ref p0), some (.int p1), some (.int p2)] [] μ from ?_)
  rw [f_X11_shared] at h
  refine dr_aload_n p0 dX11_shared_0 rfl ?_
  refine dr_iload_n p1 dX11_shared_1 rfl ?_
  refine dr_iload_n p2 dX11_shared_2 rfl ?_
  obtain ⟨_, hb1, h⟩ := dtBind h
  obtain ⟨x4, μ2, e3, h⟩ := dtCall h
  refine dr_callV_i (S0 := []) [.int p1, .int p2] x4 μ2 dX11_shared_3 (c_X11_areTwo p0 p1 p2 μ e3) mf_X11_areTwo wt_1030 ws_33 wt_1028 rfl (dtRv hb1) (by decide) rfl (Nat.le_of_ble_eq_true rfl) (Nat.le_of_ble_eq_true rfl) rfl ?_
  obtain ⟨ht6, hf7⟩ := dtIte h
  refine dr_if_ne 15 dX11_shared_6 (by decide) (fun hc5 => ?_) (fun hc5 => ?_)
  · have h := hf7 hc5
    refine dr_aload_n p0 dX11_shared_15 rfl ?_
    refine dr_aload_n p0 dX11_shared_16 rfl ?_
    obtain ⟨x8, e9, h⟩ := dtBind h
    refine dr_getR x8 dX11_shared_17 fl_RX11_89 e9 ?_
    refine dr_aload_n p0 dX11_shared_20 rfl ?_
    obtain ⟨x10, e11, h⟩ := dtBind h
    refine dr_getR x10 dX11_shared_21 fl_RX11_37 e11 ?_
    refine dr_aload_n p0 dX11_shared_24 rfl ?_
    obtain ⟨x12, e13, h⟩ := dtBind h
    refine dr_getR x12 dX11_shared_25 fl_RX11_37 e13 ?_
    obtain ⟨x14, e15, h⟩ := dtBind h
    refine dr_getR x14 dX11_shared_28 fl_RX11_259 e15 ?_
    refine dr_iload_n p1 dX11_shared_31 rfl ?_
    obtain ⟨x16, e17, h⟩ := dtBind h
    refine dr_iaload x16 dX11_shared_32 e17 ?_
    refine dr_aload_n p0 dX11_shared_33 rfl ?_
    obtain ⟨x18, e19, h⟩ := dtBind h
    refine dr_getR x18 dX11_shared_34 fl_RX11_37 e19 ?_
    obtain ⟨x20, e21, h⟩ := dtBind h
    refine dr_getR x20 dX11_shared_37 fl_RX11_259 e21 ?_
    refine dr_iload_n p2 dX11_shared_40 rfl ?_
    obtain ⟨x22, e23, h⟩ := dtBind h
    refine dr_iaload x22 dX11_shared_41 e23 ?_
    obtain ⟨_, hb24, h⟩ := dtBind h
    obtain ⟨x27, μ25, e26, h⟩ := dtCall h
    refine dr_callV_i (S0 := [.ref p0]) [.ref x10, .int x16, .int x22] x27 μ25 dX11_shared_42 (c_X5_wordsShared x8 x10 x16 x22 μ2 e26) mf_X5_wordsShared wt_1151 wt_1152 wt_1150 rfl (dtRv hb24) (by decide) rfl (Nat.le_of_ble_eq_true rfl) (Nat.le_of_ble_eq_true rfl) rfl ?_
    obtain ⟨_, hb28, h⟩ := dtBind h
    obtain ⟨x31, μ29, e30, h⟩ := dtCall h
    refine dr_callV_i (S0 := []) [.int x27] x31 μ29 dX11_shared_45 (c_X11_answer p0 x27 μ25 e30) mf_X11_answer wt_764 ws_19 wt_762 rfl (dtRv hb28) (by decide) rfl (Nat.le_of_ble_eq_true rfl) (Nat.le_of_ble_eq_true rfl) rfl ?_
    cases h
    exact dr_ireturn dX11_shared_48 rfl
  · have h := ht6 hc5
    refine dr_aload_n p0 dX11_shared_9 rfl ?_
    refine dr_iconst (1 : Int32) dX11_shared_10 (by decide) ?_
    obtain ⟨_, hb32, h⟩ := dtBind h
    obtain ⟨x35, μ33, e34, h⟩ := dtCall h
    refine dr_callV_i (S0 := []) [.int (1 : Int32)] x35 μ33 dX11_shared_11 (c_X11_fail p0 (1 : Int32) μ2 e34) mf_X11_fail wt_510 ws_3 wt_508 rfl (dtRv hb32) (by decide) rfl (Nat.le_of_ble_eq_true rfl) (Nat.le_of_ble_eq_true rfl) rfl ?_
    cases h
    exact dr_ireturn dX11_shared_14 rfl
/-! X11_far -/
theorem dX11_far_0 : decode cX11_far 0 = .ok (.aload_n 0, 1) := by decide +kernel
theorem dX11_far_1 : decode cX11_far 1 = .ok (.getfield 37, 3) := by decide +kernel
theorem dX11_far_4 : decode cX11_far 4 = .ok (.iload_n 1, 1) := by decide +kernel
theorem dX11_far_5 : decode cX11_far 5 = .ok (.invokevirtual 310, 3) := by decide +kernel
theorem dX11_far_8 : decode cX11_far 8 = .ok (.ifCond .eq 14, 3) := by decide +kernel
theorem dX11_far_11 : decode cX11_far 11 = .ok (.aload_n 0, 1) := by decide +kernel
theorem dX11_far_12 : decode cX11_far 12 = .ok (.getfield 37, 3) := by decide +kernel
theorem dX11_far_15 : decode cX11_far 15 = .ok (.iload_n 2, 1) := by decide +kernel
theorem dX11_far_16 : decode cX11_far 16 = .ok (.invokevirtual 310, 3) := by decide +kernel
theorem dX11_far_19 : decode cX11_far 19 = .ok (.ifCond .ne 9, 3) := by decide +kernel
theorem dX11_far_22 : decode cX11_far 22 = .ok (.aload_n 0, 1) := by decide +kernel
theorem dX11_far_23 : decode cX11_far 23 = .ok (.iconst 1, 1) := by decide +kernel
theorem dX11_far_24 : decode cX11_far 24 = .ok (.invokevirtual 138, 3) := by decide +kernel
theorem dX11_far_27 : decode cX11_far 27 = .ok (.ireturn, 1) := by decide +kernel
theorem dX11_far_28 : decode cX11_far 28 = .ok (.aload_n 0, 1) := by decide +kernel
theorem dX11_far_29 : decode cX11_far 29 = .ok (.aload_n 0, 1) := by decide +kernel
theorem dX11_far_30 : decode cX11_far 30 = .ok (.getfield 37, 3) := by decide +kernel
theorem dX11_far_33 : decode cX11_far 33 = .ok (.iload_n 1, 1) := by decide +kernel
theorem dX11_far_34 : decode cX11_far 34 = .ok (.iload_n 2, 1) := by decide +kernel
theorem dX11_far_35 : decode cX11_far 35 = .ok (.invokestatic 370, 3) := by decide +kernel
theorem dX11_far_38 : decode cX11_far 38 = .ok (.invokevirtual 321, 3) := by decide +kernel
theorem dX11_far_41 : decode cX11_far 41 = .ok (.ireturn, 1) := by decide +kernel
set_option maxRecDepth 100000 in
def f_X11_far_22 (l0 : Nat) (μ : dtM) : Option (Int32 × dtM) :=
  (opRv 11 μ l0).bind fun _ => opCall (f_X11_fail l0 (1 : Int32) μ) fun x4 μ2 => some (x4, μ2)
set_option maxRecDepth 100000 in
def f_X11_far (p0 : Nat) (p1 : Int32) (p2 : Int32) (μ : dtM) : Option (Int32 × dtM) :=
  (opGR 11 5 μ p0).bind fun x1 => (opRv 3 μ x1).bind fun _ => opCall (f_X3_hasRoom x1 p1 μ) fun x6 μ4 => if x6 = 0 then (f_X11_far_22 p0 μ4) else ((opGR 11 5 μ4 p0).bind fun x10 => (opRv 3 μ4 x10).bind fun _ => opCall (f_X3_hasRoom x10 p2 μ4) fun x15 μ13 => if x15 = 0 then (f_X11_far_22 p0 μ13) else ((opGR 11 5 μ13 p0).bind fun x19 => opCall (f_X10_distance x19 p1 p2 μ13) fun x23 μ21 => (opRv 11 μ21 p0).bind fun _ => opCall (f_X11_found p0 x23 μ21) fun x27 μ25 => some (x27, μ25)))
set_option maxRecDepth 100000 in
theorem c_X11_far_22 {r : Int32} {F : dtM} (l0 : Nat) (μ : dtM) (h : f_X11_far_22 l0 μ = some (r, F)) : dtW yX11_far cX11_far 3 (some .int) 4 (some (.int r)) F 22 [some (.ref l0)] [] μ := by
  rw [f_X11_far_22] at h
  refine dr_aload_n l0 dX11_far_22 rfl ?_
  refine dr_iconst (1 : Int32) dX11_far_23 (by decide) ?_
  obtain ⟨_, hb1, h⟩ := dtBind h
  obtain ⟨x4, μ2, e3, h⟩ := dtCall h
  refine dr_callV_i (S0 := []) [.int (1 : Int32)] x4 μ2 dX11_far_24 (c_X11_fail l0 (1 : Int32) μ e3) mf_X11_fail wt_510 ws_3 wt_508 rfl (dtRv hb1) (by decide) rfl (Nat.le_of_ble_eq_true rfl) (Nat.le_of_ble_eq_true rfl) rfl ?_
  cases h
  exact dr_ireturn dX11_far_27 rfl
set_option maxRecDepth 100000 in
theorem c_X11_far {r : Int32} {F : dtM} (p0 : Nat) (p1 : Int32) (p2 : Int32) (μ : dtM) (h : f_X11_far p0 p1 p2 μ = some (r, F)) : dtMet yX11_far cX11_far 3 (some .int) 4 [.ref p0, .int p1, .int p2] μ (some (.int r)) F := by
  refine dtMet.of (by decide +kernel) (Nat.le_of_ble_eq_true rfl) (show dtW yX11_far cX11_far 3 (some .int) 4 (some (.int r)) F 0 [some (.ref p0), some (.int p1), some (.int p2)] [] μ from ?_)
  rw [f_X11_far] at h
  refine dr_aload_n p0 dX11_far_0 rfl ?_
  obtain ⟨x1, e2, h⟩ := dtBind h
  refine dr_getR x1 dX11_far_1 fl_RX11_37 e2 ?_
  refine dr_iload_n p1 dX11_far_4 rfl ?_
  obtain ⟨_, hb3, h⟩ := dtBind h
  obtain ⟨x6, μ4, e5, h⟩ := dtCall h
  refine dr_callV_i (S0 := []) [.int p1] x6 μ4 dX11_far_5 (c_X3_hasRoom x1 p1 μ e5) mf_X3_hasRoom wt_975 wt_976 wt_974 rfl (dtRv hb3) (by decide) rfl (Nat.le_of_ble_eq_true rfl) (Nat.le_of_ble_eq_true rfl) rfl ?_
  obtain ⟨ht8, hf9⟩ := dtIte h
  refine dr_if_eq 22 dX11_far_8 (by decide) (fun hc7 => ?_) (fun hc7 => ?_)
  · have h := ht8 hc7
    refine dr_mask [true] [some (.ref p0)] rfl ?_
    exact c_X11_far_22 p0 μ4 h
  · have h := hf9 hc7
    refine dr_aload_n p0 dX11_far_11 rfl ?_
    obtain ⟨x10, e11, h⟩ := dtBind h
    refine dr_getR x10 dX11_far_12 fl_RX11_37 e11 ?_
    refine dr_iload_n p2 dX11_far_15 rfl ?_
    obtain ⟨_, hb12, h⟩ := dtBind h
    obtain ⟨x15, μ13, e14, h⟩ := dtCall h
    refine dr_callV_i (S0 := []) [.int p2] x15 μ13 dX11_far_16 (c_X3_hasRoom x10 p2 μ4 e14) mf_X3_hasRoom wt_975 wt_976 wt_974 rfl (dtRv hb12) (by decide) rfl (Nat.le_of_ble_eq_true rfl) (Nat.le_of_ble_eq_true rfl) rfl ?_
    obtain ⟨ht17, hf18⟩ := dtIte h
    refine dr_if_ne 28 dX11_far_19 (by decide) (fun hc16 => ?_) (fun hc16 => ?_)
    · have h := hf18 hc16
      refine dr_aload_n p0 dX11_far_28 rfl ?_
      refine dr_aload_n p0 dX11_far_29 rfl ?_
      obtain ⟨x19, e20, h⟩ := dtBind h
      refine dr_getR x19 dX11_far_30 fl_RX11_37 e20 ?_
      refine dr_iload_n p1 dX11_far_33 rfl ?_
      refine dr_iload_n p2 dX11_far_34 rfl ?_
      obtain ⟨x23, μ21, e22, h⟩ := dtCall h
      refine dr_callS_i (S0 := [.ref p0]) [.ref x19, .int p1, .int p2] x23 μ21 dX11_far_35 (c_X10_distance x19 p1 p2 μ13 e22) mf_X10_distance wt_1160 wt_1159 rfl (Nat.le_of_ble_eq_true rfl) (Nat.le_of_ble_eq_true rfl) rfl ?_
      obtain ⟨_, hb24, h⟩ := dtBind h
      obtain ⟨x27, μ25, e26, h⟩ := dtCall h
      refine dr_callV_i (S0 := []) [.int x23] x27 μ25 dX11_far_38 (c_X11_found p0 x23 μ21 e26) mf_X11_found wt_1001 ws_32 wt_999 rfl (dtRv hb24) (by decide) rfl (Nat.le_of_ble_eq_true rfl) (Nat.le_of_ble_eq_true rfl) rfl ?_
      cases h
      exact dr_ireturn dX11_far_41 rfl
    · have h := ht17 hc16
      refine dr_mask [true] [some (.ref p0)] rfl ?_
      exact c_X11_far_22 p0 μ13 h
/-! X11_way -/
theorem dX11_way_0 : decode cX11_way 0 = .ok (.aload_n 0, 1) := by decide +kernel
theorem dX11_way_1 : decode cX11_way 1 = .ok (.getfield 37, 3) := by decide +kernel
theorem dX11_way_4 : decode cX11_way 4 = .ok (.iload_n 1, 1) := by decide +kernel
theorem dX11_way_5 : decode cX11_way 5 = .ok (.invokevirtual 310, 3) := by decide +kernel
theorem dX11_way_8 : decode cX11_way 8 = .ok (.ifCond .eq 18, 3) := by decide +kernel
theorem dX11_way_11 : decode cX11_way 11 = .ok (.aload_n 0, 1) := by decide +kernel
theorem dX11_way_12 : decode cX11_way 12 = .ok (.getfield 37, 3) := by decide +kernel
theorem dX11_way_15 : decode cX11_way 15 = .ok (.iload_n 2, 1) := by decide +kernel
theorem dX11_way_16 : decode cX11_way 16 = .ok (.invokevirtual 310, 3) := by decide +kernel
theorem dX11_way_19 : decode cX11_way 19 = .ok (.ifCond .eq 7, 3) := by decide +kernel
theorem dX11_way_22 : decode cX11_way 22 = .ok (.iload_n 3, 1) := by decide +kernel
theorem dX11_way_23 : decode cX11_way 23 = .ok (.ifCond .ge 9, 3) := by decide +kernel
theorem dX11_way_26 : decode cX11_way 26 = .ok (.aload_n 0, 1) := by decide +kernel
theorem dX11_way_27 : decode cX11_way 27 = .ok (.iconst 1, 1) := by decide +kernel
theorem dX11_way_28 : decode cX11_way 28 = .ok (.invokevirtual 138, 3) := by decide +kernel
theorem dX11_way_31 : decode cX11_way 31 = .ok (.ireturn, 1) := by decide +kernel
theorem dX11_way_32 : decode cX11_way 32 = .ok (.aload_n 0, 1) := by decide +kernel
theorem dX11_way_33 : decode cX11_way 33 = .ok (.aload_n 0, 1) := by decide +kernel
theorem dX11_way_34 : decode cX11_way 34 = .ok (.getfield 37, 3) := by decide +kernel
theorem dX11_way_37 : decode cX11_way 37 = .ok (.iload_n 1, 1) := by decide +kernel
theorem dX11_way_38 : decode cX11_way 38 = .ok (.iload_n 2, 1) := by decide +kernel
theorem dX11_way_39 : decode cX11_way 39 = .ok (.iload_n 3, 1) := by decide +kernel
theorem dX11_way_40 : decode cX11_way 40 = .ok (.invokestatic 373, 3) := by decide +kernel
theorem dX11_way_43 : decode cX11_way 43 = .ok (.invokevirtual 321, 3) := by decide +kernel
theorem dX11_way_46 : decode cX11_way 46 = .ok (.ireturn, 1) := by decide +kernel
set_option maxRecDepth 100000 in
def f_X11_way_26 (l0 : Nat) (μ : dtM) : Option (Int32 × dtM) :=
  (opRv 11 μ l0).bind fun _ => opCall (f_X11_fail l0 (1 : Int32) μ) fun x4 μ2 => some (x4, μ2)
set_option maxRecDepth 100000 in
def f_X11_way (p0 : Nat) (p1 : Int32) (p2 : Int32) (p3 : Int32) (μ : dtM) : Option (Int32 × dtM) :=
  (opGR 11 5 μ p0).bind fun x1 => (opRv 3 μ x1).bind fun _ => opCall (f_X3_hasRoom x1 p1 μ) fun x6 μ4 => if x6 = 0 then (f_X11_way_26 p0 μ4) else ((opGR 11 5 μ4 p0).bind fun x10 => (opRv 3 μ4 x10).bind fun _ => opCall (f_X3_hasRoom x10 p2 μ4) fun x15 μ13 => if x15 = 0 then (f_X11_way_26 p0 μ13) else (if 0 ≤ p3 then ((opGR 11 5 μ13 p0).bind fun x22 => opCall (f_X10_roomOnWay x22 p1 p2 p3 μ13) fun x26 μ24 => (opRv 11 μ24 p0).bind fun _ => opCall (f_X11_found p0 x26 μ24) fun x30 μ28 => some (x30, μ28)) else (f_X11_way_26 p0 μ13)))
set_option maxRecDepth 100000 in
theorem c_X11_way_26 {r : Int32} {F : dtM} (l0 : Nat) (μ : dtM) (h : f_X11_way_26 l0 μ = some (r, F)) : dtW yX11_way cX11_way 4 (some .int) 6 (some (.int r)) F 26 [some (.ref l0)] [] μ := by
  rw [f_X11_way_26] at h
  refine dr_aload_n l0 dX11_way_26 rfl ?_
  refine dr_iconst (1 : Int32) dX11_way_27 (by decide) ?_
  obtain ⟨_, hb1, h⟩ := dtBind h
  obtain ⟨x4, μ2, e3, h⟩ := dtCall h
  refine dr_callV_i (S0 := []) [.int (1 : Int32)] x4 μ2 dX11_way_28 (c_X11_fail l0 (1 : Int32) μ e3) mf_X11_fail wt_510 ws_3 wt_508 rfl (dtRv hb1) (by decide) rfl (Nat.le_of_ble_eq_true rfl) (Nat.le_of_ble_eq_true rfl) rfl ?_
  cases h
  exact dr_ireturn dX11_way_31 rfl
set_option maxRecDepth 100000 in
theorem c_X11_way {r : Int32} {F : dtM} (p0 : Nat) (p1 : Int32) (p2 : Int32) (p3 : Int32) (μ : dtM) (h : f_X11_way p0 p1 p2 p3 μ = some (r, F)) : dtMet yX11_way cX11_way 4 (some .int) 6 [.ref p0, .int p1, .int p2, .int p3] μ (some (.int r)) F := by
  refine dtMet.of (by decide +kernel) (Nat.le_of_ble_eq_true rfl) (show dtW yX11_way cX11_way 4 (some .int) 6 (some (.int r)) F 0 [some (.ref p0), some (.int p1), some (.int p2), some (.int p3)] [] μ from ?_)
  rw [f_X11_way] at h
  refine dr_aload_n p0 dX11_way_0 rfl ?_
  obtain ⟨x1, e2, h⟩ := dtBind h
  refine dr_getR x1 dX11_way_1 fl_RX11_37 e2 ?_
  refine dr_iload_n p1 dX11_way_4 rfl ?_
  obtain ⟨_, hb3, h⟩ := dtBind h
  obtain ⟨x6, μ4, e5, h⟩ := dtCall h
  refine dr_callV_i (S0 := []) [.int p1] x6 μ4 dX11_way_5 (c_X3_hasRoom x1 p1 μ e5) mf_X3_hasRoom wt_975 wt_976 wt_974 rfl (dtRv hb3) (by decide) rfl (Nat.le_of_ble_eq_true rfl) (Nat.le_of_ble_eq_true rfl) rfl ?_
  obtain ⟨ht8, hf9⟩ := dtIte h
  refine dr_if_eq 26 dX11_way_8 (by decide) (fun hc7 => ?_) (fun hc7 => ?_)
  · have h := ht8 hc7
    refine dr_mask [true] [some (.ref p0)] rfl ?_
    exact c_X11_way_26 p0 μ4 h
  · have h := hf9 hc7
    refine dr_aload_n p0 dX11_way_11 rfl ?_
    obtain ⟨x10, e11, h⟩ := dtBind h
    refine dr_getR x10 dX11_way_12 fl_RX11_37 e11 ?_
    refine dr_iload_n p2 dX11_way_15 rfl ?_
    obtain ⟨_, hb12, h⟩ := dtBind h
    obtain ⟨x15, μ13, e14, h⟩ := dtCall h
    refine dr_callV_i (S0 := []) [.int p2] x15 μ13 dX11_way_16 (c_X3_hasRoom x10 p2 μ4 e14) mf_X3_hasRoom wt_975 wt_976 wt_974 rfl (dtRv hb12) (by decide) rfl (Nat.le_of_ble_eq_true rfl) (Nat.le_of_ble_eq_true rfl) rfl ?_
    obtain ⟨ht17, hf18⟩ := dtIte h
    refine dr_if_eq 26 dX11_way_19 (by decide) (fun hc16 => ?_) (fun hc16 => ?_)
    · have h := ht17 hc16
      refine dr_mask [true] [some (.ref p0)] rfl ?_
      exact c_X11_way_26 p0 μ13 h
    · have h := hf18 hc16
      refine dr_iload_n p3 dX11_way_22 rfl ?_
      obtain ⟨ht20, hf21⟩ := dtIte h
      refine dr_if_ge 32 dX11_way_23 (by decide) (fun hc19 => ?_) (fun hc19 => ?_)
      · have h := ht20 hc19
        refine dr_aload_n p0 dX11_way_32 rfl ?_
        refine dr_aload_n p0 dX11_way_33 rfl ?_
        obtain ⟨x22, e23, h⟩ := dtBind h
        refine dr_getR x22 dX11_way_34 fl_RX11_37 e23 ?_
        refine dr_iload_n p1 dX11_way_37 rfl ?_
        refine dr_iload_n p2 dX11_way_38 rfl ?_
        refine dr_iload_n p3 dX11_way_39 rfl ?_
        obtain ⟨x26, μ24, e25, h⟩ := dtCall h
        refine dr_callS_i (S0 := [.ref p0]) [.ref x22, .int p1, .int p2, .int p3] x26 μ24 dX11_way_40 (c_X10_roomOnWay x22 p1 p2 p3 μ13 e25) mf_X10_roomOnWay wt_1167 wt_1166 rfl (Nat.le_of_ble_eq_true rfl) (Nat.le_of_ble_eq_true rfl) rfl ?_
        obtain ⟨_, hb27, h⟩ := dtBind h
        obtain ⟨x30, μ28, e29, h⟩ := dtCall h
        refine dr_callV_i (S0 := []) [.int x26] x30 μ28 dX11_way_43 (c_X11_found p0 x26 μ24 e29) mf_X11_found wt_1001 ws_32 wt_999 rfl (dtRv hb27) (by decide) rfl (Nat.le_of_ble_eq_true rfl) (Nat.le_of_ble_eq_true rfl) rfl ?_
        cases h
        exact dr_ireturn dX11_way_46 rfl
      · have h := hf21 hc19
        refine dr_mask [true] [some (.ref p0)] rfl ?_
        exact c_X11_way_26 p0 μ13 h
/-! X11_part -/
theorem dX11_part_0 : decode cX11_part 0 = .ok (.aload_n 0, 1) := by decide +kernel
theorem dX11_part_1 : decode cX11_part 1 = .ok (.getfield 37, 3) := by decide +kernel
theorem dX11_part_4 : decode cX11_part 4 = .ok (.iload_n 1, 1) := by decide +kernel
theorem dX11_part_5 : decode cX11_part 5 = .ok (.invokevirtual 310, 3) := by decide +kernel
theorem dX11_part_8 : decode cX11_part 8 = .ok (.ifCond .ne 9, 3) := by decide +kernel
theorem dX11_part_11 : decode cX11_part 11 = .ok (.aload_n 0, 1) := by decide +kernel
theorem dX11_part_12 : decode cX11_part 12 = .ok (.iconst 1, 1) := by decide +kernel
theorem dX11_part_13 : decode cX11_part 13 = .ok (.invokevirtual 138, 3) := by decide +kernel
theorem dX11_part_16 : decode cX11_part 16 = .ok (.ireturn, 1) := by decide +kernel
theorem dX11_part_17 : decode cX11_part 17 = .ok (.aload_n 0, 1) := by decide +kernel
theorem dX11_part_18 : decode cX11_part 18 = .ok (.aload_n 0, 1) := by decide +kernel
theorem dX11_part_19 : decode cX11_part 19 = .ok (.getfield 37, 3) := by decide +kernel
theorem dX11_part_22 : decode cX11_part 22 = .ok (.aload_n 0, 1) := by decide +kernel
theorem dX11_part_23 : decode cX11_part 23 = .ok (.getfield 37, 3) := by decide +kernel
theorem dX11_part_26 : decode cX11_part 26 = .ok (.getfield 220, 3) := by decide +kernel
theorem dX11_part_29 : decode cX11_part 29 = .ok (.iconst 1, 1) := by decide +kernel
theorem dX11_part_30 : decode cX11_part 30 = .ok (.iload_n 1, 1) := by decide +kernel
theorem dX11_part_31 : decode cX11_part 31 = .ok (.ishl, 1) := by decide +kernel
theorem dX11_part_32 : decode cX11_part 32 = .ok (.invokestatic 376, 3) := by decide +kernel
theorem dX11_part_35 : decode cX11_part 35 = .ok (.invokevirtual 192, 3) := by decide +kernel
theorem dX11_part_38 : decode cX11_part 38 = .ok (.ireturn, 1) := by decide +kernel
set_option maxRecDepth 100000 in
def f_X11_part (p0 : Nat) (p1 : Int32) (μ : dtM) : Option (Int32 × dtM) :=
  (opGR 11 5 μ p0).bind fun x1 => (opRv 3 μ x1).bind fun _ => opCall (f_X3_hasRoom x1 p1 μ) fun x6 μ4 => if x6 = 0 then ((opRv 11 μ4 p0).bind fun _ => opCall (f_X11_fail p0 (1 : Int32) μ4) fun x26 μ24 => some (x26, μ24)) else ((opGR 11 5 μ4 p0).bind fun x10 => (opGR 11 5 μ4 p0).bind fun x12 => (opGI 3 5 μ4 x12).bind fun x14 => opCall (f_X10_reach x10 x14 ((1 : Int32) <<< (p1 &&& 31)) μ4) fun x18 μ16 => (opRv 11 μ16 p0).bind fun _ => opCall (f_X11_answer p0 x18 μ16) fun x22 μ20 => some (x22, μ20))
set_option maxRecDepth 100000 in
theorem c_X11_part {r : Int32} {F : dtM} (p0 : Nat) (p1 : Int32) (μ : dtM) (h : f_X11_part p0 p1 μ = some (r, F)) : dtMet yX11_part cX11_part 2 (some .int) 4 [.ref p0, .int p1] μ (some (.int r)) F := by
  refine dtMet.of (by decide +kernel) (Nat.le_of_ble_eq_true rfl) (show dtW yX11_part cX11_part 2 (some .int) 4 (some (.int r)) F 0 [some (.ref p0), some (.int p1)] [] μ from ?_)
  rw [f_X11_part] at h
  refine dr_aload_n p0 dX11_part_0 rfl ?_
  obtain ⟨x1, e2, h⟩ := dtBind h
  refine dr_getR x1 dX11_part_1 fl_RX11_37 e2 ?_
  refine dr_iload_n p1 dX11_part_4 rfl ?_
  obtain ⟨_, hb3, h⟩ := dtBind h
  obtain ⟨x6, μ4, e5, h⟩ := dtCall h
  refine dr_callV_i (S0 := []) [.int p1] x6 μ4 dX11_part_5 (c_X3_hasRoom x1 p1 μ e5) mf_X3_hasRoom wt_975 wt_976 wt_974 rfl (dtRv hb3) (by decide) rfl (Nat.le_of_ble_eq_true rfl) (Nat.le_of_ble_eq_true rfl) rfl ?_
  obtain ⟨ht8, hf9⟩ := dtIte h
  refine dr_if_ne 17 dX11_part_8 (by decide) (fun hc7 => ?_) (fun hc7 => ?_)
  · have h := hf9 hc7
    refine dr_aload_n p0 dX11_part_17 rfl ?_
    refine dr_aload_n p0 dX11_part_18 rfl ?_
    obtain ⟨x10, e11, h⟩ := dtBind h
    refine dr_getR x10 dX11_part_19 fl_RX11_37 e11 ?_
    refine dr_aload_n p0 dX11_part_22 rfl ?_
    obtain ⟨x12, e13, h⟩ := dtBind h
    refine dr_getR x12 dX11_part_23 fl_RX11_37 e13 ?_
    obtain ⟨x14, e15, h⟩ := dtBind h
    refine dr_getI x14 dX11_part_26 fl_RX11_220 e15 ?_
    refine dr_iconst (1 : Int32) dX11_part_29 (by decide) ?_
    refine dr_iload_n p1 dX11_part_30 rfl ?_
    refine dr_ishl dX11_part_31 ?_
    obtain ⟨x18, μ16, e17, h⟩ := dtCall h
    refine dr_callS_i (S0 := [.ref p0]) [.ref x10, .int x14, .int ((1 : Int32) <<< (p1 &&& 31))] x18 μ16 dX11_part_32 (c_X10_reach x10 x14 ((1 : Int32) <<< (p1 &&& 31)) μ4 e17) mf_X10_reach wt_1037 wt_1177 rfl (Nat.le_of_ble_eq_true rfl) (Nat.le_of_ble_eq_true rfl) rfl ?_
    obtain ⟨_, hb19, h⟩ := dtBind h
    obtain ⟨x22, μ20, e21, h⟩ := dtCall h
    refine dr_callV_i (S0 := []) [.int x18] x22 μ20 dX11_part_35 (c_X11_answer p0 x18 μ16 e21) mf_X11_answer wt_764 ws_19 wt_762 rfl (dtRv hb19) (by decide) rfl (Nat.le_of_ble_eq_true rfl) (Nat.le_of_ble_eq_true rfl) rfl ?_
    cases h
    exact dr_ireturn dX11_part_38 rfl
  · have h := ht8 hc7
    refine dr_aload_n p0 dX11_part_11 rfl ?_
    refine dr_iconst (1 : Int32) dX11_part_12 (by decide) ?_
    obtain ⟨_, hb23, h⟩ := dtBind h
    obtain ⟨x26, μ24, e25, h⟩ := dtCall h
    refine dr_callV_i (S0 := []) [.int (1 : Int32)] x26 μ24 dX11_part_13 (c_X11_fail p0 (1 : Int32) μ4 e25) mf_X11_fail wt_510 ws_3 wt_508 rfl (dtRv hb23) (by decide) rfl (Nat.le_of_ble_eq_true rfl) (Nat.le_of_ble_eq_true rfl) rfl ?_
    cases h
    exact dr_ireturn dX11_part_16 rfl
/-! X11_apart -/
theorem dX11_apart_0 : decode cX11_apart 0 = .ok (.aload_n 0, 1) := by decide +kernel
theorem dX11_apart_1 : decode cX11_apart 1 = .ok (.iload_n 1, 1) := by decide +kernel
theorem dX11_apart_2 : decode cX11_apart 2 = .ok (.iload_n 2, 1) := by decide +kernel
theorem dX11_apart_3 : decode cX11_apart 3 = .ok (.invokevirtual 333, 3) := by decide +kernel
theorem dX11_apart_6 : decode cX11_apart 6 = .ok (.ifCond .ne 9, 3) := by decide +kernel
theorem dX11_apart_9 : decode cX11_apart 9 = .ok (.aload_n 0, 1) := by decide +kernel
theorem dX11_apart_10 : decode cX11_apart 10 = .ok (.iconst 1, 1) := by decide +kernel
theorem dX11_apart_11 : decode cX11_apart 11 = .ok (.invokevirtual 138, 3) := by decide +kernel
theorem dX11_apart_14 : decode cX11_apart 14 = .ok (.ireturn, 1) := by decide +kernel
theorem dX11_apart_15 : decode cX11_apart 15 = .ok (.aload_n 0, 1) := by decide +kernel
theorem dX11_apart_16 : decode cX11_apart 16 = .ok (.getfield 37, 3) := by decide +kernel
theorem dX11_apart_19 : decode cX11_apart 19 = .ok (.aload_n 0, 1) := by decide +kernel
theorem dX11_apart_20 : decode cX11_apart 20 = .ok (.getfield 37, 3) := by decide +kernel
theorem dX11_apart_23 : decode cX11_apart 23 = .ok (.getfield 253, 3) := by decide +kernel
theorem dX11_apart_26 : decode cX11_apart 26 = .ok (.iload_n 1, 1) := by decide +kernel
theorem dX11_apart_27 : decode cX11_apart 27 = .ok (.iaload, 1) := by decide +kernel
theorem dX11_apart_28 : decode cX11_apart 28 = .ok (.aload_n 0, 1) := by decide +kernel
theorem dX11_apart_29 : decode cX11_apart 29 = .ok (.getfield 37, 3) := by decide +kernel
theorem dX11_apart_32 : decode cX11_apart 32 = .ok (.getfield 253, 3) := by decide +kernel
theorem dX11_apart_35 : decode cX11_apart 35 = .ok (.iload_n 2, 1) := by decide +kernel
theorem dX11_apart_36 : decode cX11_apart 36 = .ok (.iaload, 1) := by decide +kernel
theorem dX11_apart_37 : decode cX11_apart 37 = .ok (.invokestatic 379, 3) := by decide +kernel
theorem dX11_apart_40 : decode cX11_apart 40 = .ok (.istore_n 3, 1) := by decide +kernel
theorem dX11_apart_41 : decode cX11_apart 41 = .ok (.aload_n 0, 1) := by decide +kernel
theorem dX11_apart_42 : decode cX11_apart 42 = .ok (.iload_n 3, 1) := by decide +kernel
theorem dX11_apart_43 : decode cX11_apart 43 = .ok (.iconst (-1), 1) := by decide +kernel
theorem dX11_apart_44 : decode cX11_apart 44 = .ok (.if_icmp .ne 7, 3) := by decide +kernel
theorem dX11_apart_47 : decode cX11_apart 47 = .ok (.iconst (-1), 1) := by decide +kernel
theorem dX11_apart_48 : decode cX11_apart 48 = .ok (.goto 7, 3) := by decide +kernel
theorem dX11_apart_51 : decode cX11_apart 51 = .ok (.iload_n 3, 1) := by decide +kernel
theorem dX11_apart_52 : decode cX11_apart 52 = .ok (.invokestatic 281, 3) := by decide +kernel
theorem dX11_apart_55 : decode cX11_apart 55 = .ok (.invokevirtual 321, 3) := by decide +kernel
theorem dX11_apart_58 : decode cX11_apart 58 = .ok (.ireturn, 1) := by decide +kernel
set_option maxRecDepth 100000 in
def f_X11_apart_55 (s0 : Nat) (s1 : Int32) (μ : dtM) : Option (Int32 × dtM) :=
  (opRv 11 μ s0).bind fun _ => opCall (f_X11_found s0 s1 μ) fun x4 μ2 => some (x4, μ2)
set_option maxRecDepth 100000 in
def f_X11_apart (p0 : Nat) (p1 : Int32) (p2 : Int32) (μ : dtM) : Option (Int32 × dtM) :=
  (opRv 11 μ p0).bind fun _ => opCall (f_X11_areTwo p0 p1 p2 μ) fun x4 μ2 => if x4 = 0 then ((opRv 11 μ2 p0).bind fun _ => opCall (f_X11_fail p0 (1 : Int32) μ2) fun x34 μ32 => some (x34, μ32)) else ((opGR 11 5 μ2 p0).bind fun x8 => (opGR 11 5 μ2 p0).bind fun x10 => (opGR 3 14 μ2 x10).bind fun x12 => (opLI 1 μ2 x12 p1).bind fun x14 => (opGR 11 5 μ2 p0).bind fun x16 => (opGR 3 14 μ2 x16).bind fun x18 => (opLI 1 μ2 x18 p2).bind fun x20 => opCall (f_X10_doorsThatPart x8 x14 x20 μ2) fun x24 μ22 => if x24 = (-1 : Int32) then (f_X11_apart_55 p0 (-1 : Int32) μ22) else (opCall (f_J6_bitCount_0f7a4 x24 μ22) fun x30 μ28 => f_X11_apart_55 p0 x30 μ28))
set_option maxRecDepth 100000 in
theorem c_X11_apart_55 {r : Int32} {F : dtM} (s0 : Nat) (s1 : Int32) (μ : dtM) (h : f_X11_apart_55 s0 s1 μ = some (r, F)) : dtW yX11_apart cX11_apart 4 (some .int) 5 (some (.int r)) F 55 [] [.int s1, .ref s0] μ := by
  rw [f_X11_apart_55] at h
  obtain ⟨_, hb1, h⟩ := dtBind h
  obtain ⟨x4, μ2, e3, h⟩ := dtCall h
  refine dr_callV_i (S0 := []) [.int s1] x4 μ2 dX11_apart_55 (c_X11_found s0 s1 μ e3) mf_X11_found wt_1001 ws_32 wt_999 rfl (dtRv hb1) (by decide) rfl (Nat.le_of_ble_eq_true rfl) (Nat.le_of_ble_eq_true rfl) rfl ?_
  cases h
  exact dr_ireturn dX11_apart_58 rfl
set_option maxRecDepth 100000 in
theorem c_X11_apart {r : Int32} {F : dtM} (p0 : Nat) (p1 : Int32) (p2 : Int32) (μ : dtM) (h : f_X11_apart p0 p1 p2 μ = some (r, F)) : dtMet yX11_apart cX11_apart 4 (some .int) 5 [.ref p0, .int p1, .int p2] μ (some (.int r)) F := by
  refine dtMet.of (by decide +kernel) (Nat.le_of_ble_eq_true rfl) (show dtW yX11_apart cX11_apart 4 (some .int) 5 (some (.int r)) F 0 [some (.ref p0), some (.int p1), some (.int p2)] [] μ from ?_)
  rw [f_X11_apart] at h
  refine dr_aload_n p0 dX11_apart_0 rfl ?_
  refine dr_iload_n p1 dX11_apart_1 rfl ?_
  refine dr_iload_n p2 dX11_apart_2 rfl ?_
  obtain ⟨_, hb1, h⟩ := dtBind h
  obtain ⟨x4, μ2, e3, h⟩ := dtCall h
  refine dr_callV_i (S0 := []) [.int p1, .int p2] x4 μ2 dX11_apart_3 (c_X11_areTwo p0 p1 p2 μ e3) mf_X11_areTwo wt_1030 ws_33 wt_1028 rfl (dtRv hb1) (by decide) rfl (Nat.le_of_ble_eq_true rfl) (Nat.le_of_ble_eq_true rfl) rfl ?_
  obtain ⟨ht6, hf7⟩ := dtIte h
  refine dr_if_ne 15 dX11_apart_6 (by decide) (fun hc5 => ?_) (fun hc5 => ?_)
  · have h := hf7 hc5
    refine dr_aload_n p0 dX11_apart_15 rfl ?_
    obtain ⟨x8, e9, h⟩ := dtBind h
    refine dr_getR x8 dX11_apart_16 fl_RX11_37 e9 ?_
    refine dr_aload_n p0 dX11_apart_19 rfl ?_
    obtain ⟨x10, e11, h⟩ := dtBind h
    refine dr_getR x10 dX11_apart_20 fl_RX11_37 e11 ?_
    obtain ⟨x12, e13, h⟩ := dtBind h
    refine dr_getR x12 dX11_apart_23 fl_RX11_253 e13 ?_
    refine dr_iload_n p1 dX11_apart_26 rfl ?_
    obtain ⟨x14, e15, h⟩ := dtBind h
    refine dr_iaload x14 dX11_apart_27 e15 ?_
    refine dr_aload_n p0 dX11_apart_28 rfl ?_
    obtain ⟨x16, e17, h⟩ := dtBind h
    refine dr_getR x16 dX11_apart_29 fl_RX11_37 e17 ?_
    obtain ⟨x18, e19, h⟩ := dtBind h
    refine dr_getR x18 dX11_apart_32 fl_RX11_253 e19 ?_
    refine dr_iload_n p2 dX11_apart_35 rfl ?_
    obtain ⟨x20, e21, h⟩ := dtBind h
    refine dr_iaload x20 dX11_apart_36 e21 ?_
    obtain ⟨x24, μ22, e23, h⟩ := dtCall h
    refine dr_callS_i (S0 := []) [.ref x8, .int x14, .int x20] x24 μ22 dX11_apart_37 (c_X10_doorsThatPart x8 x14 x20 μ2 e23) mf_X10_doorsThatPart wt_1183 wt_1182 rfl (Nat.le_of_ble_eq_true rfl) (Nat.le_of_ble_eq_true rfl) rfl ?_
    refine dr_istore_n 3 [some (.ref p0), some (.int p1), some (.int p2), some (.int x24)] dX11_apart_40 rfl rfl rfl rfl ?_
    refine dr_aload_n p0 dX11_apart_41 rfl ?_
    refine dr_iload_n x24 dX11_apart_42 rfl ?_
    refine dr_iconst (-1 : Int32) dX11_apart_43 (by decide) ?_
    obtain ⟨ht26, hf27⟩ := dtIte h
    refine dr_icmp_ne 51 dX11_apart_44 (by decide) (fun hc25 => ?_) (fun hc25 => ?_)
    · have h := hf27 hc25
      refine dr_iload_n x24 dX11_apart_51 rfl ?_
      obtain ⟨x30, μ28, e29, h⟩ := dtCall h
      refine dr_callS_i (S0 := [.ref p0]) [.int x24] x30 μ28 dX11_apart_52 (c_J6_bitCount_0f7a4 x24 μ22 e29) mf_J6_bitCount_0f7a4 wt_929 wt_928 rfl (Nat.le_of_ble_eq_true rfl) (Nat.le_of_ble_eq_true rfl) rfl ?_
      refine dr_mask [] [] rfl ?_
      exact c_X11_apart_55 p0 x30 μ28 h
    · have h := ht26 hc25
      refine dr_iconst (-1 : Int32) dX11_apart_47 (by decide) ?_
      refine dr_goto 55 dX11_apart_48 (by decide) ?_
      refine dr_mask [] [] rfl ?_
      exact c_X11_apart_55 p0 (-1 : Int32) μ22 h
  · have h := ht6 hc5
    refine dr_aload_n p0 dX11_apart_9 rfl ?_
    refine dr_iconst (1 : Int32) dX11_apart_10 (by decide) ?_
    obtain ⟨_, hb31, h⟩ := dtBind h
    obtain ⟨x34, μ32, e33, h⟩ := dtCall h
    refine dr_callV_i (S0 := []) [.int (1 : Int32)] x34 μ32 dX11_apart_11 (c_X11_fail p0 (1 : Int32) μ2 e33) mf_X11_fail wt_510 ws_3 wt_508 rfl (dtRv hb31) (by decide) rfl (Nat.le_of_ble_eq_true rfl) (Nat.le_of_ble_eq_true rfl) rfl ?_
    cases h
    exact dr_ireturn dX11_apart_14 rfl
/-! X11_apartSet -/
theorem dX11_apartSet_0 : decode cX11_apartSet 0 = .ok (.aload_n 0, 1) := by decide +kernel
theorem dX11_apartSet_1 : decode cX11_apartSet 1 = .ok (.iload_n 1, 1) := by decide +kernel
theorem dX11_apartSet_2 : decode cX11_apartSet 2 = .ok (.iload_n 2, 1) := by decide +kernel
theorem dX11_apartSet_3 : decode cX11_apartSet 3 = .ok (.invokevirtual 333, 3) := by decide +kernel
theorem dX11_apartSet_6 : decode cX11_apartSet 6 = .ok (.ifCond .ne 9, 3) := by decide +kernel
theorem dX11_apartSet_9 : decode cX11_apartSet 9 = .ok (.aload_n 0, 1) := by decide +kernel
theorem dX11_apartSet_10 : decode cX11_apartSet 10 = .ok (.iconst 1, 1) := by decide +kernel
theorem dX11_apartSet_11 : decode cX11_apartSet 11 = .ok (.invokevirtual 138, 3) := by decide +kernel
theorem dX11_apartSet_14 : decode cX11_apartSet 14 = .ok (.ireturn, 1) := by decide +kernel
theorem dX11_apartSet_15 : decode cX11_apartSet 15 = .ok (.aload_n 0, 1) := by decide +kernel
theorem dX11_apartSet_16 : decode cX11_apartSet 16 = .ok (.aload_n 0, 1) := by decide +kernel
theorem dX11_apartSet_17 : decode cX11_apartSet 17 = .ok (.getfield 37, 3) := by decide +kernel
theorem dX11_apartSet_20 : decode cX11_apartSet 20 = .ok (.aload_n 0, 1) := by decide +kernel
theorem dX11_apartSet_21 : decode cX11_apartSet 21 = .ok (.getfield 37, 3) := by decide +kernel
theorem dX11_apartSet_24 : decode cX11_apartSet 24 = .ok (.getfield 253, 3) := by decide +kernel
theorem dX11_apartSet_27 : decode cX11_apartSet 27 = .ok (.iload_n 1, 1) := by decide +kernel
theorem dX11_apartSet_28 : decode cX11_apartSet 28 = .ok (.iaload, 1) := by decide +kernel
theorem dX11_apartSet_29 : decode cX11_apartSet 29 = .ok (.aload_n 0, 1) := by decide +kernel
theorem dX11_apartSet_30 : decode cX11_apartSet 30 = .ok (.getfield 37, 3) := by decide +kernel
theorem dX11_apartSet_33 : decode cX11_apartSet 33 = .ok (.getfield 253, 3) := by decide +kernel
theorem dX11_apartSet_36 : decode cX11_apartSet 36 = .ok (.iload_n 2, 1) := by decide +kernel
theorem dX11_apartSet_37 : decode cX11_apartSet 37 = .ok (.iaload, 1) := by decide +kernel
theorem dX11_apartSet_38 : decode cX11_apartSet 38 = .ok (.invokestatic 379, 3) := by decide +kernel
theorem dX11_apartSet_41 : decode cX11_apartSet 41 = .ok (.invokevirtual 321, 3) := by decide +kernel
theorem dX11_apartSet_44 : decode cX11_apartSet 44 = .ok (.ireturn, 1) := by decide +kernel
set_option maxRecDepth 100000 in
def f_X11_apartSet (p0 : Nat) (p1 : Int32) (p2 : Int32) (μ : dtM) : Option (Int32 × dtM) :=
  (opRv 11 μ p0).bind fun _ => opCall (f_X11_areTwo p0 p1 p2 μ) fun x4 μ2 => if x4 = 0 then ((opRv 11 μ2 p0).bind fun _ => opCall (f_X11_fail p0 (1 : Int32) μ2) fun x32 μ30 => some (x32, μ30)) else ((opGR 11 5 μ2 p0).bind fun x8 => (opGR 11 5 μ2 p0).bind fun x10 => (opGR 3 14 μ2 x10).bind fun x12 => (opLI 1 μ2 x12 p1).bind fun x14 => (opGR 11 5 μ2 p0).bind fun x16 => (opGR 3 14 μ2 x16).bind fun x18 => (opLI 1 μ2 x18 p2).bind fun x20 => opCall (f_X10_doorsThatPart x8 x14 x20 μ2) fun x24 μ22 => (opRv 11 μ22 p0).bind fun _ => opCall (f_X11_found p0 x24 μ22) fun x28 μ26 => some (x28, μ26))
set_option maxRecDepth 100000 in
theorem c_X11_apartSet {r : Int32} {F : dtM} (p0 : Nat) (p1 : Int32) (p2 : Int32) (μ : dtM) (h : f_X11_apartSet p0 p1 p2 μ = some (r, F)) : dtMet yX11_apartSet cX11_apartSet 3 (some .int) 5 [.ref p0, .int p1, .int p2] μ (some (.int r)) F := by
  refine dtMet.of (by decide +kernel) (Nat.le_of_ble_eq_true rfl) (show dtW yX11_apartSet cX11_apartSet 3 (some .int) 5 (some (.int r)) F 0 [some (.ref p0), some (.int p1), some (.int p2)] [] μ from ?_)
  rw [f_X11_apartSet] at h
  refine dr_aload_n p0 dX11_apartSet_0 rfl ?_
  refine dr_iload_n p1 dX11_apartSet_1 rfl ?_
  refine dr_iload_n p2 dX11_apartSet_2 rfl ?_
  obtain ⟨_, hb1, h⟩ := dtBind h
  obtain ⟨x4, μ2, e3, h⟩ := dtCall h
  refine dr_callV_i (S0 := []) [.int p1, .int p2] x4 μ2 dX11_apartSet_3 (c_X11_areTwo p0 p1 p2 μ e3) mf_X11_areTwo wt_1030 ws_33 wt_1028 rfl (dtRv hb1) (by decide) rfl (Nat.le_of_ble_eq_true rfl) (Nat.le_of_ble_eq_true rfl) rfl ?_
  obtain ⟨ht6, hf7⟩ := dtIte h
  refine dr_if_ne 15 dX11_apartSet_6 (by decide) (fun hc5 => ?_) (fun hc5 => ?_)
  · have h := hf7 hc5
    refine dr_aload_n p0 dX11_apartSet_15 rfl ?_
    refine dr_aload_n p0 dX11_apartSet_16 rfl ?_
    obtain ⟨x8, e9, h⟩ := dtBind h
    refine dr_getR x8 dX11_apartSet_17 fl_RX11_37 e9 ?_
    refine dr_aload_n p0 dX11_apartSet_20 rfl ?_
    obtain ⟨x10, e11, h⟩ := dtBind h
    refine dr_getR x10 dX11_apartSet_21 fl_RX11_37 e11 ?_
    obtain ⟨x12, e13, h⟩ := dtBind h
    refine dr_getR x12 dX11_apartSet_24 fl_RX11_253 e13 ?_
    refine dr_iload_n p1 dX11_apartSet_27 rfl ?_
    obtain ⟨x14, e15, h⟩ := dtBind h
    refine dr_iaload x14 dX11_apartSet_28 e15 ?_
    refine dr_aload_n p0 dX11_apartSet_29 rfl ?_
    obtain ⟨x16, e17, h⟩ := dtBind h
    refine dr_getR x16 dX11_apartSet_30 fl_RX11_37 e17 ?_
    obtain ⟨x18, e19, h⟩ := dtBind h
    refine dr_getR x18 dX11_apartSet_33 fl_RX11_253 e19 ?_
    refine dr_iload_n p2 dX11_apartSet_36 rfl ?_
    obtain ⟨x20, e21, h⟩ := dtBind h
    refine dr_iaload x20 dX11_apartSet_37 e21 ?_
    obtain ⟨x24, μ22, e23, h⟩ := dtCall h
    refine dr_callS_i (S0 := [.ref p0]) [.ref x8, .int x14, .int x20] x24 μ22 dX11_apartSet_38 (c_X10_doorsThatPart x8 x14 x20 μ2 e23) mf_X10_doorsThatPart wt_1183 wt_1182 rfl (Nat.le_of_ble_eq_true rfl) (Nat.le_of_ble_eq_true rfl) rfl ?_
    obtain ⟨_, hb25, h⟩ := dtBind h
    obtain ⟨x28, μ26, e27, h⟩ := dtCall h
    refine dr_callV_i (S0 := []) [.int x24] x28 μ26 dX11_apartSet_41 (c_X11_found p0 x24 μ22 e27) mf_X11_found wt_1001 ws_32 wt_999 rfl (dtRv hb25) (by decide) rfl (Nat.le_of_ble_eq_true rfl) (Nat.le_of_ble_eq_true rfl) rfl ?_
    cases h
    exact dr_ireturn dX11_apartSet_44 rfl
  · have h := ht6 hc5
    refine dr_aload_n p0 dX11_apartSet_9 rfl ?_
    refine dr_iconst (1 : Int32) dX11_apartSet_10 (by decide) ?_
    obtain ⟨_, hb29, h⟩ := dtBind h
    obtain ⟨x32, μ30, e31, h⟩ := dtCall h
    refine dr_callV_i (S0 := []) [.int (1 : Int32)] x32 μ30 dX11_apartSet_11 (c_X11_fail p0 (1 : Int32) μ2 e31) mf_X11_fail wt_510 ws_3 wt_508 rfl (dtRv hb29) (by decide) rfl (Nat.le_of_ble_eq_true rfl) (Nat.le_of_ble_eq_true rfl) rfl ?_
    cases h
    exact dr_ireturn dX11_apartSet_14 rfl
/-! X11_together -/
theorem dX11_together_0 : decode cX11_together 0 = .ok (.aload_n 0, 1) := by decide +kernel
theorem dX11_together_1 : decode cX11_together 1 = .ok (.iload_n 1, 1) := by decide +kernel
theorem dX11_together_2 : decode cX11_together 2 = .ok (.iload_n 2, 1) := by decide +kernel
theorem dX11_together_3 : decode cX11_together 3 = .ok (.invokevirtual 333, 3) := by decide +kernel
theorem dX11_together_6 : decode cX11_together 6 = .ok (.ifCond .ne 9, 3) := by decide +kernel
theorem dX11_together_9 : decode cX11_together 9 = .ok (.aload_n 0, 1) := by decide +kernel
theorem dX11_together_10 : decode cX11_together 10 = .ok (.iconst 1, 1) := by decide +kernel
theorem dX11_together_11 : decode cX11_together 11 = .ok (.invokevirtual 138, 3) := by decide +kernel
theorem dX11_together_14 : decode cX11_together 14 = .ok (.ireturn, 1) := by decide +kernel
theorem dX11_together_15 : decode cX11_together 15 = .ok (.aload_n 0, 1) := by decide +kernel
theorem dX11_together_16 : decode cX11_together 16 = .ok (.aload_n 0, 1) := by decide +kernel
theorem dX11_together_17 : decode cX11_together 17 = .ok (.getfield 37, 3) := by decide +kernel
theorem dX11_together_20 : decode cX11_together 20 = .ok (.aload_n 0, 1) := by decide +kernel
theorem dX11_together_21 : decode cX11_together 21 = .ok (.getfield 37, 3) := by decide +kernel
theorem dX11_together_24 : decode cX11_together 24 = .ok (.getfield 253, 3) := by decide +kernel
theorem dX11_together_27 : decode cX11_together 27 = .ok (.iload_n 1, 1) := by decide +kernel
theorem dX11_together_28 : decode cX11_together 28 = .ok (.iaload, 1) := by decide +kernel
theorem dX11_together_29 : decode cX11_together 29 = .ok (.aload_n 0, 1) := by decide +kernel
theorem dX11_together_30 : decode cX11_together 30 = .ok (.getfield 37, 3) := by decide +kernel
theorem dX11_together_33 : decode cX11_together 33 = .ok (.getfield 253, 3) := by decide +kernel
theorem dX11_together_36 : decode cX11_together 36 = .ok (.iload_n 2, 1) := by decide +kernel
theorem dX11_together_37 : decode cX11_together 37 = .ok (.iaload, 1) := by decide +kernel
theorem dX11_together_38 : decode cX11_together 38 = .ok (.invokestatic 382, 3) := by decide +kernel
theorem dX11_together_41 : decode cX11_together 41 = .ok (.invokevirtual 321, 3) := by decide +kernel
theorem dX11_together_44 : decode cX11_together 44 = .ok (.ireturn, 1) := by decide +kernel
set_option maxRecDepth 100000 in
def f_X11_together (p0 : Nat) (p1 : Int32) (p2 : Int32) (μ : dtM) : Option (Int32 × dtM) :=
  (opRv 11 μ p0).bind fun _ => opCall (f_X11_areTwo p0 p1 p2 μ) fun x4 μ2 => if x4 = 0 then ((opRv 11 μ2 p0).bind fun _ => opCall (f_X11_fail p0 (1 : Int32) μ2) fun x32 μ30 => some (x32, μ30)) else ((opGR 11 5 μ2 p0).bind fun x8 => (opGR 11 5 μ2 p0).bind fun x10 => (opGR 3 14 μ2 x10).bind fun x12 => (opLI 1 μ2 x12 p1).bind fun x14 => (opGR 11 5 μ2 p0).bind fun x16 => (opGR 3 14 μ2 x16).bind fun x18 => (opLI 1 μ2 x18 p2).bind fun x20 => opCall (f_X10_doorsToJoin x8 x14 x20 μ2) fun x24 μ22 => (opRv 11 μ22 p0).bind fun _ => opCall (f_X11_found p0 x24 μ22) fun x28 μ26 => some (x28, μ26))
set_option maxRecDepth 100000 in
theorem c_X11_together {r : Int32} {F : dtM} (p0 : Nat) (p1 : Int32) (p2 : Int32) (μ : dtM) (h : f_X11_together p0 p1 p2 μ = some (r, F)) : dtMet yX11_together cX11_together 3 (some .int) 5 [.ref p0, .int p1, .int p2] μ (some (.int r)) F := by
  refine dtMet.of (by decide +kernel) (Nat.le_of_ble_eq_true rfl) (show dtW yX11_together cX11_together 3 (some .int) 5 (some (.int r)) F 0 [some (.ref p0), some (.int p1), some (.int p2)] [] μ from ?_)
  rw [f_X11_together] at h
  refine dr_aload_n p0 dX11_together_0 rfl ?_
  refine dr_iload_n p1 dX11_together_1 rfl ?_
  refine dr_iload_n p2 dX11_together_2 rfl ?_
  obtain ⟨_, hb1, h⟩ := dtBind h
  obtain ⟨x4, μ2, e3, h⟩ := dtCall h
  refine dr_callV_i (S0 := []) [.int p1, .int p2] x4 μ2 dX11_together_3 (c_X11_areTwo p0 p1 p2 μ e3) mf_X11_areTwo wt_1030 ws_33 wt_1028 rfl (dtRv hb1) (by decide) rfl (Nat.le_of_ble_eq_true rfl) (Nat.le_of_ble_eq_true rfl) rfl ?_
  obtain ⟨ht6, hf7⟩ := dtIte h
  refine dr_if_ne 15 dX11_together_6 (by decide) (fun hc5 => ?_) (fun hc5 => ?_)
  · have h := hf7 hc5
    refine dr_aload_n p0 dX11_together_15 rfl ?_
    refine dr_aload_n p0 dX11_together_16 rfl ?_
    obtain ⟨x8, e9, h⟩ := dtBind h
    refine dr_getR x8 dX11_together_17 fl_RX11_37 e9 ?_
    refine dr_aload_n p0 dX11_together_20 rfl ?_
    obtain ⟨x10, e11, h⟩ := dtBind h
    refine dr_getR x10 dX11_together_21 fl_RX11_37 e11 ?_
    obtain ⟨x12, e13, h⟩ := dtBind h
    refine dr_getR x12 dX11_together_24 fl_RX11_253 e13 ?_
    refine dr_iload_n p1 dX11_together_27 rfl ?_
    obtain ⟨x14, e15, h⟩ := dtBind h
    refine dr_iaload x14 dX11_together_28 e15 ?_
    refine dr_aload_n p0 dX11_together_29 rfl ?_
    obtain ⟨x16, e17, h⟩ := dtBind h
    refine dr_getR x16 dX11_together_30 fl_RX11_37 e17 ?_
    obtain ⟨x18, e19, h⟩ := dtBind h
    refine dr_getR x18 dX11_together_33 fl_RX11_253 e19 ?_
    refine dr_iload_n p2 dX11_together_36 rfl ?_
    obtain ⟨x20, e21, h⟩ := dtBind h
    refine dr_iaload x20 dX11_together_37 e21 ?_
    obtain ⟨x24, μ22, e23, h⟩ := dtCall h
    refine dr_callS_i (S0 := [.ref p0]) [.ref x8, .int x14, .int x20] x24 μ22 dX11_together_38 (c_X10_doorsToJoin x8 x14 x20 μ2 e23) mf_X10_doorsToJoin wt_1196 wt_1195 rfl (Nat.le_of_ble_eq_true rfl) (Nat.le_of_ble_eq_true rfl) rfl ?_
    obtain ⟨_, hb25, h⟩ := dtBind h
    obtain ⟨x28, μ26, e27, h⟩ := dtCall h
    refine dr_callV_i (S0 := []) [.int x24] x28 μ26 dX11_together_41 (c_X11_found p0 x24 μ22 e27) mf_X11_found wt_1001 ws_32 wt_999 rfl (dtRv hb25) (by decide) rfl (Nat.le_of_ble_eq_true rfl) (Nat.le_of_ble_eq_true rfl) rfl ?_
    cases h
    exact dr_ireturn dX11_together_44 rfl
  · have h := ht6 hc5
    refine dr_aload_n p0 dX11_together_9 rfl ?_
    refine dr_iconst (1 : Int32) dX11_together_10 (by decide) ?_
    obtain ⟨_, hb29, h⟩ := dtBind h
    obtain ⟨x32, μ30, e31, h⟩ := dtCall h
    refine dr_callV_i (S0 := []) [.int (1 : Int32)] x32 μ30 dX11_together_11 (c_X11_fail p0 (1 : Int32) μ2 e31) mf_X11_fail wt_510 ws_3 wt_508 rfl (dtRv hb29) (by decide) rfl (Nat.le_of_ble_eq_true rfl) (Nat.le_of_ble_eq_true rfl) rfl ?_
    cases h
    exact dr_ireturn dX11_together_14 rfl
/-! X11_areOpenDoors -/
theorem dX11_areOpenDoors_0 : decode cX11_areOpenDoors 0 = .ok (.aload_n 1, 1) := by decide +kernel
theorem dX11_areOpenDoors_1 : decode cX11_areOpenDoors 1 = .ok (.iload_n 2, 1) := by decide +kernel
theorem dX11_areOpenDoors_2 : decode cX11_areOpenDoors 2 = .ok (.aload_n 0, 1) := by decide +kernel
theorem dX11_areOpenDoors_3 : decode cX11_areOpenDoors 3 = .ok (.getfield 37, 3) := by decide +kernel
theorem dX11_areOpenDoors_6 : decode cX11_areOpenDoors 6 = .ok (.getfield 211, 3) := by decide +kernel
theorem dX11_areOpenDoors_9 : decode cX11_areOpenDoors 9 = .ok (.invokevirtual 295, 3) := by decide +kernel
theorem dX11_areOpenDoors_12 : decode cX11_areOpenDoors 12 = .ok (.ifCond .ne 5, 3) := by decide +kernel
theorem dX11_areOpenDoors_15 : decode cX11_areOpenDoors 15 = .ok (.iconst 0, 1) := by decide +kernel
theorem dX11_areOpenDoors_16 : decode cX11_areOpenDoors 16 = .ok (.ireturn, 1) := by decide +kernel
theorem dX11_areOpenDoors_17 : decode cX11_areOpenDoors 17 = .ok (.aload_n 0, 1) := by decide +kernel
theorem dX11_areOpenDoors_18 : decode cX11_areOpenDoors 18 = .ok (.getfield 37, 3) := by decide +kernel
theorem dX11_areOpenDoors_21 : decode cX11_areOpenDoors 21 = .ok (.getfield 220, 3) := by decide +kernel
theorem dX11_areOpenDoors_24 : decode cX11_areOpenDoors 24 = .ok (.istore_n 3, 1) := by decide +kernel
theorem dX11_areOpenDoors_25 : decode cX11_areOpenDoors 25 = .ok (.iconst 0, 1) := by decide +kernel
theorem dX11_areOpenDoors_26 : decode cX11_areOpenDoors 26 = .ok (.istore 4, 2) := by decide +kernel
theorem dX11_areOpenDoors_28 : decode cX11_areOpenDoors 28 = .ok (.iload 4, 2) := by decide +kernel
theorem dX11_areOpenDoors_30 : decode cX11_areOpenDoors 30 = .ok (.iload_n 2, 1) := by decide +kernel
theorem dX11_areOpenDoors_31 : decode cX11_areOpenDoors 31 = .ok (.if_icmp .ge 35, 3) := by decide +kernel
theorem dX11_areOpenDoors_34 : decode cX11_areOpenDoors 34 = .ok (.aload_n 1, 1) := by decide +kernel
theorem dX11_areOpenDoors_35 : decode cX11_areOpenDoors 35 = .ok (.iload 4, 2) := by decide +kernel
theorem dX11_areOpenDoors_37 : decode cX11_areOpenDoors 37 = .ok (.invokevirtual 301, 3) := by decide +kernel
theorem dX11_areOpenDoors_40 : decode cX11_areOpenDoors 40 = .ok (.istore 5, 2) := by decide +kernel
theorem dX11_areOpenDoors_42 : decode cX11_areOpenDoors 42 = .ok (.iload_n 3, 1) := by decide +kernel
theorem dX11_areOpenDoors_43 : decode cX11_areOpenDoors 43 = .ok (.iload 5, 2) := by decide +kernel
theorem dX11_areOpenDoors_45 : decode cX11_areOpenDoors 45 = .ok (.invokestatic 289, 3) := by decide +kernel
theorem dX11_areOpenDoors_48 : decode cX11_areOpenDoors 48 = .ok (.ifCond .ne 5, 3) := by decide +kernel
theorem dX11_areOpenDoors_51 : decode cX11_areOpenDoors 51 = .ok (.iconst 0, 1) := by decide +kernel
theorem dX11_areOpenDoors_52 : decode cX11_areOpenDoors 52 = .ok (.ireturn, 1) := by decide +kernel
theorem dX11_areOpenDoors_53 : decode cX11_areOpenDoors 53 = .ok (.iload_n 3, 1) := by decide +kernel
theorem dX11_areOpenDoors_54 : decode cX11_areOpenDoors 54 = .ok (.iconst 1, 1) := by decide +kernel
theorem dX11_areOpenDoors_55 : decode cX11_areOpenDoors 55 = .ok (.iload 5, 2) := by decide +kernel
theorem dX11_areOpenDoors_57 : decode cX11_areOpenDoors 57 = .ok (.ishl, 1) := by decide +kernel
theorem dX11_areOpenDoors_58 : decode cX11_areOpenDoors 58 = .ok (.ixor, 1) := by decide +kernel
theorem dX11_areOpenDoors_59 : decode cX11_areOpenDoors 59 = .ok (.istore_n 3, 1) := by decide +kernel
theorem dX11_areOpenDoors_60 : decode cX11_areOpenDoors 60 = .ok (.iinc 4 1, 3) := by decide +kernel
theorem dX11_areOpenDoors_63 : decode cX11_areOpenDoors 63 = .ok (.goto (-35), 3) := by decide +kernel
theorem dX11_areOpenDoors_66 : decode cX11_areOpenDoors 66 = .ok (.iconst 1, 1) := by decide +kernel
theorem dX11_areOpenDoors_67 : decode cX11_areOpenDoors 67 = .ok (.ireturn, 1) := by decide +kernel
set_option maxRecDepth 100000 in
def f_X11_areOpenDoors_28 : Nat → Nat → Int32 → Int32 → Int32 → dtM → Option (Int32 × dtM)
  | 0, _, _, _, _, _ => none
  | n + 1, l1, l2, l3, l4, μ =>
    if l2 ≤ l4 then (opRet (1 : Int32) μ) else ((opRv 9 μ l1).bind fun _ => opCall (f_X9_smallNumber l1 l4 μ) fun x7 μ5 => opCall (f_X11_contains l3 x7 μ5) fun x10 μ8 => if x10 = 0 then (opRet (0 : Int32) μ8) else ((some (l3 ^^^ ((1 : Int32) <<< (x7 &&& 31)))).bind fun x14 => f_X11_areOpenDoors_28 n l1 l2 x14 (l4 + 1) μ8))
set_option maxRecDepth 100000 in
def f_X11_areOpenDoors (p0 : Nat) (p1 : Nat) (p2 : Int32) (μ : dtM) : Option (Int32 × dtM) :=
  (opGR 11 5 μ p0).bind fun x1 => (opGI 3 1 μ x1).bind fun x3 => (opRv 9 μ p1).bind fun _ => opCall (f_X9_allBelow p1 p2 x3 μ) fun x8 μ6 => if x8 = 0 then (opRet (0 : Int32) μ6) else ((opGR 11 5 μ6 p0).bind fun x12 => (opGI 3 5 μ6 x12).bind fun x14 => f_X11_areOpenDoors_28 dtFuel p1 p2 x14 (0 : Int32) μ6)
set_option maxRecDepth 100000 in
theorem c_X11_areOpenDoors_28 {r : Int32} {F : dtM} : ∀ (n : Nat) (l1 : Nat) (l2 : Int32) (l3 : Int32) (l4 : Int32) (μ : dtM), f_X11_areOpenDoors_28 n l1 l2 l3 l4 μ = some (r, F) → dtW yX11_areOpenDoors cX11_areOpenDoors 6 (some .boolean) 2 (some (.int r)) F 28 [none, some (.ref l1), some (.int l2), some (.int l3), some (.int l4)] [] μ := by
  intro n
  induction n with
  | zero => intro l1 l2 l3 l4 μ h; cases h
  | succ n ih =>
    intro l1 l2 l3 l4 μ h
    have h := (show f_X11_areOpenDoors_28 (n + 1) l1 l2 l3 l4 μ = some _ from h)
    rw [f_X11_areOpenDoors_28] at h
    refine dr_iload l4 dX11_areOpenDoors_28 rfl ?_
    refine dr_iload_n l2 dX11_areOpenDoors_30 rfl ?_
    obtain ⟨ht2, hf3⟩ := dtIte h
    refine dr_icmp_ge 66 dX11_areOpenDoors_31 (by decide) (fun hc1 => ?_) (fun hc1 => ?_)
    · have h := ht2 hc1
      refine dr_iconst (1 : Int32) dX11_areOpenDoors_66 (by decide) ?_
      obtain ⟨hz, rfl, rfl⟩ := dtRet h
      exact dr_ireturn dX11_areOpenDoors_67 (dtNz hz)
    · have h := hf3 hc1
      refine dr_aload_n l1 dX11_areOpenDoors_34 rfl ?_
      refine dr_iload l4 dX11_areOpenDoors_35 rfl ?_
      obtain ⟨_, hb4, h⟩ := dtBind h
      obtain ⟨x7, μ5, e6, h⟩ := dtCall h
      refine dr_callV_i (S0 := []) [.int l4] x7 μ5 dX11_areOpenDoors_37 (c_X9_smallNumber l1 l4 μ e6) mf_X9_smallNumber wt_965 wt_966 wt_964 rfl (dtRv hb4) (by decide) rfl (Nat.le_of_ble_eq_true rfl) (Nat.le_of_ble_eq_true rfl) rfl ?_
      refine dr_istore [none, some (.ref l1), some (.int l2), some (.int l3), some (.int l4), some (.int x7)] dX11_areOpenDoors_40 rfl rfl rfl ?_
      refine dr_iload_n l3 dX11_areOpenDoors_42 rfl ?_
      refine dr_iload x7 dX11_areOpenDoors_43 rfl ?_
      obtain ⟨x10, μ8, e9, h⟩ := dtCall h
      refine dr_callS_i (S0 := []) [.int l3, .int x7] x10 μ8 dX11_areOpenDoors_45 (c_X11_contains l3 x7 μ5 e9) mf_X11_contains wt_748 wt_950 rfl (Nat.le_of_ble_eq_true rfl) (Nat.le_of_ble_eq_true rfl) rfl ?_
      obtain ⟨ht12, hf13⟩ := dtIte h
      refine dr_if_ne 53 dX11_areOpenDoors_48 (by decide) (fun hc11 => ?_) (fun hc11 => ?_)
      · have h := hf13 hc11
        refine dr_iload_n l3 dX11_areOpenDoors_53 rfl ?_
        refine dr_iconst (1 : Int32) dX11_areOpenDoors_54 (by decide) ?_
        refine dr_iload x7 dX11_areOpenDoors_55 rfl ?_
        refine dr_ishl dX11_areOpenDoors_57 ?_
        refine dr_ixor dX11_areOpenDoors_58 ?_
        obtain ⟨x14, e15, h⟩ := dtBind h
        refine dr_nmi e15 ?_
        refine dr_istore_n 3 [none, some (.ref l1), some (.int l2), some (.int x14), some (.int l4), some (.int x7)] dX11_areOpenDoors_59 rfl rfl rfl rfl ?_
        refine dr_iinc l4 (l4 + 1) [none, some (.ref l1), some (.int l2), some (.int x14), some (.int (l4 + 1)), some (.int x7)] dX11_areOpenDoors_60 rfl rfl rfl rfl rfl ?_
        refine dr_goto 28 dX11_areOpenDoors_63 (by decide) ?_
        refine dr_mask [false, true, true, true, true] [none, some (.ref l1), some (.int l2), some (.int x14), some (.int (l4 + 1))] rfl ?_
        exact ih l1 l2 x14 (l4 + 1) μ8 h
      · have h := ht12 hc11
        refine dr_iconst (0 : Int32) dX11_areOpenDoors_51 (by decide) ?_
        obtain ⟨hz, rfl, rfl⟩ := dtRet h
        exact dr_ireturn dX11_areOpenDoors_52 (dtNz hz)
set_option maxRecDepth 100000 in
theorem c_X11_areOpenDoors {r : Int32} {F : dtM} (p0 : Nat) (p1 : Nat) (p2 : Int32) (μ : dtM) (h : f_X11_areOpenDoors p0 p1 p2 μ = some (r, F)) : dtMet yX11_areOpenDoors cX11_areOpenDoors 6 (some .boolean) 2 [.ref p0, .ref p1, .int p2] μ (some (.int r)) F := by
  refine dtMet.of (by decide +kernel) (Nat.le_of_ble_eq_true rfl) (show dtW yX11_areOpenDoors cX11_areOpenDoors 6 (some .boolean) 2 (some (.int r)) F 0 [some (.ref p0), some (.ref p1), some (.int p2)] [] μ from ?_)
  rw [f_X11_areOpenDoors] at h
  refine dr_aload_n p1 dX11_areOpenDoors_0 rfl ?_
  refine dr_iload_n p2 dX11_areOpenDoors_1 rfl ?_
  refine dr_aload_n p0 dX11_areOpenDoors_2 rfl ?_
  obtain ⟨x1, e2, h⟩ := dtBind h
  refine dr_getR x1 dX11_areOpenDoors_3 fl_RX11_37 e2 ?_
  obtain ⟨x3, e4, h⟩ := dtBind h
  refine dr_getI x3 dX11_areOpenDoors_6 fl_RX11_211 e4 ?_
  obtain ⟨_, hb5, h⟩ := dtBind h
  obtain ⟨x8, μ6, e7, h⟩ := dtCall h
  refine dr_callV_i (S0 := []) [.int p2, .int x3] x8 μ6 dX11_areOpenDoors_9 (c_X9_allBelow p1 p2 x3 μ e7) mf_X9_allBelow wt_960 wt_961 wt_959 rfl (dtRv hb5) (by decide) rfl (Nat.le_of_ble_eq_true rfl) (Nat.le_of_ble_eq_true rfl) rfl ?_
  obtain ⟨ht10, hf11⟩ := dtIte h
  refine dr_if_ne 17 dX11_areOpenDoors_12 (by decide) (fun hc9 => ?_) (fun hc9 => ?_)
  · have h := hf11 hc9
    refine dr_aload_n p0 dX11_areOpenDoors_17 rfl ?_
    obtain ⟨x12, e13, h⟩ := dtBind h
    refine dr_getR x12 dX11_areOpenDoors_18 fl_RX11_37 e13 ?_
    obtain ⟨x14, e15, h⟩ := dtBind h
    refine dr_getI x14 dX11_areOpenDoors_21 fl_RX11_220 e15 ?_
    refine dr_istore_n 3 [some (.ref p0), some (.ref p1), some (.int p2), some (.int x14)] dX11_areOpenDoors_24 rfl rfl rfl rfl ?_
    refine dr_iconst (0 : Int32) dX11_areOpenDoors_25 (by decide) ?_
    refine dr_istore [some (.ref p0), some (.ref p1), some (.int p2), some (.int x14), some (.int (0 : Int32))] dX11_areOpenDoors_26 rfl rfl rfl ?_
    refine dr_mask [false, true, true, true, true] [none, some (.ref p1), some (.int p2), some (.int x14), some (.int (0 : Int32))] rfl ?_
    exact c_X11_areOpenDoors_28 dtFuel p1 p2 x14 (0 : Int32) μ6 h
  · have h := ht10 hc9
    refine dr_iconst (0 : Int32) dX11_areOpenDoors_15 (by decide) ?_
    obtain ⟨hz, rfl, rfl⟩ := dtRet h
    exact dr_ireturn dX11_areOpenDoors_16 (dtNz hz)
/-! X11_culprits -/
theorem dX11_culprits_0 : decode cX11_culprits 0 = .ok (.iload_n 2, 1) := by decide +kernel
theorem dX11_culprits_1 : decode cX11_culprits 1 = .ok (.iconst 0, 1) := by decide +kernel
theorem dX11_culprits_2 : decode cX11_culprits 2 = .ok (.bipush 6, 2) := by decide +kernel
theorem dX11_culprits_4 : decode cX11_culprits 4 = .ok (.invokestatic 115, 3) := by decide +kernel
theorem dX11_culprits_7 : decode cX11_culprits 7 = .ok (.ifCond .eq 12, 3) := by decide +kernel
theorem dX11_culprits_10 : decode cX11_culprits 10 = .ok (.aload_n 0, 1) := by decide +kernel
theorem dX11_culprits_11 : decode cX11_culprits 11 = .ok (.iload_n 1, 1) := by decide +kernel
theorem dX11_culprits_12 : decode cX11_culprits 12 = .ok (.iload_n 2, 1) := by decide +kernel
theorem dX11_culprits_13 : decode cX11_culprits 13 = .ok (.invokevirtual 292, 3) := by decide +kernel
theorem dX11_culprits_16 : decode cX11_culprits 16 = .ok (.goto 4, 3) := by decide +kernel
theorem dX11_culprits_19 : decode cX11_culprits 19 = .ok (.iconst 1, 1) := by decide +kernel
theorem dX11_culprits_20 : decode cX11_culprits 20 = .ok (.istore_n 3, 1) := by decide +kernel
theorem dX11_culprits_21 : decode cX11_culprits 21 = .ok (.iload_n 3, 1) := by decide +kernel
theorem dX11_culprits_22 : decode cX11_culprits 22 = .ok (.ifCond .eq 9, 3) := by decide +kernel
theorem dX11_culprits_25 : decode cX11_culprits 25 = .ok (.aload_n 0, 1) := by decide +kernel
theorem dX11_culprits_26 : decode cX11_culprits 26 = .ok (.iload_n 3, 1) := by decide +kernel
theorem dX11_culprits_27 : decode cX11_culprits 27 = .ok (.invokevirtual 138, 3) := by decide +kernel
theorem dX11_culprits_30 : decode cX11_culprits 30 = .ok (.ireturn, 1) := by decide +kernel
theorem dX11_culprits_31 : decode cX11_culprits 31 = .ok (.aload_n 0, 1) := by decide +kernel
theorem dX11_culprits_32 : decode cX11_culprits 32 = .ok (.aload_n 0, 1) := by decide +kernel
theorem dX11_culprits_33 : decode cX11_culprits 33 = .ok (.getfield 22, 3) := by decide +kernel
theorem dX11_culprits_36 : decode cX11_culprits 36 = .ok (.iload_n 1, 1) := by decide +kernel
theorem dX11_culprits_37 : decode cX11_culprits 37 = .ok (.aaload, 1) := by decide +kernel
theorem dX11_culprits_38 : decode cX11_culprits 38 = .ok (.iload_n 2, 1) := by decide +kernel
theorem dX11_culprits_39 : decode cX11_culprits 39 = .ok (.invokevirtual 385, 3) := by decide +kernel
theorem dX11_culprits_42 : decode cX11_culprits 42 = .ok (.ifCond .ne 9, 3) := by decide +kernel
theorem dX11_culprits_45 : decode cX11_culprits 45 = .ok (.aload_n 0, 1) := by decide +kernel
theorem dX11_culprits_46 : decode cX11_culprits 46 = .ok (.iconst 5, 1) := by decide +kernel
theorem dX11_culprits_47 : decode cX11_culprits 47 = .ok (.invokevirtual 138, 3) := by decide +kernel
theorem dX11_culprits_50 : decode cX11_culprits 50 = .ok (.ireturn, 1) := by decide +kernel
theorem dX11_culprits_51 : decode cX11_culprits 51 = .ok (.iconst 0, 1) := by decide +kernel
theorem dX11_culprits_52 : decode cX11_culprits 52 = .ok (.istore 4, 2) := by decide +kernel
theorem dX11_culprits_54 : decode cX11_culprits 54 = .ok (.iconst 0, 1) := by decide +kernel
theorem dX11_culprits_55 : decode cX11_culprits 55 = .ok (.istore 5, 2) := by decide +kernel
theorem dX11_culprits_57 : decode cX11_culprits 57 = .ok (.iload 5, 2) := by decide +kernel
theorem dX11_culprits_59 : decode cX11_culprits 59 = .ok (.aload_n 0, 1) := by decide +kernel
theorem dX11_culprits_60 : decode cX11_culprits 60 = .ok (.getfield 37, 3) := by decide +kernel
theorem dX11_culprits_63 : decode cX11_culprits 63 = .ok (.getfield 189, 3) := by decide +kernel
theorem dX11_culprits_66 : decode cX11_culprits 66 = .ok (.if_icmp .ge 45, 3) := by decide +kernel
theorem dX11_culprits_69 : decode cX11_culprits 69 = .ok (.aload_n 0, 1) := by decide +kernel
theorem dX11_culprits_70 : decode cX11_culprits 70 = .ok (.getfield 37, 3) := by decide +kernel
theorem dX11_culprits_73 : decode cX11_culprits 73 = .ok (.aload_n 0, 1) := by decide +kernel
theorem dX11_culprits_74 : decode cX11_culprits 74 = .ok (.getfield 37, 3) := by decide +kernel
theorem dX11_culprits_77 : decode cX11_culprits 77 = .ok (.getfield 253, 3) := by decide +kernel
theorem dX11_culprits_80 : decode cX11_culprits 80 = .ok (.iload 5, 2) := by decide +kernel
theorem dX11_culprits_82 : decode cX11_culprits 82 = .ok (.iaload, 1) := by decide +kernel
theorem dX11_culprits_83 : decode cX11_culprits 83 = .ok (.aload_n 0, 1) := by decide +kernel
theorem dX11_culprits_84 : decode cX11_culprits 84 = .ok (.getfield 22, 3) := by decide +kernel
theorem dX11_culprits_87 : decode cX11_culprits 87 = .ok (.iload_n 1, 1) := by decide +kernel
theorem dX11_culprits_88 : decode cX11_culprits 88 = .ok (.aaload, 1) := by decide +kernel
theorem dX11_culprits_89 : decode cX11_culprits 89 = .ok (.iload_n 2, 1) := by decide +kernel
theorem dX11_culprits_90 : decode cX11_culprits 90 = .ok (.invokestatic 389, 3) := by decide +kernel
theorem dX11_culprits_93 : decode cX11_culprits 93 = .ok (.ifCond .eq 12, 3) := by decide +kernel
theorem dX11_culprits_96 : decode cX11_culprits 96 = .ok (.iload 4, 2) := by decide +kernel
theorem dX11_culprits_98 : decode cX11_culprits 98 = .ok (.iconst 1, 1) := by decide +kernel
theorem dX11_culprits_99 : decode cX11_culprits 99 = .ok (.iload 5, 2) := by decide +kernel
theorem dX11_culprits_101 : decode cX11_culprits 101 = .ok (.ishl, 1) := by decide +kernel
theorem dX11_culprits_102 : decode cX11_culprits 102 = .ok (.ior, 1) := by decide +kernel
theorem dX11_culprits_103 : decode cX11_culprits 103 = .ok (.istore 4, 2) := by decide +kernel
theorem dX11_culprits_105 : decode cX11_culprits 105 = .ok (.iinc 5 1, 3) := by decide +kernel
theorem dX11_culprits_108 : decode cX11_culprits 108 = .ok (.goto (-51), 3) := by decide +kernel
theorem dX11_culprits_111 : decode cX11_culprits 111 = .ok (.aload_n 0, 1) := by decide +kernel
theorem dX11_culprits_112 : decode cX11_culprits 112 = .ok (.iload 4, 2) := by decide +kernel
theorem dX11_culprits_114 : decode cX11_culprits 114 = .ok (.invokevirtual 192, 3) := by decide +kernel
theorem dX11_culprits_117 : decode cX11_culprits 117 = .ok (.ireturn, 1) := by decide +kernel
set_option maxRecDepth 100000 in
def f_X11_culprits_105 (k57 : Nat → Int32 → Int32 → Int32 → Int32 → dtM → Option (Int32 × dtM)) (l0 : Nat) (l1 : Int32) (l2 : Int32) (l4 : Int32) (l5 : Int32) (μ : dtM) : Option (Int32 × dtM) :=
  k57 l0 l1 l2 l4 (l5 + 1) μ
set_option maxRecDepth 100000 in
def f_X11_culprits_57 : Nat → Nat → Int32 → Int32 → Int32 → Int32 → dtM → Option (Int32 × dtM)
  | 0, _, _, _, _, _, _ => none
  | n + 1, l0, l1, l2, l4, l5, μ =>
    (opGR 11 5 μ l0).bind fun x1 => (opGI 3 3 μ x1).bind fun x3 => if x3 ≤ l5 then ((opRv 11 μ l0).bind fun _ => opCall (f_X11_answer l0 l4 μ) fun x11 μ9 => some (x11, μ9)) else ((opGR 11 5 μ l0).bind fun x12 => (opGR 11 5 μ l0).bind fun x14 => (opGR 3 14 μ x14).bind fun x16 => (opLI 1 μ x16 l5).bind fun x18 => (opGR 11 3 μ l0).bind fun x20 => (opLR 4 μ x20 l1).bind fun x22 => opCall (f_X10_canShutAll x12 x18 x22 l2 μ) fun x26 μ24 => if x26 = 0 then (f_X11_culprits_105 (f_X11_culprits_57 n) l0 l1 l2 l4 l5 μ24) else ((some (l4 ||| ((1 : Int32) <<< (l5 &&& 31)))).bind fun x30 => f_X11_culprits_105 (f_X11_culprits_57 n) l0 l1 l2 x30 l5 μ24))
set_option maxRecDepth 100000 in
def f_X11_culprits_20 (l0 : Nat) (l1 : Int32) (l2 : Int32) (s0 : Int32) (μ : dtM) : Option (Int32 × dtM) :=
  if s0 = 0 then ((opGR 11 3 μ l0).bind fun x4 => (opLR 4 μ x4 l1).bind fun x6 => (opRv 11 μ l0).bind fun _ => opCall (f_X11_areOpenDoors l0 x6 l2 μ) fun x11 μ9 => if x11 = 0 then ((opRv 11 μ9 l0).bind fun _ => opCall (f_X11_fail l0 (5 : Int32) μ9) fun x18 μ16 => some (x18, μ16)) else (f_X11_culprits_57 dtFuel l0 l1 l2 (0 : Int32) (0 : Int32) μ9)) else ((opRv 11 μ l0).bind fun _ => opCall (f_X11_fail l0 s0 μ) fun x22 μ20 => some (x22, μ20))
set_option maxRecDepth 100000 in
def f_X11_culprits (p0 : Nat) (p1 : Int32) (p2 : Int32) (μ : dtM) : Option (Int32 × dtM) :=
  opCall (f_X11_within p2 (0 : Int32) (6 : Int32) μ) fun x3 μ1 => if x3 = 0 then (f_X11_culprits_20 p0 p1 p2 (1 : Int32) μ1) else ((opRv 11 μ1 p0).bind fun _ => opCall (f_X11_runStatus p0 p1 p2 μ1) fun x10 μ8 => f_X11_culprits_20 p0 p1 p2 x10 μ8)
set_option maxRecDepth 100000 in
theorem c_X11_culprits_105 {r : Int32} {F : dtM} (k57 : Nat → Int32 → Int32 → Int32 → Int32 → dtM → Option (Int32 × dtM)) (hk57 : ∀ (l0 : Nat) (l1 : Int32) (l2 : Int32) (l4 : Int32) (l5 : Int32) (μ : dtM), k57 l0 l1 l2 l4 l5 μ = some (r, F) → dtW yX11_culprits cX11_culprits 6 (some .int) 5 (some (.int r)) F 57 [some (.ref l0), some (.int l1), some (.int l2), none, some (.int l4), some (.int l5)] [] μ) (l0 : Nat) (l1 : Int32) (l2 : Int32) (l4 : Int32) (l5 : Int32) (μ : dtM) (h : f_X11_culprits_105 k57 l0 l1 l2 l4 l5 μ = some (r, F)) : dtW yX11_culprits cX11_culprits 6 (some .int) 5 (some (.int r)) F 105 [some (.ref l0), some (.int l1), some (.int l2), none, some (.int l4), some (.int l5)] [] μ := by
  rw [f_X11_culprits_105] at h
  refine dr_iinc l5 (l5 + 1) [some (.ref l0), some (.int l1), some (.int l2), none, some (.int l4), some (.int (l5 + 1))] dX11_culprits_105 rfl rfl rfl rfl rfl ?_
  refine dr_goto 57 dX11_culprits_108 (by decide) ?_
  exact hk57 l0 l1 l2 l4 (l5 + 1) μ h
set_option maxRecDepth 100000 in
theorem c_X11_culprits_57 {r : Int32} {F : dtM} : ∀ (n : Nat) (l0 : Nat) (l1 : Int32) (l2 : Int32) (l4 : Int32) (l5 : Int32) (μ : dtM), f_X11_culprits_57 n l0 l1 l2 l4 l5 μ = some (r, F) → dtW yX11_culprits cX11_culprits 6 (some .int) 5 (some (.int r)) F 57 [some (.ref l0), some (.int l1), some (.int l2), none, some (.int l4), some (.int l5)] [] μ := by
  intro n
  induction n with
  | zero => intro l0 l1 l2 l4 l5 μ h; cases h
  | succ n ih =>
    intro l0 l1 l2 l4 l5 μ h
    have h := (show f_X11_culprits_57 (n + 1) l0 l1 l2 l4 l5 μ = some _ from h)
    rw [f_X11_culprits_57] at h
    refine dr_iload l5 dX11_culprits_57 rfl ?_
    refine dr_aload_n l0 dX11_culprits_59 rfl ?_
    obtain ⟨x1, e2, h⟩ := dtBind h
    refine dr_getR x1 dX11_culprits_60 fl_RX11_37 e2 ?_
    obtain ⟨x3, e4, h⟩ := dtBind h
    refine dr_getI x3 dX11_culprits_63 fl_RX11_189 e4 ?_
    obtain ⟨ht6, hf7⟩ := dtIte h
    refine dr_icmp_ge 111 dX11_culprits_66 (by decide) (fun hc5 => ?_) (fun hc5 => ?_)
    · have h := ht6 hc5
      refine dr_aload_n l0 dX11_culprits_111 rfl ?_
      refine dr_iload l4 dX11_culprits_112 rfl ?_
      obtain ⟨_, hb8, h⟩ := dtBind h
      obtain ⟨x11, μ9, e10, h⟩ := dtCall h
      refine dr_callV_i (S0 := []) [.int l4] x11 μ9 dX11_culprits_114 (c_X11_answer l0 l4 μ e10) mf_X11_answer wt_764 ws_19 wt_762 rfl (dtRv hb8) (by decide) rfl (Nat.le_of_ble_eq_true rfl) (Nat.le_of_ble_eq_true rfl) rfl ?_
      cases h
      exact dr_ireturn dX11_culprits_117 rfl
    · have h := hf7 hc5
      refine dr_aload_n l0 dX11_culprits_69 rfl ?_
      obtain ⟨x12, e13, h⟩ := dtBind h
      refine dr_getR x12 dX11_culprits_70 fl_RX11_37 e13 ?_
      refine dr_aload_n l0 dX11_culprits_73 rfl ?_
      obtain ⟨x14, e15, h⟩ := dtBind h
      refine dr_getR x14 dX11_culprits_74 fl_RX11_37 e15 ?_
      obtain ⟨x16, e17, h⟩ := dtBind h
      refine dr_getR x16 dX11_culprits_77 fl_RX11_253 e17 ?_
      refine dr_iload l5 dX11_culprits_80 rfl ?_
      obtain ⟨x18, e19, h⟩ := dtBind h
      refine dr_iaload x18 dX11_culprits_82 e19 ?_
      refine dr_aload_n l0 dX11_culprits_83 rfl ?_
      obtain ⟨x20, e21, h⟩ := dtBind h
      refine dr_getR x20 dX11_culprits_84 fl_RX11_22 e21 ?_
      refine dr_iload_n l1 dX11_culprits_87 rfl ?_
      obtain ⟨x22, e23, h⟩ := dtBind h
      refine dr_aaload4 x22 dX11_culprits_88 e23 ?_
      refine dr_iload_n l2 dX11_culprits_89 rfl ?_
      obtain ⟨x26, μ24, e25, h⟩ := dtCall h
      refine dr_callS_i (S0 := []) [.ref x12, .int x18, .ref x22, .int l2] x26 μ24 dX11_culprits_90 (c_X10_canShutAll x12 x18 x22 l2 μ e25) mf_X10_canShutAll wt_1207 wt_1206 rfl (Nat.le_of_ble_eq_true rfl) (Nat.le_of_ble_eq_true rfl) rfl ?_
      obtain ⟨ht28, hf29⟩ := dtIte h
      refine dr_if_eq 105 dX11_culprits_93 (by decide) (fun hc27 => ?_) (fun hc27 => ?_)
      · have h := ht28 hc27
        exact c_X11_culprits_105 (f_X11_culprits_57 n) ih l0 l1 l2 l4 l5 μ24 h
      · have h := hf29 hc27
        refine dr_iload l4 dX11_culprits_96 rfl ?_
        refine dr_iconst (1 : Int32) dX11_culprits_98 (by decide) ?_
        refine dr_iload l5 dX11_culprits_99 rfl ?_
        refine dr_ishl dX11_culprits_101 ?_
        refine dr_ior dX11_culprits_102 ?_
        obtain ⟨x30, e31, h⟩ := dtBind h
        refine dr_nmi e31 ?_
        refine dr_istore [some (.ref l0), some (.int l1), some (.int l2), none, some (.int x30), some (.int l5)] dX11_culprits_103 rfl rfl rfl ?_
        exact c_X11_culprits_105 (f_X11_culprits_57 n) ih l0 l1 l2 x30 l5 μ24 h
set_option maxRecDepth 100000 in
theorem c_X11_culprits_20 {r : Int32} {F : dtM} (l0 : Nat) (l1 : Int32) (l2 : Int32) (s0 : Int32) (μ : dtM) (h : f_X11_culprits_20 l0 l1 l2 s0 μ = some (r, F)) : dtW yX11_culprits cX11_culprits 6 (some .int) 5 (some (.int r)) F 20 [some (.ref l0), some (.int l1), some (.int l2)] [.int s0] μ := by
  rw [f_X11_culprits_20] at h
  refine dr_istore_n 3 [some (.ref l0), some (.int l1), some (.int l2), some (.int s0)] dX11_culprits_20 rfl rfl rfl rfl ?_
  refine dr_iload_n s0 dX11_culprits_21 rfl ?_
  obtain ⟨ht2, hf3⟩ := dtIte h
  refine dr_if_eq 31 dX11_culprits_22 (by decide) (fun hc1 => ?_) (fun hc1 => ?_)
  · have h := ht2 hc1
    refine dr_aload_n l0 dX11_culprits_31 rfl ?_
    refine dr_aload_n l0 dX11_culprits_32 rfl ?_
    obtain ⟨x4, e5, h⟩ := dtBind h
    refine dr_getR x4 dX11_culprits_33 fl_RX11_22 e5 ?_
    refine dr_iload_n l1 dX11_culprits_36 rfl ?_
    obtain ⟨x6, e7, h⟩ := dtBind h
    refine dr_aaload4 x6 dX11_culprits_37 e7 ?_
    refine dr_iload_n l2 dX11_culprits_38 rfl ?_
    obtain ⟨_, hb8, h⟩ := dtBind h
    obtain ⟨x11, μ9, e10, h⟩ := dtCall h
    refine dr_callV_i (S0 := []) [.ref x6, .int l2] x11 μ9 dX11_culprits_39 (c_X11_areOpenDoors l0 x6 l2 μ e10) mf_X11_areOpenDoors wt_1204 ws_41 wt_1202 rfl (dtRv hb8) (by decide) rfl (Nat.le_of_ble_eq_true rfl) (Nat.le_of_ble_eq_true rfl) rfl ?_
    obtain ⟨ht13, hf14⟩ := dtIte h
    refine dr_if_ne 51 dX11_culprits_42 (by decide) (fun hc12 => ?_) (fun hc12 => ?_)
    · have h := hf14 hc12
      refine dr_iconst (0 : Int32) dX11_culprits_51 (by decide) ?_
      refine dr_istore [some (.ref l0), some (.int l1), some (.int l2), some (.int s0), some (.int (0 : Int32))] dX11_culprits_52 rfl rfl rfl ?_
      refine dr_iconst (0 : Int32) dX11_culprits_54 (by decide) ?_
      refine dr_istore [some (.ref l0), some (.int l1), some (.int l2), some (.int s0), some (.int (0 : Int32)), some (.int (0 : Int32))] dX11_culprits_55 rfl rfl rfl ?_
      refine dr_mask [true, true, true, false, true, true] [some (.ref l0), some (.int l1), some (.int l2), none, some (.int (0 : Int32)), some (.int (0 : Int32))] rfl ?_
      exact c_X11_culprits_57 dtFuel l0 l1 l2 (0 : Int32) (0 : Int32) μ9 h
    · have h := ht13 hc12
      refine dr_aload_n l0 dX11_culprits_45 rfl ?_
      refine dr_iconst (5 : Int32) dX11_culprits_46 (by decide) ?_
      obtain ⟨_, hb15, h⟩ := dtBind h
      obtain ⟨x18, μ16, e17, h⟩ := dtCall h
      refine dr_callV_i (S0 := []) [.int (5 : Int32)] x18 μ16 dX11_culprits_47 (c_X11_fail l0 (5 : Int32) μ9 e17) mf_X11_fail wt_510 ws_3 wt_508 rfl (dtRv hb15) (by decide) rfl (Nat.le_of_ble_eq_true rfl) (Nat.le_of_ble_eq_true rfl) rfl ?_
      cases h
      exact dr_ireturn dX11_culprits_50 rfl
  · have h := hf3 hc1
    refine dr_aload_n l0 dX11_culprits_25 rfl ?_
    refine dr_iload_n s0 dX11_culprits_26 rfl ?_
    obtain ⟨_, hb19, h⟩ := dtBind h
    obtain ⟨x22, μ20, e21, h⟩ := dtCall h
    refine dr_callV_i (S0 := []) [.int s0] x22 μ20 dX11_culprits_27 (c_X11_fail l0 s0 μ e21) mf_X11_fail wt_510 ws_3 wt_508 rfl (dtRv hb19) (by decide) rfl (Nat.le_of_ble_eq_true rfl) (Nat.le_of_ble_eq_true rfl) rfl ?_
    cases h
    exact dr_ireturn dX11_culprits_30 rfl
set_option maxRecDepth 100000 in
theorem c_X11_culprits {r : Int32} {F : dtM} (p0 : Nat) (p1 : Int32) (p2 : Int32) (μ : dtM) (h : f_X11_culprits p0 p1 p2 μ = some (r, F)) : dtMet yX11_culprits cX11_culprits 6 (some .int) 5 [.ref p0, .int p1, .int p2] μ (some (.int r)) F := by
  refine dtMet.of (by decide +kernel) (Nat.le_of_ble_eq_true rfl) (show dtW yX11_culprits cX11_culprits 6 (some .int) 5 (some (.int r)) F 0 [some (.ref p0), some (.int p1), some (.int p2)] [] μ from ?_)
  rw [f_X11_culprits] at h
  refine dr_iload_n p2 dX11_culprits_0 rfl ?_
  refine dr_iconst (0 : Int32) dX11_culprits_1 (by decide) ?_
  refine dr_bipush (6 : Int32) dX11_culprits_2 (by decide) ?_
  obtain ⟨x3, μ1, e2, h⟩ := dtCall h
  refine dr_callS_i (S0 := []) [.int p2, .int (0 : Int32), .int (6 : Int32)] x3 μ1 dX11_culprits_4 (c_X11_within p2 (0 : Int32) (6 : Int32) μ e2) mf_X11_within wt_478 wt_477 rfl (Nat.le_of_ble_eq_true rfl) (Nat.le_of_ble_eq_true rfl) rfl ?_
  obtain ⟨ht5, hf6⟩ := dtIte h
  refine dr_if_eq 19 dX11_culprits_7 (by decide) (fun hc4 => ?_) (fun hc4 => ?_)
  · have h := ht5 hc4
    refine dr_iconst (1 : Int32) dX11_culprits_19 (by decide) ?_
    exact c_X11_culprits_20 p0 p1 p2 (1 : Int32) μ1 h
  · have h := hf6 hc4
    refine dr_aload_n p0 dX11_culprits_10 rfl ?_
    refine dr_iload_n p1 dX11_culprits_11 rfl ?_
    refine dr_iload_n p2 dX11_culprits_12 rfl ?_
    obtain ⟨_, hb7, h⟩ := dtBind h
    obtain ⟨x10, μ8, e9, h⟩ := dtCall h
    refine dr_callV_i (S0 := []) [.int p1, .int p2] x10 μ8 dX11_culprits_13 (c_X11_runStatus p0 p1 p2 μ1 e9) mf_X11_runStatus wt_957 ws_31 wt_955 rfl (dtRv hb7) (by decide) rfl (Nat.le_of_ble_eq_true rfl) (Nat.le_of_ble_eq_true rfl) rfl ?_
    refine dr_goto 20 dX11_culprits_16 (by decide) ?_
    exact c_X11_culprits_20 p0 p1 p2 x10 μ8 h
/-! X11_game -/
theorem dX11_game_0 : decode cX11_game 0 = .ok (.aload_n 0, 1) := by decide +kernel
theorem dX11_game_1 : decode cX11_game 1 = .ok (.getfield 37, 3) := by decide +kernel
theorem dX11_game_4 : decode cX11_game 4 = .ok (.iload_n 1, 1) := by decide +kernel
theorem dX11_game_5 : decode cX11_game 5 = .ok (.invokevirtual 250, 3) := by decide +kernel
theorem dX11_game_8 : decode cX11_game 8 = .ok (.ifCond .eq 12, 3) := by decide +kernel
theorem dX11_game_11 : decode cX11_game 11 = .ok (.iload_n 2, 1) := by decide +kernel
theorem dX11_game_12 : decode cX11_game 12 = .ok (.iconst 0, 1) := by decide +kernel
theorem dX11_game_13 : decode cX11_game 13 = .ok (.iconst 4, 1) := by decide +kernel
theorem dX11_game_14 : decode cX11_game 14 = .ok (.invokestatic 115, 3) := by decide +kernel
theorem dX11_game_17 : decode cX11_game 17 = .ok (.ifCond .ne 9, 3) := by decide +kernel
theorem dX11_game_20 : decode cX11_game 20 = .ok (.aload_n 0, 1) := by decide +kernel
theorem dX11_game_21 : decode cX11_game 21 = .ok (.iconst 1, 1) := by decide +kernel
theorem dX11_game_22 : decode cX11_game 22 = .ok (.invokevirtual 138, 3) := by decide +kernel
theorem dX11_game_25 : decode cX11_game 25 = .ok (.ireturn, 1) := by decide +kernel
theorem dX11_game_26 : decode cX11_game 26 = .ok (.aload_n 0, 1) := by decide +kernel
theorem dX11_game_27 : decode cX11_game 27 = .ok (.aload_n 0, 1) := by decide +kernel
theorem dX11_game_28 : decode cX11_game 28 = .ok (.getfield 96, 3) := by decide +kernel
theorem dX11_game_31 : decode cX11_game 31 = .ok (.aload_n 0, 1) := by decide +kernel
theorem dX11_game_32 : decode cX11_game 32 = .ok (.getfield 37, 3) := by decide +kernel
theorem dX11_game_35 : decode cX11_game 35 = .ok (.aload_n 0, 1) := by decide +kernel
theorem dX11_game_36 : decode cX11_game 36 = .ok (.getfield 37, 3) := by decide +kernel
theorem dX11_game_39 : decode cX11_game 39 = .ok (.getfield 253, 3) := by decide +kernel
theorem dX11_game_42 : decode cX11_game 42 = .ok (.iload_n 1, 1) := by decide +kernel
theorem dX11_game_43 : decode cX11_game 43 = .ok (.iaload, 1) := by decide +kernel
theorem dX11_game_44 : decode cX11_game 44 = .ok (.iload_n 2, 1) := by decide +kernel
theorem dX11_game_45 : decode cX11_game 45 = .ok (.invokevirtual 393, 3) := by decide +kernel
theorem dX11_game_48 : decode cX11_game 48 = .ok (.invokevirtual 192, 3) := by decide +kernel
theorem dX11_game_51 : decode cX11_game 51 = .ok (.ireturn, 1) := by decide +kernel
set_option maxRecDepth 100000 in
def f_X11_game_20 (l0 : Nat) (μ : dtM) : Option (Int32 × dtM) :=
  (opRv 11 μ l0).bind fun _ => opCall (f_X11_fail l0 (1 : Int32) μ) fun x4 μ2 => some (x4, μ2)
set_option maxRecDepth 100000 in
def f_X11_game (p0 : Nat) (p1 : Int32) (p2 : Int32) (μ : dtM) : Option (Int32 × dtM) :=
  (opGR 11 5 μ p0).bind fun x1 => (opRv 3 μ x1).bind fun _ => opCall (f_X3_hasPerson x1 p1 μ) fun x6 μ4 => if x6 = 0 then (f_X11_game_20 p0 μ4) else (opCall (f_X11_within p2 (0 : Int32) (4 : Int32) μ4) fun x12 μ10 => if x12 = 0 then (f_X11_game_20 p0 μ10) else ((opGR 11 16 μ10 p0).bind fun x16 => (opGR 11 5 μ10 p0).bind fun x18 => (opGR 11 5 μ10 p0).bind fun x20 => (opGR 3 14 μ10 x20).bind fun x22 => (opLI 1 μ10 x22 p1).bind fun x24 => (opRv 10 μ10 x16).bind fun _ => opCall (f_X10_outcome x16 x18 x24 p2 μ10) fun x29 μ27 => (opRv 11 μ27 p0).bind fun _ => opCall (f_X11_answer p0 x29 μ27) fun x33 μ31 => some (x33, μ31)))
set_option maxRecDepth 100000 in
theorem c_X11_game_20 {r : Int32} {F : dtM} (l0 : Nat) (μ : dtM) (h : f_X11_game_20 l0 μ = some (r, F)) : dtW yX11_game cX11_game 3 (some .int) 6 (some (.int r)) F 20 [some (.ref l0)] [] μ := by
  rw [f_X11_game_20] at h
  refine dr_aload_n l0 dX11_game_20 rfl ?_
  refine dr_iconst (1 : Int32) dX11_game_21 (by decide) ?_
  obtain ⟨_, hb1, h⟩ := dtBind h
  obtain ⟨x4, μ2, e3, h⟩ := dtCall h
  refine dr_callV_i (S0 := []) [.int (1 : Int32)] x4 μ2 dX11_game_22 (c_X11_fail l0 (1 : Int32) μ e3) mf_X11_fail wt_510 ws_3 wt_508 rfl (dtRv hb1) (by decide) rfl (Nat.le_of_ble_eq_true rfl) (Nat.le_of_ble_eq_true rfl) rfl ?_
  cases h
  exact dr_ireturn dX11_game_25 rfl
set_option maxRecDepth 100000 in
theorem c_X11_game {r : Int32} {F : dtM} (p0 : Nat) (p1 : Int32) (p2 : Int32) (μ : dtM) (h : f_X11_game p0 p1 p2 μ = some (r, F)) : dtMet yX11_game cX11_game 3 (some .int) 6 [.ref p0, .int p1, .int p2] μ (some (.int r)) F := by
  refine dtMet.of (by decide +kernel) (Nat.le_of_ble_eq_true rfl) (show dtW yX11_game cX11_game 3 (some .int) 6 (some (.int r)) F 0 [some (.ref p0), some (.int p1), some (.int p2)] [] μ from ?_)
  rw [f_X11_game] at h
  refine dr_aload_n p0 dX11_game_0 rfl ?_
  obtain ⟨x1, e2, h⟩ := dtBind h
  refine dr_getR x1 dX11_game_1 fl_RX11_37 e2 ?_
  refine dr_iload_n p1 dX11_game_4 rfl ?_
  obtain ⟨_, hb3, h⟩ := dtBind h
  obtain ⟨x6, μ4, e5, h⟩ := dtCall h
  refine dr_callV_i (S0 := []) [.int p1] x6 μ4 dX11_game_5 (c_X3_hasPerson x1 p1 μ e5) mf_X3_hasPerson wt_867 wt_868 wt_866 rfl (dtRv hb3) (by decide) rfl (Nat.le_of_ble_eq_true rfl) (Nat.le_of_ble_eq_true rfl) rfl ?_
  obtain ⟨ht8, hf9⟩ := dtIte h
  refine dr_if_eq 20 dX11_game_8 (by decide) (fun hc7 => ?_) (fun hc7 => ?_)
  · have h := ht8 hc7
    refine dr_mask [true] [some (.ref p0)] rfl ?_
    exact c_X11_game_20 p0 μ4 h
  · have h := hf9 hc7
    refine dr_iload_n p2 dX11_game_11 rfl ?_
    refine dr_iconst (0 : Int32) dX11_game_12 (by decide) ?_
    refine dr_iconst (4 : Int32) dX11_game_13 (by decide) ?_
    obtain ⟨x12, μ10, e11, h⟩ := dtCall h
    refine dr_callS_i (S0 := []) [.int p2, .int (0 : Int32), .int (4 : Int32)] x12 μ10 dX11_game_14 (c_X11_within p2 (0 : Int32) (4 : Int32) μ4 e11) mf_X11_within wt_478 wt_477 rfl (Nat.le_of_ble_eq_true rfl) (Nat.le_of_ble_eq_true rfl) rfl ?_
    obtain ⟨ht14, hf15⟩ := dtIte h
    refine dr_if_ne 26 dX11_game_17 (by decide) (fun hc13 => ?_) (fun hc13 => ?_)
    · have h := hf15 hc13
      refine dr_aload_n p0 dX11_game_26 rfl ?_
      refine dr_aload_n p0 dX11_game_27 rfl ?_
      obtain ⟨x16, e17, h⟩ := dtBind h
      refine dr_getR x16 dX11_game_28 fl_RX11_96 e17 ?_
      refine dr_aload_n p0 dX11_game_31 rfl ?_
      obtain ⟨x18, e19, h⟩ := dtBind h
      refine dr_getR x18 dX11_game_32 fl_RX11_37 e19 ?_
      refine dr_aload_n p0 dX11_game_35 rfl ?_
      obtain ⟨x20, e21, h⟩ := dtBind h
      refine dr_getR x20 dX11_game_36 fl_RX11_37 e21 ?_
      obtain ⟨x22, e23, h⟩ := dtBind h
      refine dr_getR x22 dX11_game_39 fl_RX11_253 e23 ?_
      refine dr_iload_n p1 dX11_game_42 rfl ?_
      obtain ⟨x24, e25, h⟩ := dtBind h
      refine dr_iaload x24 dX11_game_43 e25 ?_
      refine dr_iload_n p2 dX11_game_44 rfl ?_
      obtain ⟨_, hb26, h⟩ := dtBind h
      obtain ⟨x29, μ27, e28, h⟩ := dtCall h
      refine dr_callV_i (S0 := [.ref p0]) [.ref x18, .int x24, .int p2] x29 μ27 dX11_game_45 (c_X10_outcome x16 x18 x24 p2 μ10 e28) mf_X10_outcome wt_1215 wt_1216 wt_1214 rfl (dtRv hb26) (by decide) rfl (Nat.le_of_ble_eq_true rfl) (Nat.le_of_ble_eq_true rfl) rfl ?_
      obtain ⟨_, hb30, h⟩ := dtBind h
      obtain ⟨x33, μ31, e32, h⟩ := dtCall h
      refine dr_callV_i (S0 := []) [.int x29] x33 μ31 dX11_game_48 (c_X11_answer p0 x29 μ27 e32) mf_X11_answer wt_764 ws_19 wt_762 rfl (dtRv hb30) (by decide) rfl (Nat.le_of_ble_eq_true rfl) (Nat.le_of_ble_eq_true rfl) rfl ?_
      cases h
      exact dr_ireturn dX11_game_51 rfl
    · have h := ht14 hc13
      refine dr_mask [true] [some (.ref p0)] rfl ?_
      exact c_X11_game_20 p0 μ10 h
/-! X11_moveOf -/
theorem dX11_moveOf_0 : decode cX11_moveOf 0 = .ok (.aload_n 0, 1) := by decide +kernel
theorem dX11_moveOf_1 : decode cX11_moveOf 1 = .ok (.getfield 37, 3) := by decide +kernel
theorem dX11_moveOf_4 : decode cX11_moveOf 4 = .ok (.iload_n 1, 1) := by decide +kernel
theorem dX11_moveOf_5 : decode cX11_moveOf 5 = .ok (.invokevirtual 250, 3) := by decide +kernel
theorem dX11_moveOf_8 : decode cX11_moveOf 8 = .ok (.ifCond .eq 12, 3) := by decide +kernel
theorem dX11_moveOf_11 : decode cX11_moveOf 11 = .ok (.iload_n 2, 1) := by decide +kernel
theorem dX11_moveOf_12 : decode cX11_moveOf 12 = .ok (.iconst 1, 1) := by decide +kernel
theorem dX11_moveOf_13 : decode cX11_moveOf 13 = .ok (.iconst 4, 1) := by decide +kernel
theorem dX11_moveOf_14 : decode cX11_moveOf 14 = .ok (.invokestatic 115, 3) := by decide +kernel
theorem dX11_moveOf_17 : decode cX11_moveOf 17 = .ok (.ifCond .ne 9, 3) := by decide +kernel
theorem dX11_moveOf_20 : decode cX11_moveOf 20 = .ok (.aload_n 0, 1) := by decide +kernel
theorem dX11_moveOf_21 : decode cX11_moveOf 21 = .ok (.iconst 1, 1) := by decide +kernel
theorem dX11_moveOf_22 : decode cX11_moveOf 22 = .ok (.invokevirtual 138, 3) := by decide +kernel
theorem dX11_moveOf_25 : decode cX11_moveOf 25 = .ok (.ireturn, 1) := by decide +kernel
theorem dX11_moveOf_26 : decode cX11_moveOf 26 = .ok (.aload_n 0, 1) := by decide +kernel
theorem dX11_moveOf_27 : decode cX11_moveOf 27 = .ok (.aload_n 0, 1) := by decide +kernel
theorem dX11_moveOf_28 : decode cX11_moveOf 28 = .ok (.getfield 96, 3) := by decide +kernel
theorem dX11_moveOf_31 : decode cX11_moveOf 31 = .ok (.aload_n 0, 1) := by decide +kernel
theorem dX11_moveOf_32 : decode cX11_moveOf 32 = .ok (.getfield 37, 3) := by decide +kernel
theorem dX11_moveOf_35 : decode cX11_moveOf 35 = .ok (.aload_n 0, 1) := by decide +kernel
theorem dX11_moveOf_36 : decode cX11_moveOf 36 = .ok (.getfield 37, 3) := by decide +kernel
theorem dX11_moveOf_39 : decode cX11_moveOf 39 = .ok (.getfield 253, 3) := by decide +kernel
theorem dX11_moveOf_42 : decode cX11_moveOf 42 = .ok (.iload_n 1, 1) := by decide +kernel
theorem dX11_moveOf_43 : decode cX11_moveOf 43 = .ok (.iaload, 1) := by decide +kernel
theorem dX11_moveOf_44 : decode cX11_moveOf 44 = .ok (.iload_n 2, 1) := by decide +kernel
theorem dX11_moveOf_45 : decode cX11_moveOf 45 = .ok (.invokevirtual 396, 3) := by decide +kernel
theorem dX11_moveOf_48 : decode cX11_moveOf 48 = .ok (.invokevirtual 321, 3) := by decide +kernel
theorem dX11_moveOf_51 : decode cX11_moveOf 51 = .ok (.ireturn, 1) := by decide +kernel
set_option maxRecDepth 100000 in
def f_X11_moveOf_20 (l0 : Nat) (μ : dtM) : Option (Int32 × dtM) :=
  (opRv 11 μ l0).bind fun _ => opCall (f_X11_fail l0 (1 : Int32) μ) fun x4 μ2 => some (x4, μ2)
set_option maxRecDepth 100000 in
def f_X11_moveOf (p0 : Nat) (p1 : Int32) (p2 : Int32) (μ : dtM) : Option (Int32 × dtM) :=
  (opGR 11 5 μ p0).bind fun x1 => (opRv 3 μ x1).bind fun _ => opCall (f_X3_hasPerson x1 p1 μ) fun x6 μ4 => if x6 = 0 then (f_X11_moveOf_20 p0 μ4) else (opCall (f_X11_within p2 (1 : Int32) (4 : Int32) μ4) fun x12 μ10 => if x12 = 0 then (f_X11_moveOf_20 p0 μ10) else ((opGR 11 16 μ10 p0).bind fun x16 => (opGR 11 5 μ10 p0).bind fun x18 => (opGR 11 5 μ10 p0).bind fun x20 => (opGR 3 14 μ10 x20).bind fun x22 => (opLI 1 μ10 x22 p1).bind fun x24 => (opRv 10 μ10 x16).bind fun _ => opCall (f_X10_bestMove x16 x18 x24 p2 μ10) fun x29 μ27 => (opRv 11 μ27 p0).bind fun _ => opCall (f_X11_found p0 x29 μ27) fun x33 μ31 => some (x33, μ31)))
set_option maxRecDepth 100000 in
theorem c_X11_moveOf_20 {r : Int32} {F : dtM} (l0 : Nat) (μ : dtM) (h : f_X11_moveOf_20 l0 μ = some (r, F)) : dtW yX11_moveOf cX11_moveOf 3 (some .int) 6 (some (.int r)) F 20 [some (.ref l0)] [] μ := by
  rw [f_X11_moveOf_20] at h
  refine dr_aload_n l0 dX11_moveOf_20 rfl ?_
  refine dr_iconst (1 : Int32) dX11_moveOf_21 (by decide) ?_
  obtain ⟨_, hb1, h⟩ := dtBind h
  obtain ⟨x4, μ2, e3, h⟩ := dtCall h
  refine dr_callV_i (S0 := []) [.int (1 : Int32)] x4 μ2 dX11_moveOf_22 (c_X11_fail l0 (1 : Int32) μ e3) mf_X11_fail wt_510 ws_3 wt_508 rfl (dtRv hb1) (by decide) rfl (Nat.le_of_ble_eq_true rfl) (Nat.le_of_ble_eq_true rfl) rfl ?_
  cases h
  exact dr_ireturn dX11_moveOf_25 rfl
set_option maxRecDepth 100000 in
theorem c_X11_moveOf {r : Int32} {F : dtM} (p0 : Nat) (p1 : Int32) (p2 : Int32) (μ : dtM) (h : f_X11_moveOf p0 p1 p2 μ = some (r, F)) : dtMet yX11_moveOf cX11_moveOf 3 (some .int) 6 [.ref p0, .int p1, .int p2] μ (some (.int r)) F := by
  refine dtMet.of (by decide +kernel) (Nat.le_of_ble_eq_true rfl) (show dtW yX11_moveOf cX11_moveOf 3 (some .int) 6 (some (.int r)) F 0 [some (.ref p0), some (.int p1), some (.int p2)] [] μ from ?_)
  rw [f_X11_moveOf] at h
  refine dr_aload_n p0 dX11_moveOf_0 rfl ?_
  obtain ⟨x1, e2, h⟩ := dtBind h
  refine dr_getR x1 dX11_moveOf_1 fl_RX11_37 e2 ?_
  refine dr_iload_n p1 dX11_moveOf_4 rfl ?_
  obtain ⟨_, hb3, h⟩ := dtBind h
  obtain ⟨x6, μ4, e5, h⟩ := dtCall h
  refine dr_callV_i (S0 := []) [.int p1] x6 μ4 dX11_moveOf_5 (c_X3_hasPerson x1 p1 μ e5) mf_X3_hasPerson wt_867 wt_868 wt_866 rfl (dtRv hb3) (by decide) rfl (Nat.le_of_ble_eq_true rfl) (Nat.le_of_ble_eq_true rfl) rfl ?_
  obtain ⟨ht8, hf9⟩ := dtIte h
  refine dr_if_eq 20 dX11_moveOf_8 (by decide) (fun hc7 => ?_) (fun hc7 => ?_)
  · have h := ht8 hc7
    refine dr_mask [true] [some (.ref p0)] rfl ?_
    exact c_X11_moveOf_20 p0 μ4 h
  · have h := hf9 hc7
    refine dr_iload_n p2 dX11_moveOf_11 rfl ?_
    refine dr_iconst (1 : Int32) dX11_moveOf_12 (by decide) ?_
    refine dr_iconst (4 : Int32) dX11_moveOf_13 (by decide) ?_
    obtain ⟨x12, μ10, e11, h⟩ := dtCall h
    refine dr_callS_i (S0 := []) [.int p2, .int (1 : Int32), .int (4 : Int32)] x12 μ10 dX11_moveOf_14 (c_X11_within p2 (1 : Int32) (4 : Int32) μ4 e11) mf_X11_within wt_478 wt_477 rfl (Nat.le_of_ble_eq_true rfl) (Nat.le_of_ble_eq_true rfl) rfl ?_
    obtain ⟨ht14, hf15⟩ := dtIte h
    refine dr_if_ne 26 dX11_moveOf_17 (by decide) (fun hc13 => ?_) (fun hc13 => ?_)
    · have h := hf15 hc13
      refine dr_aload_n p0 dX11_moveOf_26 rfl ?_
      refine dr_aload_n p0 dX11_moveOf_27 rfl ?_
      obtain ⟨x16, e17, h⟩ := dtBind h
      refine dr_getR x16 dX11_moveOf_28 fl_RX11_96 e17 ?_
      refine dr_aload_n p0 dX11_moveOf_31 rfl ?_
      obtain ⟨x18, e19, h⟩ := dtBind h
      refine dr_getR x18 dX11_moveOf_32 fl_RX11_37 e19 ?_
      refine dr_aload_n p0 dX11_moveOf_35 rfl ?_
      obtain ⟨x20, e21, h⟩ := dtBind h
      refine dr_getR x20 dX11_moveOf_36 fl_RX11_37 e21 ?_
      obtain ⟨x22, e23, h⟩ := dtBind h
      refine dr_getR x22 dX11_moveOf_39 fl_RX11_253 e23 ?_
      refine dr_iload_n p1 dX11_moveOf_42 rfl ?_
      obtain ⟨x24, e25, h⟩ := dtBind h
      refine dr_iaload x24 dX11_moveOf_43 e25 ?_
      refine dr_iload_n p2 dX11_moveOf_44 rfl ?_
      obtain ⟨_, hb26, h⟩ := dtBind h
      obtain ⟨x29, μ27, e28, h⟩ := dtCall h
      refine dr_callV_i (S0 := [.ref p0]) [.ref x18, .int x24, .int p2] x29 μ27 dX11_moveOf_45 (c_X10_bestMove x16 x18 x24 p2 μ10 e28) mf_X10_bestMove wt_1237 wt_1238 wt_1236 rfl (dtRv hb26) (by decide) rfl (Nat.le_of_ble_eq_true rfl) (Nat.le_of_ble_eq_true rfl) rfl ?_
      obtain ⟨_, hb30, h⟩ := dtBind h
      obtain ⟨x33, μ31, e32, h⟩ := dtCall h
      refine dr_callV_i (S0 := []) [.int x29] x33 μ31 dX11_moveOf_48 (c_X11_found p0 x29 μ27 e32) mf_X11_found wt_1001 ws_32 wt_999 rfl (dtRv hb30) (by decide) rfl (Nat.le_of_ble_eq_true rfl) (Nat.le_of_ble_eq_true rfl) rfl ?_
      cases h
      exact dr_ireturn dX11_moveOf_51 rfl
    · have h := ht14 hc13
      refine dr_mask [true] [some (.ref p0)] rfl ?_
      exact c_X11_moveOf_20 p0 μ10 h
/-! X11_power -/
theorem dX11_power_0 : decode cX11_power 0 = .ok (.lconst 1, 1) := by decide +kernel
theorem dX11_power_1 : decode cX11_power 1 = .ok (.lstore_n 2, 1) := by decide +kernel
theorem dX11_power_2 : decode cX11_power 2 = .ok (.iconst 0, 1) := by decide +kernel
theorem dX11_power_3 : decode cX11_power 3 = .ok (.istore 4, 2) := by decide +kernel
theorem dX11_power_5 : decode cX11_power 5 = .ok (.iload 4, 2) := by decide +kernel
theorem dX11_power_7 : decode cX11_power 7 = .ok (.iload_n 1, 1) := by decide +kernel
theorem dX11_power_8 : decode cX11_power 8 = .ok (.if_icmp .ge 14, 3) := by decide +kernel
theorem dX11_power_11 : decode cX11_power 11 = .ok (.lload_n 2, 1) := by decide +kernel
theorem dX11_power_12 : decode cX11_power 12 = .ok (.iload_n 0, 1) := by decide +kernel
theorem dX11_power_13 : decode cX11_power 13 = .ok (.i2l, 1) := by decide +kernel
theorem dX11_power_14 : decode cX11_power 14 = .ok (.lmul, 1) := by decide +kernel
theorem dX11_power_15 : decode cX11_power 15 = .ok (.lstore_n 2, 1) := by decide +kernel
theorem dX11_power_16 : decode cX11_power 16 = .ok (.iinc 4 1, 3) := by decide +kernel
theorem dX11_power_19 : decode cX11_power 19 = .ok (.goto (-14), 3) := by decide +kernel
theorem dX11_power_22 : decode cX11_power 22 = .ok (.lload_n 2, 1) := by decide +kernel
theorem dX11_power_23 : decode cX11_power 23 = .ok (.lreturn, 1) := by decide +kernel
set_option maxRecDepth 100000 in
def f_X11_power_5 : Nat → Int32 → Int32 → Int64 → Int32 → dtM → Option (Int64 × dtM)
  | 0, _, _, _, _, _ => none
  | n + 1, l0, l1, l2, l4, μ =>
    if l1 ≤ l4 then (some (l2, μ)) else ((some (l2 * (l0.toInt64))).bind fun x4 => f_X11_power_5 n l0 l1 x4 (l4 + 1) μ)
set_option maxRecDepth 100000 in
def f_X11_power (p0 : Int32) (p1 : Int32) (μ : dtM) : Option (Int64 × dtM) :=
  f_X11_power_5 dtFuel p0 p1 (1 : Int64) (0 : Int32) μ
set_option maxRecDepth 100000 in
theorem c_X11_power_5 {r : Int64} {F : dtM} : ∀ (n : Nat) (l0 : Int32) (l1 : Int32) (l2 : Int64) (l4 : Int32) (μ : dtM), f_X11_power_5 n l0 l1 l2 l4 μ = some (r, F) → dtW yX11_power cX11_power 5 (some .long) 1 (some (.long r)) F 5 [some (.int l0), some (.int l1), some (.long l2), none, some (.int l4)] [] μ := by
  intro n
  induction n with
  | zero => intro l0 l1 l2 l4 μ h; cases h
  | succ n ih =>
    intro l0 l1 l2 l4 μ h
    have h := (show f_X11_power_5 (n + 1) l0 l1 l2 l4 μ = some _ from h)
    rw [f_X11_power_5] at h
    refine dr_iload l4 dX11_power_5 rfl ?_
    refine dr_iload_n l1 dX11_power_7 rfl ?_
    obtain ⟨ht2, hf3⟩ := dtIte h
    refine dr_icmp_ge 22 dX11_power_8 (by decide) (fun hc1 => ?_) (fun hc1 => ?_)
    · have h := ht2 hc1
      refine dr_lload_n l2 dX11_power_22 rfl ?_
      cases h
      exact dr_lreturn dX11_power_23
    · have h := hf3 hc1
      refine dr_lload_n l2 dX11_power_11 rfl ?_
      refine dr_iload_n l0 dX11_power_12 rfl ?_
      refine dr_i2l dX11_power_13 ?_
      refine dr_lmul dX11_power_14 ?_
      obtain ⟨x4, e5, h⟩ := dtBind h
      refine dr_nmj e5 ?_
      refine dr_lstore_n 2 [some (.int l0), some (.int l1), some (.long x4), none, some (.int l4)] dX11_power_15 rfl rfl rfl rfl ?_
      refine dr_iinc l4 (l4 + 1) [some (.int l0), some (.int l1), some (.long x4), none, some (.int (l4 + 1))] dX11_power_16 rfl rfl rfl rfl rfl ?_
      refine dr_goto 5 dX11_power_19 (by decide) ?_
      exact ih l0 l1 x4 (l4 + 1) μ h
set_option maxRecDepth 100000 in
theorem c_X11_power {r : Int64} {F : dtM} (p0 : Int32) (p1 : Int32) (μ : dtM) (h : f_X11_power p0 p1 μ = some (r, F)) : dtMet yX11_power cX11_power 5 (some .long) 1 [.int p0, .int p1] μ (some (.long r)) F := by
  refine dtMet.of (by decide +kernel) (Nat.le_of_ble_eq_true rfl) (show dtW yX11_power cX11_power 5 (some .long) 1 (some (.long r)) F 0 [some (.int p0), some (.int p1)] [] μ from ?_)
  rw [f_X11_power] at h
  refine dr_lconst (1 : Int64) dX11_power_0 (by decide) ?_
  refine dr_lstore_n 2 [some (.int p0), some (.int p1), some (.long (1 : Int64)), none] dX11_power_1 rfl rfl rfl rfl ?_
  refine dr_iconst (0 : Int32) dX11_power_2 (by decide) ?_
  refine dr_istore [some (.int p0), some (.int p1), some (.long (1 : Int64)), none, some (.int (0 : Int32))] dX11_power_3 rfl rfl rfl ?_
  exact c_X11_power_5 dtFuel p0 p1 (1 : Int64) (0 : Int32) μ h
/-! X11_commonDivisor -/
theorem dX11_commonDivisor_0 : decode cX11_commonDivisor 0 = .ok (.lload_n 0, 1) := by decide +kernel
theorem dX11_commonDivisor_1 : decode cX11_commonDivisor 1 = .ok (.lstore 4, 2) := by decide +kernel
theorem dX11_commonDivisor_3 : decode cX11_commonDivisor 3 = .ok (.lload_n 2, 1) := by decide +kernel
theorem dX11_commonDivisor_4 : decode cX11_commonDivisor 4 = .ok (.lstore 6, 2) := by decide +kernel
theorem dX11_commonDivisor_6 : decode cX11_commonDivisor 6 = .ok (.iconst 0, 1) := by decide +kernel
theorem dX11_commonDivisor_7 : decode cX11_commonDivisor 7 = .ok (.istore 8, 2) := by decide +kernel
theorem dX11_commonDivisor_9 : decode cX11_commonDivisor 9 = .ok (.iload 8, 2) := by decide +kernel
theorem dX11_commonDivisor_11 : decode cX11_commonDivisor 11 = .ok (.sipush 1000, 3) := by decide +kernel
theorem dX11_commonDivisor_14 : decode cX11_commonDivisor 14 = .ok (.if_icmp .ge 31, 3) := by decide +kernel
theorem dX11_commonDivisor_17 : decode cX11_commonDivisor 17 = .ok (.lload 6, 2) := by decide +kernel
theorem dX11_commonDivisor_19 : decode cX11_commonDivisor 19 = .ok (.lconst 0, 1) := by decide +kernel
theorem dX11_commonDivisor_20 : decode cX11_commonDivisor 20 = .ok (.lcmp, 1) := by decide +kernel
theorem dX11_commonDivisor_21 : decode cX11_commonDivisor 21 = .ok (.ifCond .eq 24, 3) := by decide +kernel
theorem dX11_commonDivisor_24 : decode cX11_commonDivisor 24 = .ok (.lload 4, 2) := by decide +kernel
theorem dX11_commonDivisor_26 : decode cX11_commonDivisor 26 = .ok (.lload 6, 2) := by decide +kernel
theorem dX11_commonDivisor_28 : decode cX11_commonDivisor 28 = .ok (.lrem, 1) := by decide +kernel
theorem dX11_commonDivisor_29 : decode cX11_commonDivisor 29 = .ok (.lstore 9, 2) := by decide +kernel
theorem dX11_commonDivisor_31 : decode cX11_commonDivisor 31 = .ok (.lload 6, 2) := by decide +kernel
theorem dX11_commonDivisor_33 : decode cX11_commonDivisor 33 = .ok (.lstore 4, 2) := by decide +kernel
theorem dX11_commonDivisor_35 : decode cX11_commonDivisor 35 = .ok (.lload 9, 2) := by decide +kernel
theorem dX11_commonDivisor_37 : decode cX11_commonDivisor 37 = .ok (.lstore 6, 2) := by decide +kernel
theorem dX11_commonDivisor_39 : decode cX11_commonDivisor 39 = .ok (.iinc 8 1, 3) := by decide +kernel
theorem dX11_commonDivisor_42 : decode cX11_commonDivisor 42 = .ok (.goto (-33), 3) := by decide +kernel
theorem dX11_commonDivisor_45 : decode cX11_commonDivisor 45 = .ok (.lload 4, 2) := by decide +kernel
theorem dX11_commonDivisor_47 : decode cX11_commonDivisor 47 = .ok (.lreturn, 1) := by decide +kernel
set_option maxRecDepth 100000 in
def f_X11_commonDivisor_45 (l4 : Int64) (μ : dtM) : Option (Int64 × dtM) :=
  some (l4, μ)
set_option maxRecDepth 100000 in
def f_X11_commonDivisor_9 : Nat → Int64 → Int64 → Int32 → dtM → Option (Int64 × dtM)
  | 0, _, _, _, _ => none
  | n + 1, l4, l6, l8, μ =>
    if (1000 : Int32) ≤ l8 then (f_X11_commonDivisor_45 l4 μ) else (if (lg_cmp l6 (0 : Int64)) = 0 then (f_X11_commonDivisor_45 l4 μ) else ((opRemJ l4 l6).bind fun x7 => f_X11_commonDivisor_9 n l6 x7 (l8 + 1) μ))
set_option maxRecDepth 100000 in
def f_X11_commonDivisor (p0 : Int64) (p2 : Int64) (μ : dtM) : Option (Int64 × dtM) :=
  f_X11_commonDivisor_9 dtFuel p0 p2 (0 : Int32) μ
set_option maxRecDepth 100000 in
theorem c_X11_commonDivisor_45 {r : Int64} {F : dtM} (l4 : Int64) (μ : dtM) (h : f_X11_commonDivisor_45 l4 μ = some (r, F)) : dtW yX11_commonDivisor cX11_commonDivisor 11 (some .long) 1 (some (.long r)) F 45 [none, none, none, none, some (.long l4)] [] μ := by
  rw [f_X11_commonDivisor_45] at h
  refine dr_lload l4 dX11_commonDivisor_45 rfl ?_
  cases h
  exact dr_lreturn dX11_commonDivisor_47
set_option maxRecDepth 100000 in
theorem c_X11_commonDivisor_9 {r : Int64} {F : dtM} : ∀ (n : Nat) (l4 : Int64) (l6 : Int64) (l8 : Int32) (μ : dtM), f_X11_commonDivisor_9 n l4 l6 l8 μ = some (r, F) → dtW yX11_commonDivisor cX11_commonDivisor 11 (some .long) 1 (some (.long r)) F 9 [none, none, none, none, some (.long l4), none, some (.long l6), none, some (.int l8)] [] μ := by
  intro n
  induction n with
  | zero => intro l4 l6 l8 μ h; cases h
  | succ n ih =>
    intro l4 l6 l8 μ h
    have h := (show f_X11_commonDivisor_9 (n + 1) l4 l6 l8 μ = some _ from h)
    rw [f_X11_commonDivisor_9] at h
    refine dr_iload l8 dX11_commonDivisor_9 rfl ?_
    refine dr_sipush (1000 : Int32) dX11_commonDivisor_11 (by decide) ?_
    obtain ⟨ht2, hf3⟩ := dtIte h
    refine dr_icmp_ge 45 dX11_commonDivisor_14 (by decide) (fun hc1 => ?_) (fun hc1 => ?_)
    · have h := ht2 hc1
      refine dr_mask [false, false, false, false, true] [none, none, none, none, some (.long l4)] rfl ?_
      exact c_X11_commonDivisor_45 l4 μ h
    · have h := hf3 hc1
      refine dr_lload l6 dX11_commonDivisor_17 rfl ?_
      refine dr_lconst (0 : Int64) dX11_commonDivisor_19 (by decide) ?_
      refine dr_lcmp dX11_commonDivisor_20 ?_
      obtain ⟨ht5, hf6⟩ := dtIte h
      refine dr_if_eq 45 dX11_commonDivisor_21 (by decide) (fun hc4 => ?_) (fun hc4 => ?_)
      · have h := ht5 hc4
        refine dr_mask [false, false, false, false, true] [none, none, none, none, some (.long l4)] rfl ?_
        exact c_X11_commonDivisor_45 l4 μ h
      · have h := hf6 hc4
        refine dr_lload l4 dX11_commonDivisor_24 rfl ?_
        refine dr_lload l6 dX11_commonDivisor_26 rfl ?_
        obtain ⟨x7, e8, h⟩ := dtBind h
        refine dr_lrem_n x7 dX11_commonDivisor_28 e8 ?_
        refine dr_lstore [none, none, none, none, some (.long l4), none, some (.long l6), none, some (.int l8), some (.long x7), none] dX11_commonDivisor_29 rfl rfl rfl ?_
        refine dr_lload l6 dX11_commonDivisor_31 rfl ?_
        refine dr_lstore [none, none, none, none, some (.long l6), none, some (.long l6), none, some (.int l8), some (.long x7), none] dX11_commonDivisor_33 rfl rfl rfl ?_
        refine dr_lload x7 dX11_commonDivisor_35 rfl ?_
        refine dr_lstore [none, none, none, none, some (.long l6), none, some (.long x7), none, some (.int l8), some (.long x7), none] dX11_commonDivisor_37 rfl rfl rfl ?_
        refine dr_iinc l8 (l8 + 1) [none, none, none, none, some (.long l6), none, some (.long x7), none, some (.int (l8 + 1)), some (.long x7), none] dX11_commonDivisor_39 rfl rfl rfl rfl rfl ?_
        refine dr_goto 9 dX11_commonDivisor_42 (by decide) ?_
        refine dr_mask [false, false, false, false, true, false, true, false, true] [none, none, none, none, some (.long l6), none, some (.long x7), none, some (.int (l8 + 1))] rfl ?_
        exact ih l6 x7 (l8 + 1) μ h
set_option maxRecDepth 100000 in
theorem c_X11_commonDivisor {r : Int64} {F : dtM} (p0 : Int64) (p2 : Int64) (μ : dtM) (h : f_X11_commonDivisor p0 p2 μ = some (r, F)) : dtMet yX11_commonDivisor cX11_commonDivisor 11 (some .long) 1 [.long p0, .long p2] μ (some (.long r)) F := by
  refine dtMet.of (by decide +kernel) (Nat.le_of_ble_eq_true rfl) (show dtW yX11_commonDivisor cX11_commonDivisor 11 (some .long) 1 (some (.long r)) F 0 [some (.long p0), none, some (.long p2), none] [] μ from ?_)
  rw [f_X11_commonDivisor] at h
  refine dr_lload_n p0 dX11_commonDivisor_0 rfl ?_
  refine dr_lstore [some (.long p0), none, some (.long p2), none, some (.long p0), none] dX11_commonDivisor_1 rfl rfl rfl ?_
  refine dr_lload_n p2 dX11_commonDivisor_3 rfl ?_
  refine dr_lstore [some (.long p0), none, some (.long p2), none, some (.long p0), none, some (.long p2), none] dX11_commonDivisor_4 rfl rfl rfl ?_
  refine dr_iconst (0 : Int32) dX11_commonDivisor_6 (by decide) ?_
  refine dr_istore [some (.long p0), none, some (.long p2), none, some (.long p0), none, some (.long p2), none, some (.int (0 : Int32))] dX11_commonDivisor_7 rfl rfl rfl ?_
  refine dr_mask [false, false, false, false, true, false, true, false, true] [none, none, none, none, some (.long p0), none, some (.long p2), none, some (.int (0 : Int32))] rfl ?_
  exact c_X11_commonDivisor_9 dtFuel p0 p2 (0 : Int32) μ h
