/-! X12_close -/
theorem dX12_close_0 : decode cX12_close 0 = .ok (.aload_n 0, 1) := by decide +kernel
theorem dX12_close_1 : decode cX12_close 1 = .ok (.iload_n 1, 1) := by decide +kernel
theorem dX12_close_2 : decode cX12_close 2 = .ok (.invokevirtual 307, 3) := by decide +kernel
theorem dX12_close_5 : decode cX12_close 5 = .ok (.ifCond .eq 18, 3) := by decide +kernel
theorem dX12_close_8 : decode cX12_close 8 = .ok (.aload_n 0, 1) := by decide +kernel
theorem dX12_close_9 : decode cX12_close 9 = .ok (.iload_n 2, 1) := by decide +kernel
theorem dX12_close_10 : decode cX12_close 10 = .ok (.invokevirtual 301, 3) := by decide +kernel
theorem dX12_close_13 : decode cX12_close 13 = .ok (.ifCond .eq 10, 3) := by decide +kernel
theorem dX12_close_16 : decode cX12_close 16 = .ok (.iload_n 3, 1) := by decide +kernel
theorem dX12_close_17 : decode cX12_close 17 = .ok (.invokestatic 327, 3) := by decide +kernel
theorem dX12_close_20 : decode cX12_close 20 = .ok (.ifCond .ne 9, 3) := by decide +kernel
theorem dX12_close_23 : decode cX12_close 23 = .ok (.aload_n 0, 1) := by decide +kernel
theorem dX12_close_24 : decode cX12_close 24 = .ok (.iconst 1, 1) := by decide +kernel
theorem dX12_close_25 : decode cX12_close 25 = .ok (.invokevirtual 93, 3) := by decide +kernel
theorem dX12_close_28 : decode cX12_close 28 = .ok (.ireturn, 1) := by decide +kernel
theorem dX12_close_29 : decode cX12_close 29 = .ok (.aload_n 0, 1) := by decide +kernel
theorem dX12_close_30 : decode cX12_close 30 = .ok (.iload_n 1, 1) := by decide +kernel
theorem dX12_close_31 : decode cX12_close 31 = .ok (.iload_n 2, 1) := by decide +kernel
theorem dX12_close_32 : decode cX12_close 32 = .ok (.iload_n 3, 1) := by decide +kernel
theorem dX12_close_33 : decode cX12_close 33 = .ok (.invokevirtual 349, 3) := by decide +kernel
theorem dX12_close_36 : decode cX12_close 36 = .ok (.istore 4, 2) := by decide +kernel
theorem dX12_close_38 : decode cX12_close 38 = .ok (.iload 4, 2) := by decide +kernel
theorem dX12_close_40 : decode cX12_close 40 = .ok (.iconst (-1), 1) := by decide +kernel
theorem dX12_close_41 : decode cX12_close 41 = .ok (.if_icmp .ne 12, 3) := by decide +kernel
theorem dX12_close_44 : decode cX12_close 44 = .ok (.aload_n 0, 1) := by decide +kernel
theorem dX12_close_45 : decode cX12_close 45 = .ok (.bipush 7, 2) := by decide +kernel
theorem dX12_close_47 : decode cX12_close 47 = .ok (.invokevirtual 93, 3) := by decide +kernel
theorem dX12_close_50 : decode cX12_close 50 = .ok (.goto 9, 3) := by decide +kernel
theorem dX12_close_53 : decode cX12_close 53 = .ok (.aload_n 0, 1) := by decide +kernel
theorem dX12_close_54 : decode cX12_close 54 = .ok (.iload 4, 2) := by decide +kernel
theorem dX12_close_56 : decode cX12_close 56 = .ok (.invokevirtual 97, 3) := by decide +kernel
theorem dX12_close_59 : decode cX12_close 59 = .ok (.ireturn, 1) := by decide +kernel
set_option maxRecDepth 100000 in
def f_X12_close_23 (l0 : Nat) (μ : dtM) : Option (Int32 × dtM) :=
  (opRv 12 μ l0).bind fun _ => opCall (f_X12_refuse l0 (1 : Int32) μ) fun x4 μ2 => some (x4, μ2)
set_option maxRecDepth 100000 in
def f_X12_close_59 (s0 : Int32) (μ : dtM) : Option (Int32 × dtM) :=
  some (s0, μ)
set_option maxRecDepth 100000 in
def f_X12_close (p0 : Nat) (p1 : Int32) (p2 : Int32) (p3 : Int32) (μ : dtM) : Option (Int32 × dtM) :=
  (opRv 12 μ p0).bind fun _ => opCall (f_X12_isPerson p0 p1 μ) fun x4 μ2 => if x4 = 0 then (f_X12_close_23 p0 μ2) else ((opRv 12 μ2 p0).bind fun _ => opCall (f_X12_isDoor p0 p2 μ2) fun x11 μ9 => if x11 = 0 then (f_X12_close_23 p0 μ9) else (opCall (f_X12_isNoise p3 μ9) fun x17 μ15 => if x17 = 0 then (f_X12_close_23 p0 μ15) else ((opRv 12 μ15 p0).bind fun _ => opCall (f_X12_closes p0 p1 p2 p3 μ15) fun x24 μ22 => if x24 = (-1 : Int32) then ((opRv 12 μ22 p0).bind fun _ => opCall (f_X12_refuse p0 (7 : Int32) μ22) fun x35 μ33 => f_X12_close_59 x35 μ33) else ((opRv 12 μ22 p0).bind fun _ => opCall (f_X12_gives p0 x24 μ22) fun x31 μ29 => f_X12_close_59 x31 μ29))))
set_option maxRecDepth 100000 in
theorem c_X12_close_23 {r : Int32} {F : dtM} (l0 : Nat) (μ : dtM) (h : f_X12_close_23 l0 μ = some (r, F)) : dtW yX12_close cX12_close 5 (some .int) 7 (some (.int r)) F 23 [some (.ref l0)] [] μ := by
  rw [f_X12_close_23] at h
  refine dr_aload_n l0 dX12_close_23 rfl ?_
  refine dr_iconst (1 : Int32) dX12_close_24 (by decide) ?_
  obtain ⟨_, hb1, h⟩ := dtBind h
  obtain ⟨x4, μ2, e3, h⟩ := dtCall h
  refine dr_callV_i (S0 := []) [.int (1 : Int32)] x4 μ2 dX12_close_25 (c_X12_refuse l0 (1 : Int32) μ e3) mf_X12_refuse wt_1552 ws_59 wt_1550 rfl (dtRv hb1) (by decide) rfl (Nat.le_of_ble_eq_true rfl) (Nat.le_of_ble_eq_true rfl) rfl ?_
  cases h
  exact dr_ireturn dX12_close_28 rfl
set_option maxRecDepth 100000 in
theorem c_X12_close_59 {r : Int32} {F : dtM} (s0 : Int32) (μ : dtM) (h : f_X12_close_59 s0 μ = some (r, F)) : dtW yX12_close cX12_close 5 (some .int) 7 (some (.int r)) F 59 [] [.int s0] μ := by
  rw [f_X12_close_59] at h
  cases h
  exact dr_ireturn dX12_close_59 rfl
set_option maxRecDepth 100000 in
theorem c_X12_close {r : Int32} {F : dtM} (p0 : Nat) (p1 : Int32) (p2 : Int32) (p3 : Int32) (μ : dtM) (h : f_X12_close p0 p1 p2 p3 μ = some (r, F)) : dtMet yX12_close cX12_close 5 (some .int) 7 [.ref p0, .int p1, .int p2, .int p3] μ (some (.int r)) F := by
  refine dtMet.of (by decide +kernel) (Nat.le_of_ble_eq_true rfl) (show dtW yX12_close cX12_close 5 (some .int) 7 (some (.int r)) F 0 [some (.ref p0), some (.int p1), some (.int p2), some (.int p3)] [] μ from ?_)
  rw [f_X12_close] at h
  refine dr_aload_n p0 dX12_close_0 rfl ?_
  refine dr_iload_n p1 dX12_close_1 rfl ?_
  obtain ⟨_, hb1, h⟩ := dtBind h
  obtain ⟨x4, μ2, e3, h⟩ := dtCall h
  refine dr_callV_i (S0 := []) [.int p1] x4 μ2 dX12_close_2 (c_X12_isPerson p0 p1 μ e3) mf_X12_isPerson wt_1732 ws_95 wt_1730 rfl (dtRv hb1) (by decide) rfl (Nat.le_of_ble_eq_true rfl) (Nat.le_of_ble_eq_true rfl) rfl ?_
  obtain ⟨ht6, hf7⟩ := dtIte h
  refine dr_if_eq 23 dX12_close_5 (by decide) (fun hc5 => ?_) (fun hc5 => ?_)
  · have h := ht6 hc5
    refine dr_mask [true] [some (.ref p0)] rfl ?_
    exact c_X12_close_23 p0 μ2 h
  · have h := hf7 hc5
    refine dr_aload_n p0 dX12_close_8 rfl ?_
    refine dr_iload_n p2 dX12_close_9 rfl ?_
    obtain ⟨_, hb8, h⟩ := dtBind h
    obtain ⟨x11, μ9, e10, h⟩ := dtCall h
    refine dr_callV_i (S0 := []) [.int p2] x11 μ9 dX12_close_10 (c_X12_isDoor p0 p2 μ2 e10) mf_X12_isDoor wt_1708 ws_92 wt_1706 rfl (dtRv hb8) (by decide) rfl (Nat.le_of_ble_eq_true rfl) (Nat.le_of_ble_eq_true rfl) rfl ?_
    obtain ⟨ht13, hf14⟩ := dtIte h
    refine dr_if_eq 23 dX12_close_13 (by decide) (fun hc12 => ?_) (fun hc12 => ?_)
    · have h := ht13 hc12
      refine dr_mask [true] [some (.ref p0)] rfl ?_
      exact c_X12_close_23 p0 μ9 h
    · have h := hf14 hc12
      refine dr_iload_n p3 dX12_close_16 rfl ?_
      obtain ⟨x17, μ15, e16, h⟩ := dtCall h
      refine dr_callS_i (S0 := []) [.int p3] x17 μ15 dX12_close_17 (c_X12_isNoise p3 μ9 e16) mf_X12_isNoise wt_1764 wt_1763 rfl (Nat.le_of_ble_eq_true rfl) (Nat.le_of_ble_eq_true rfl) rfl ?_
      obtain ⟨ht19, hf20⟩ := dtIte h
      refine dr_if_ne 29 dX12_close_20 (by decide) (fun hc18 => ?_) (fun hc18 => ?_)
      · have h := hf20 hc18
        refine dr_aload_n p0 dX12_close_29 rfl ?_
        refine dr_iload_n p1 dX12_close_30 rfl ?_
        refine dr_iload_n p2 dX12_close_31 rfl ?_
        refine dr_iload_n p3 dX12_close_32 rfl ?_
        obtain ⟨_, hb21, h⟩ := dtBind h
        obtain ⟨x24, μ22, e23, h⟩ := dtCall h
        refine dr_callV_i (S0 := []) [.int p1, .int p2, .int p3] x24 μ22 dX12_close_33 (c_X12_closes p0 p1 p2 p3 μ15 e23) mf_X12_closes wt_1803 ws_104 wt_1801 rfl (dtRv hb21) (by decide) rfl (Nat.le_of_ble_eq_true rfl) (Nat.le_of_ble_eq_true rfl) rfl ?_
        refine dr_istore [some (.ref p0), some (.int p1), some (.int p2), some (.int p3), some (.int x24)] dX12_close_36 rfl rfl rfl ?_
        refine dr_iload x24 dX12_close_38 rfl ?_
        refine dr_iconst (-1 : Int32) dX12_close_40 (by decide) ?_
        obtain ⟨ht26, hf27⟩ := dtIte h
        refine dr_icmp_ne 53 dX12_close_41 (by decide) (fun hc25 => ?_) (fun hc25 => ?_)
        · have h := hf27 hc25
          refine dr_aload_n p0 dX12_close_53 rfl ?_
          refine dr_iload x24 dX12_close_54 rfl ?_
          obtain ⟨_, hb28, h⟩ := dtBind h
          obtain ⟨x31, μ29, e30, h⟩ := dtCall h
          refine dr_callV_i (S0 := []) [.int x24] x31 μ29 dX12_close_56 (c_X12_gives p0 x24 μ22 e30) mf_X12_gives wt_1668 ws_85 wt_1666 rfl (dtRv hb28) (by decide) rfl (Nat.le_of_ble_eq_true rfl) (Nat.le_of_ble_eq_true rfl) rfl ?_
          refine dr_mask [] [] rfl ?_
          exact c_X12_close_59 x31 μ29 h
        · have h := ht26 hc25
          refine dr_aload_n p0 dX12_close_44 rfl ?_
          refine dr_bipush (7 : Int32) dX12_close_45 (by decide) ?_
          obtain ⟨_, hb32, h⟩ := dtBind h
          obtain ⟨x35, μ33, e34, h⟩ := dtCall h
          refine dr_callV_i (S0 := []) [.int (7 : Int32)] x35 μ33 dX12_close_47 (c_X12_refuse p0 (7 : Int32) μ22 e34) mf_X12_refuse wt_1552 ws_59 wt_1550 rfl (dtRv hb32) (by decide) rfl (Nat.le_of_ble_eq_true rfl) (Nat.le_of_ble_eq_true rfl) rfl ?_
          refine dr_goto 59 dX12_close_50 (by decide) ?_
          refine dr_mask [] [] rfl ?_
          exact c_X12_close_59 x35 μ33 h
      · have h := ht19 hc18
        refine dr_mask [true] [some (.ref p0)] rfl ?_
        exact c_X12_close_23 p0 μ15 h
/-! X12_open -/
theorem dX12_open_0 : decode cX12_open 0 = .ok (.aload_n 0, 1) := by decide +kernel
theorem dX12_open_1 : decode cX12_open 1 = .ok (.iload_n 1, 1) := by decide +kernel
theorem dX12_open_2 : decode cX12_open 2 = .ok (.invokevirtual 307, 3) := by decide +kernel
theorem dX12_open_5 : decode cX12_open 5 = .ok (.ifCond .eq 11, 3) := by decide +kernel
theorem dX12_open_8 : decode cX12_open 8 = .ok (.aload_n 0, 1) := by decide +kernel
theorem dX12_open_9 : decode cX12_open 9 = .ok (.iload_n 2, 1) := by decide +kernel
theorem dX12_open_10 : decode cX12_open 10 = .ok (.invokevirtual 301, 3) := by decide +kernel
theorem dX12_open_13 : decode cX12_open 13 = .ok (.ifCond .ne 9, 3) := by decide +kernel
theorem dX12_open_16 : decode cX12_open 16 = .ok (.aload_n 0, 1) := by decide +kernel
theorem dX12_open_17 : decode cX12_open 17 = .ok (.iconst 1, 1) := by decide +kernel
theorem dX12_open_18 : decode cX12_open 18 = .ok (.invokevirtual 93, 3) := by decide +kernel
theorem dX12_open_21 : decode cX12_open 21 = .ok (.ireturn, 1) := by decide +kernel
theorem dX12_open_22 : decode cX12_open 22 = .ok (.aload_n 0, 1) := by decide +kernel
theorem dX12_open_23 : decode cX12_open 23 = .ok (.iload_n 1, 1) := by decide +kernel
theorem dX12_open_24 : decode cX12_open 24 = .ok (.iload_n 2, 1) := by decide +kernel
theorem dX12_open_25 : decode cX12_open 25 = .ok (.invokevirtual 352, 3) := by decide +kernel
theorem dX12_open_28 : decode cX12_open 28 = .ok (.ifCond .eq 19, 3) := by decide +kernel
theorem dX12_open_31 : decode cX12_open 31 = .ok (.aload_n 0, 1) := by decide +kernel
theorem dX12_open_32 : decode cX12_open 32 = .ok (.aload_n 0, 1) := by decide +kernel
theorem dX12_open_33 : decode cX12_open 33 = .ok (.getfield 7, 3) := by decide +kernel
theorem dX12_open_36 : decode cX12_open 36 = .ok (.iconst 5, 1) := by decide +kernel
theorem dX12_open_37 : decode cX12_open 37 = .ok (.iaload, 1) := by decide +kernel
theorem dX12_open_38 : decode cX12_open 38 = .ok (.invokestatic 355, 3) := by decide +kernel
theorem dX12_open_41 : decode cX12_open 41 = .ok (.invokevirtual 97, 3) := by decide +kernel
theorem dX12_open_44 : decode cX12_open 44 = .ok (.goto 9, 3) := by decide +kernel
theorem dX12_open_47 : decode cX12_open 47 = .ok (.aload_n 0, 1) := by decide +kernel
theorem dX12_open_48 : decode cX12_open 48 = .ok (.bipush 7, 2) := by decide +kernel
theorem dX12_open_50 : decode cX12_open 50 = .ok (.invokevirtual 93, 3) := by decide +kernel
theorem dX12_open_53 : decode cX12_open 53 = .ok (.ireturn, 1) := by decide +kernel
set_option maxRecDepth 100000 in
def f_X12_open_16 (l0 : Nat) (μ : dtM) : Option (Int32 × dtM) :=
  (opRv 12 μ l0).bind fun _ => opCall (f_X12_refuse l0 (1 : Int32) μ) fun x4 μ2 => some (x4, μ2)
set_option maxRecDepth 100000 in
def f_X12_open_53 (s0 : Int32) (μ : dtM) : Option (Int32 × dtM) :=
  some (s0, μ)
set_option maxRecDepth 100000 in
def f_X12_open (p0 : Nat) (p1 : Int32) (p2 : Int32) (μ : dtM) : Option (Int32 × dtM) :=
  (opRv 12 μ p0).bind fun _ => opCall (f_X12_isPerson p0 p1 μ) fun x4 μ2 => if x4 = 0 then (f_X12_open_16 p0 μ2) else ((opRv 12 μ2 p0).bind fun _ => opCall (f_X12_isDoor p0 p2 μ2) fun x11 μ9 => if x11 = 0 then (f_X12_open_16 p0 μ9) else ((opRv 12 μ9 p0).bind fun _ => opCall (f_X12_opens p0 p1 p2 μ9) fun x18 μ16 => if x18 = 0 then ((opRv 12 μ16 p0).bind fun _ => opCall (f_X12_refuse p0 (7 : Int32) μ16) fun x25 μ23 => f_X12_open_53 x25 μ23) else ((opGR 12 0 μ16 p0).bind fun x26 => (opLI 1 μ16 x26 (5 : Int32)).bind fun x28 => opCall (f_X12_bits x28 μ16) fun x32 μ30 => (opRv 12 μ30 p0).bind fun _ => opCall (f_X12_gives p0 x32 μ30) fun x36 μ34 => f_X12_open_53 x36 μ34)))
set_option maxRecDepth 100000 in
theorem c_X12_open_16 {r : Int32} {F : dtM} (l0 : Nat) (μ : dtM) (h : f_X12_open_16 l0 μ = some (r, F)) : dtW yX12_open cX12_open 3 (some .int) 5 (some (.int r)) F 16 [some (.ref l0)] [] μ := by
  rw [f_X12_open_16] at h
  refine dr_aload_n l0 dX12_open_16 rfl ?_
  refine dr_iconst (1 : Int32) dX12_open_17 (by decide) ?_
  obtain ⟨_, hb1, h⟩ := dtBind h
  obtain ⟨x4, μ2, e3, h⟩ := dtCall h
  refine dr_callV_i (S0 := []) [.int (1 : Int32)] x4 μ2 dX12_open_18 (c_X12_refuse l0 (1 : Int32) μ e3) mf_X12_refuse wt_1552 ws_59 wt_1550 rfl (dtRv hb1) (by decide) rfl (Nat.le_of_ble_eq_true rfl) (Nat.le_of_ble_eq_true rfl) rfl ?_
  cases h
  exact dr_ireturn dX12_open_21 rfl
set_option maxRecDepth 100000 in
theorem c_X12_open_53 {r : Int32} {F : dtM} (s0 : Int32) (μ : dtM) (h : f_X12_open_53 s0 μ = some (r, F)) : dtW yX12_open cX12_open 3 (some .int) 5 (some (.int r)) F 53 [] [.int s0] μ := by
  rw [f_X12_open_53] at h
  cases h
  exact dr_ireturn dX12_open_53 rfl
set_option maxRecDepth 100000 in
theorem c_X12_open {r : Int32} {F : dtM} (p0 : Nat) (p1 : Int32) (p2 : Int32) (μ : dtM) (h : f_X12_open p0 p1 p2 μ = some (r, F)) : dtMet yX12_open cX12_open 3 (some .int) 5 [.ref p0, .int p1, .int p2] μ (some (.int r)) F := by
  refine dtMet.of (by decide +kernel) (Nat.le_of_ble_eq_true rfl) (show dtW yX12_open cX12_open 3 (some .int) 5 (some (.int r)) F 0 [some (.ref p0), some (.int p1), some (.int p2)] [] μ from ?_)
  rw [f_X12_open] at h
  refine dr_aload_n p0 dX12_open_0 rfl ?_
  refine dr_iload_n p1 dX12_open_1 rfl ?_
  obtain ⟨_, hb1, h⟩ := dtBind h
  obtain ⟨x4, μ2, e3, h⟩ := dtCall h
  refine dr_callV_i (S0 := []) [.int p1] x4 μ2 dX12_open_2 (c_X12_isPerson p0 p1 μ e3) mf_X12_isPerson wt_1732 ws_95 wt_1730 rfl (dtRv hb1) (by decide) rfl (Nat.le_of_ble_eq_true rfl) (Nat.le_of_ble_eq_true rfl) rfl ?_
  obtain ⟨ht6, hf7⟩ := dtIte h
  refine dr_if_eq 16 dX12_open_5 (by decide) (fun hc5 => ?_) (fun hc5 => ?_)
  · have h := ht6 hc5
    refine dr_mask [true] [some (.ref p0)] rfl ?_
    exact c_X12_open_16 p0 μ2 h
  · have h := hf7 hc5
    refine dr_aload_n p0 dX12_open_8 rfl ?_
    refine dr_iload_n p2 dX12_open_9 rfl ?_
    obtain ⟨_, hb8, h⟩ := dtBind h
    obtain ⟨x11, μ9, e10, h⟩ := dtCall h
    refine dr_callV_i (S0 := []) [.int p2] x11 μ9 dX12_open_10 (c_X12_isDoor p0 p2 μ2 e10) mf_X12_isDoor wt_1708 ws_92 wt_1706 rfl (dtRv hb8) (by decide) rfl (Nat.le_of_ble_eq_true rfl) (Nat.le_of_ble_eq_true rfl) rfl ?_
    obtain ⟨ht13, hf14⟩ := dtIte h
    refine dr_if_ne 22 dX12_open_13 (by decide) (fun hc12 => ?_) (fun hc12 => ?_)
    · have h := hf14 hc12
      refine dr_aload_n p0 dX12_open_22 rfl ?_
      refine dr_iload_n p1 dX12_open_23 rfl ?_
      refine dr_iload_n p2 dX12_open_24 rfl ?_
      obtain ⟨_, hb15, h⟩ := dtBind h
      obtain ⟨x18, μ16, e17, h⟩ := dtCall h
      refine dr_callV_i (S0 := []) [.int p1, .int p2] x18 μ16 dX12_open_25 (c_X12_opens p0 p1 p2 μ9 e17) mf_X12_opens wt_1823 ws_108 wt_1821 rfl (dtRv hb15) (by decide) rfl (Nat.le_of_ble_eq_true rfl) (Nat.le_of_ble_eq_true rfl) rfl ?_
      obtain ⟨ht20, hf21⟩ := dtIte h
      refine dr_if_eq 47 dX12_open_28 (by decide) (fun hc19 => ?_) (fun hc19 => ?_)
      · have h := ht20 hc19
        refine dr_aload_n p0 dX12_open_47 rfl ?_
        refine dr_bipush (7 : Int32) dX12_open_48 (by decide) ?_
        obtain ⟨_, hb22, h⟩ := dtBind h
        obtain ⟨x25, μ23, e24, h⟩ := dtCall h
        refine dr_callV_i (S0 := []) [.int (7 : Int32)] x25 μ23 dX12_open_50 (c_X12_refuse p0 (7 : Int32) μ16 e24) mf_X12_refuse wt_1552 ws_59 wt_1550 rfl (dtRv hb22) (by decide) rfl (Nat.le_of_ble_eq_true rfl) (Nat.le_of_ble_eq_true rfl) rfl ?_
        refine dr_mask [] [] rfl ?_
        exact c_X12_open_53 x25 μ23 h
      · have h := hf21 hc19
        refine dr_aload_n p0 dX12_open_31 rfl ?_
        refine dr_aload_n p0 dX12_open_32 rfl ?_
        obtain ⟨x26, e27, h⟩ := dtBind h
        refine dr_getR x26 dX12_open_33 fl_RX12_7 e27 ?_
        refine dr_iconst (5 : Int32) dX12_open_36 (by decide) ?_
        obtain ⟨x28, e29, h⟩ := dtBind h
        refine dr_iaload x28 dX12_open_37 e29 ?_
        obtain ⟨x32, μ30, e31, h⟩ := dtCall h
        refine dr_callS_i (S0 := [.ref p0]) [.int x28] x32 μ30 dX12_open_38 (c_X12_bits x28 μ16 e31) mf_X12_bits wt_1826 wt_1825 rfl (Nat.le_of_ble_eq_true rfl) (Nat.le_of_ble_eq_true rfl) rfl ?_
        obtain ⟨_, hb33, h⟩ := dtBind h
        obtain ⟨x36, μ34, e35, h⟩ := dtCall h
        refine dr_callV_i (S0 := []) [.int x32] x36 μ34 dX12_open_41 (c_X12_gives p0 x32 μ30 e35) mf_X12_gives wt_1668 ws_85 wt_1666 rfl (dtRv hb33) (by decide) rfl (Nat.le_of_ble_eq_true rfl) (Nat.le_of_ble_eq_true rfl) rfl ?_
        refine dr_goto 53 dX12_open_44 (by decide) ?_
        refine dr_mask [] [] rfl ?_
        exact c_X12_open_53 x36 μ34 h
    · have h := ht13 hc12
      refine dr_mask [true] [some (.ref p0)] rfl ?_
      exact c_X12_open_16 p0 μ9 h
/-! X12_go -/
theorem dX12_go_0 : decode cX12_go 0 = .ok (.aload_n 0, 1) := by decide +kernel
theorem dX12_go_1 : decode cX12_go 1 = .ok (.iload_n 1, 1) := by decide +kernel
theorem dX12_go_2 : decode cX12_go 2 = .ok (.invokevirtual 307, 3) := by decide +kernel
theorem dX12_go_5 : decode cX12_go 5 = .ok (.ifCond .eq 11, 3) := by decide +kernel
theorem dX12_go_8 : decode cX12_go 8 = .ok (.aload_n 0, 1) := by decide +kernel
theorem dX12_go_9 : decode cX12_go 9 = .ok (.iload_n 2, 1) := by decide +kernel
theorem dX12_go_10 : decode cX12_go 10 = .ok (.invokevirtual 301, 3) := by decide +kernel
theorem dX12_go_13 : decode cX12_go 13 = .ok (.ifCond .ne 9, 3) := by decide +kernel
theorem dX12_go_16 : decode cX12_go 16 = .ok (.aload_n 0, 1) := by decide +kernel
theorem dX12_go_17 : decode cX12_go 17 = .ok (.iconst 1, 1) := by decide +kernel
theorem dX12_go_18 : decode cX12_go 18 = .ok (.invokevirtual 93, 3) := by decide +kernel
theorem dX12_go_21 : decode cX12_go 21 = .ok (.ireturn, 1) := by decide +kernel
theorem dX12_go_22 : decode cX12_go 22 = .ok (.aload_n 0, 1) := by decide +kernel
theorem dX12_go_23 : decode cX12_go 23 = .ok (.iload_n 1, 1) := by decide +kernel
theorem dX12_go_24 : decode cX12_go 24 = .ok (.iload_n 2, 1) := by decide +kernel
theorem dX12_go_25 : decode cX12_go 25 = .ok (.invokevirtual 358, 3) := by decide +kernel
theorem dX12_go_28 : decode cX12_go 28 = .ok (.ifCond .eq 16, 3) := by decide +kernel
theorem dX12_go_31 : decode cX12_go 31 = .ok (.aload_n 0, 1) := by decide +kernel
theorem dX12_go_32 : decode cX12_go 32 = .ok (.aload_n 0, 1) := by decide +kernel
theorem dX12_go_33 : decode cX12_go 33 = .ok (.iload_n 1, 1) := by decide +kernel
theorem dX12_go_34 : decode cX12_go 34 = .ok (.iconst 0, 1) := by decide +kernel
theorem dX12_go_35 : decode cX12_go 35 = .ok (.invokevirtual 295, 3) := by decide +kernel
theorem dX12_go_38 : decode cX12_go 38 = .ok (.invokevirtual 97, 3) := by decide +kernel
theorem dX12_go_41 : decode cX12_go 41 = .ok (.goto 9, 3) := by decide +kernel
theorem dX12_go_44 : decode cX12_go 44 = .ok (.aload_n 0, 1) := by decide +kernel
theorem dX12_go_45 : decode cX12_go 45 = .ok (.bipush 7, 2) := by decide +kernel
theorem dX12_go_47 : decode cX12_go 47 = .ok (.invokevirtual 93, 3) := by decide +kernel
theorem dX12_go_50 : decode cX12_go 50 = .ok (.ireturn, 1) := by decide +kernel
set_option maxRecDepth 100000 in
def f_X12_go_16 (l0 : Nat) (μ : dtM) : Option (Int32 × dtM) :=
  (opRv 12 μ l0).bind fun _ => opCall (f_X12_refuse l0 (1 : Int32) μ) fun x4 μ2 => some (x4, μ2)
set_option maxRecDepth 100000 in
def f_X12_go_50 (s0 : Int32) (μ : dtM) : Option (Int32 × dtM) :=
  some (s0, μ)
set_option maxRecDepth 100000 in
def f_X12_go (p0 : Nat) (p1 : Int32) (p2 : Int32) (μ : dtM) : Option (Int32 × dtM) :=
  (opRv 12 μ p0).bind fun _ => opCall (f_X12_isPerson p0 p1 μ) fun x4 μ2 => if x4 = 0 then (f_X12_go_16 p0 μ2) else ((opRv 12 μ2 p0).bind fun _ => opCall (f_X12_isDoor p0 p2 μ2) fun x11 μ9 => if x11 = 0 then (f_X12_go_16 p0 μ9) else ((opRv 12 μ9 p0).bind fun _ => opCall (f_X12_goes p0 p1 p2 μ9) fun x18 μ16 => if x18 = 0 then ((opRv 12 μ16 p0).bind fun _ => opCall (f_X12_refuse p0 (7 : Int32) μ16) fun x25 μ23 => f_X12_go_50 x25 μ23) else ((opRv 12 μ16 p0).bind fun _ => opCall (f_X12_personOf p0 p1 (0 : Int32) μ16) fun x29 μ27 => (opRv 12 μ27 p0).bind fun _ => opCall (f_X12_gives p0 x29 μ27) fun x33 μ31 => f_X12_go_50 x33 μ31)))
set_option maxRecDepth 100000 in
theorem c_X12_go_16 {r : Int32} {F : dtM} (l0 : Nat) (μ : dtM) (h : f_X12_go_16 l0 μ = some (r, F)) : dtW yX12_go cX12_go 3 (some .int) 5 (some (.int r)) F 16 [some (.ref l0)] [] μ := by
  rw [f_X12_go_16] at h
  refine dr_aload_n l0 dX12_go_16 rfl ?_
  refine dr_iconst (1 : Int32) dX12_go_17 (by decide) ?_
  obtain ⟨_, hb1, h⟩ := dtBind h
  obtain ⟨x4, μ2, e3, h⟩ := dtCall h
  refine dr_callV_i (S0 := []) [.int (1 : Int32)] x4 μ2 dX12_go_18 (c_X12_refuse l0 (1 : Int32) μ e3) mf_X12_refuse wt_1552 ws_59 wt_1550 rfl (dtRv hb1) (by decide) rfl (Nat.le_of_ble_eq_true rfl) (Nat.le_of_ble_eq_true rfl) rfl ?_
  cases h
  exact dr_ireturn dX12_go_21 rfl
set_option maxRecDepth 100000 in
theorem c_X12_go_50 {r : Int32} {F : dtM} (s0 : Int32) (μ : dtM) (h : f_X12_go_50 s0 μ = some (r, F)) : dtW yX12_go cX12_go 3 (some .int) 5 (some (.int r)) F 50 [] [.int s0] μ := by
  rw [f_X12_go_50] at h
  cases h
  exact dr_ireturn dX12_go_50 rfl
set_option maxRecDepth 100000 in
theorem c_X12_go {r : Int32} {F : dtM} (p0 : Nat) (p1 : Int32) (p2 : Int32) (μ : dtM) (h : f_X12_go p0 p1 p2 μ = some (r, F)) : dtMet yX12_go cX12_go 3 (some .int) 5 [.ref p0, .int p1, .int p2] μ (some (.int r)) F := by
  refine dtMet.of (by decide +kernel) (Nat.le_of_ble_eq_true rfl) (show dtW yX12_go cX12_go 3 (some .int) 5 (some (.int r)) F 0 [some (.ref p0), some (.int p1), some (.int p2)] [] μ from ?_)
  rw [f_X12_go] at h
  refine dr_aload_n p0 dX12_go_0 rfl ?_
  refine dr_iload_n p1 dX12_go_1 rfl ?_
  obtain ⟨_, hb1, h⟩ := dtBind h
  obtain ⟨x4, μ2, e3, h⟩ := dtCall h
  refine dr_callV_i (S0 := []) [.int p1] x4 μ2 dX12_go_2 (c_X12_isPerson p0 p1 μ e3) mf_X12_isPerson wt_1732 ws_95 wt_1730 rfl (dtRv hb1) (by decide) rfl (Nat.le_of_ble_eq_true rfl) (Nat.le_of_ble_eq_true rfl) rfl ?_
  obtain ⟨ht6, hf7⟩ := dtIte h
  refine dr_if_eq 16 dX12_go_5 (by decide) (fun hc5 => ?_) (fun hc5 => ?_)
  · have h := ht6 hc5
    refine dr_mask [true] [some (.ref p0)] rfl ?_
    exact c_X12_go_16 p0 μ2 h
  · have h := hf7 hc5
    refine dr_aload_n p0 dX12_go_8 rfl ?_
    refine dr_iload_n p2 dX12_go_9 rfl ?_
    obtain ⟨_, hb8, h⟩ := dtBind h
    obtain ⟨x11, μ9, e10, h⟩ := dtCall h
    refine dr_callV_i (S0 := []) [.int p2] x11 μ9 dX12_go_10 (c_X12_isDoor p0 p2 μ2 e10) mf_X12_isDoor wt_1708 ws_92 wt_1706 rfl (dtRv hb8) (by decide) rfl (Nat.le_of_ble_eq_true rfl) (Nat.le_of_ble_eq_true rfl) rfl ?_
    obtain ⟨ht13, hf14⟩ := dtIte h
    refine dr_if_ne 22 dX12_go_13 (by decide) (fun hc12 => ?_) (fun hc12 => ?_)
    · have h := hf14 hc12
      refine dr_aload_n p0 dX12_go_22 rfl ?_
      refine dr_iload_n p1 dX12_go_23 rfl ?_
      refine dr_iload_n p2 dX12_go_24 rfl ?_
      obtain ⟨_, hb15, h⟩ := dtBind h
      obtain ⟨x18, μ16, e17, h⟩ := dtCall h
      refine dr_callV_i (S0 := []) [.int p1, .int p2] x18 μ16 dX12_go_25 (c_X12_goes p0 p1 p2 μ9 e17) mf_X12_goes wt_1834 ws_109 wt_1832 rfl (dtRv hb15) (by decide) rfl (Nat.le_of_ble_eq_true rfl) (Nat.le_of_ble_eq_true rfl) rfl ?_
      obtain ⟨ht20, hf21⟩ := dtIte h
      refine dr_if_eq 44 dX12_go_28 (by decide) (fun hc19 => ?_) (fun hc19 => ?_)
      · have h := ht20 hc19
        refine dr_aload_n p0 dX12_go_44 rfl ?_
        refine dr_bipush (7 : Int32) dX12_go_45 (by decide) ?_
        obtain ⟨_, hb22, h⟩ := dtBind h
        obtain ⟨x25, μ23, e24, h⟩ := dtCall h
        refine dr_callV_i (S0 := []) [.int (7 : Int32)] x25 μ23 dX12_go_47 (c_X12_refuse p0 (7 : Int32) μ16 e24) mf_X12_refuse wt_1552 ws_59 wt_1550 rfl (dtRv hb22) (by decide) rfl (Nat.le_of_ble_eq_true rfl) (Nat.le_of_ble_eq_true rfl) rfl ?_
        refine dr_mask [] [] rfl ?_
        exact c_X12_go_50 x25 μ23 h
      · have h := hf21 hc19
        refine dr_aload_n p0 dX12_go_31 rfl ?_
        refine dr_aload_n p0 dX12_go_32 rfl ?_
        refine dr_iload_n p1 dX12_go_33 rfl ?_
        refine dr_iconst (0 : Int32) dX12_go_34 (by decide) ?_
        obtain ⟨_, hb26, h⟩ := dtBind h
        obtain ⟨x29, μ27, e28, h⟩ := dtCall h
        refine dr_callV_i (S0 := [.ref p0]) [.int p1, .int (0 : Int32)] x29 μ27 dX12_go_35 (c_X12_personOf p0 p1 (0 : Int32) μ16 e28) mf_X12_personOf wt_1736 ws_96 wt_1734 rfl (dtRv hb26) (by decide) rfl (Nat.le_of_ble_eq_true rfl) (Nat.le_of_ble_eq_true rfl) rfl ?_
        obtain ⟨_, hb30, h⟩ := dtBind h
        obtain ⟨x33, μ31, e32, h⟩ := dtCall h
        refine dr_callV_i (S0 := []) [.int x29] x33 μ31 dX12_go_38 (c_X12_gives p0 x29 μ27 e32) mf_X12_gives wt_1668 ws_85 wt_1666 rfl (dtRv hb30) (by decide) rfl (Nat.le_of_ble_eq_true rfl) (Nat.le_of_ble_eq_true rfl) rfl ?_
        refine dr_goto 50 dX12_go_41 (by decide) ?_
        refine dr_mask [] [] rfl ?_
        exact c_X12_go_50 x33 μ31 h
    · have h := ht13 hc12
      refine dr_mask [true] [some (.ref p0)] rfl ?_
      exact c_X12_go_16 p0 μ9 h
/-! X12_forget -/
theorem dX12_forget_0 : decode cX12_forget 0 = .ok (.aload_n 0, 1) := by decide +kernel
theorem dX12_forget_1 : decode cX12_forget 1 = .ok (.iload_n 1, 1) := by decide +kernel
theorem dX12_forget_2 : decode cX12_forget 2 = .ok (.invokevirtual 307, 3) := by decide +kernel
theorem dX12_forget_5 : decode cX12_forget 5 = .ok (.ifCond .ne 9, 3) := by decide +kernel
theorem dX12_forget_8 : decode cX12_forget 8 = .ok (.aload_n 0, 1) := by decide +kernel
theorem dX12_forget_9 : decode cX12_forget 9 = .ok (.iconst 1, 1) := by decide +kernel
theorem dX12_forget_10 : decode cX12_forget 10 = .ok (.invokevirtual 93, 3) := by decide +kernel
theorem dX12_forget_13 : decode cX12_forget 13 = .ok (.ireturn, 1) := by decide +kernel
theorem dX12_forget_14 : decode cX12_forget 14 = .ok (.aload_n 0, 1) := by decide +kernel
theorem dX12_forget_15 : decode cX12_forget 15 = .ok (.iload_n 1, 1) := by decide +kernel
theorem dX12_forget_16 : decode cX12_forget 16 = .ok (.invokevirtual 361, 3) := by decide +kernel
theorem dX12_forget_19 : decode cX12_forget 19 = .ok (.istore_n 2, 1) := by decide +kernel
theorem dX12_forget_20 : decode cX12_forget 20 = .ok (.iload_n 2, 1) := by decide +kernel
theorem dX12_forget_21 : decode cX12_forget 21 = .ok (.ifCond .ne 12, 3) := by decide +kernel
theorem dX12_forget_24 : decode cX12_forget 24 = .ok (.aload_n 0, 1) := by decide +kernel
theorem dX12_forget_25 : decode cX12_forget 25 = .ok (.bipush 7, 2) := by decide +kernel
theorem dX12_forget_27 : decode cX12_forget 27 = .ok (.invokevirtual 93, 3) := by decide +kernel
theorem dX12_forget_30 : decode cX12_forget 30 = .ok (.goto 8, 3) := by decide +kernel
theorem dX12_forget_33 : decode cX12_forget 33 = .ok (.aload_n 0, 1) := by decide +kernel
theorem dX12_forget_34 : decode cX12_forget 34 = .ok (.iload_n 2, 1) := by decide +kernel
theorem dX12_forget_35 : decode cX12_forget 35 = .ok (.invokevirtual 97, 3) := by decide +kernel
theorem dX12_forget_38 : decode cX12_forget 38 = .ok (.ireturn, 1) := by decide +kernel
set_option maxRecDepth 100000 in
def f_X12_forget_38 (s0 : Int32) (μ : dtM) : Option (Int32 × dtM) :=
  some (s0, μ)
set_option maxRecDepth 100000 in
def f_X12_forget (p0 : Nat) (p1 : Int32) (μ : dtM) : Option (Int32 × dtM) :=
  (opRv 12 μ p0).bind fun _ => opCall (f_X12_isPerson p0 p1 μ) fun x4 μ2 => if x4 = 0 then ((opRv 12 μ2 p0).bind fun _ => opCall (f_X12_refuse p0 (1 : Int32) μ2) fun x26 μ24 => some (x26, μ24)) else ((opRv 12 μ2 p0).bind fun _ => opCall (f_X12_forgets p0 p1 μ2) fun x11 μ9 => if x11 = 0 then ((opRv 12 μ9 p0).bind fun _ => opCall (f_X12_refuse p0 (7 : Int32) μ9) fun x22 μ20 => f_X12_forget_38 x22 μ20) else ((opRv 12 μ9 p0).bind fun _ => opCall (f_X12_gives p0 x11 μ9) fun x18 μ16 => f_X12_forget_38 x18 μ16))
set_option maxRecDepth 100000 in
theorem c_X12_forget_38 {r : Int32} {F : dtM} (s0 : Int32) (μ : dtM) (h : f_X12_forget_38 s0 μ = some (r, F)) : dtW yX12_forget cX12_forget 3 (some .int) 3 (some (.int r)) F 38 [] [.int s0] μ := by
  rw [f_X12_forget_38] at h
  cases h
  exact dr_ireturn dX12_forget_38 rfl
set_option maxRecDepth 100000 in
theorem c_X12_forget {r : Int32} {F : dtM} (p0 : Nat) (p1 : Int32) (μ : dtM) (h : f_X12_forget p0 p1 μ = some (r, F)) : dtMet yX12_forget cX12_forget 3 (some .int) 3 [.ref p0, .int p1] μ (some (.int r)) F := by
  refine dtMet.of (by decide +kernel) (Nat.le_of_ble_eq_true rfl) (show dtW yX12_forget cX12_forget 3 (some .int) 3 (some (.int r)) F 0 [some (.ref p0), some (.int p1)] [] μ from ?_)
  rw [f_X12_forget] at h
  refine dr_aload_n p0 dX12_forget_0 rfl ?_
  refine dr_iload_n p1 dX12_forget_1 rfl ?_
  obtain ⟨_, hb1, h⟩ := dtBind h
  obtain ⟨x4, μ2, e3, h⟩ := dtCall h
  refine dr_callV_i (S0 := []) [.int p1] x4 μ2 dX12_forget_2 (c_X12_isPerson p0 p1 μ e3) mf_X12_isPerson wt_1732 ws_95 wt_1730 rfl (dtRv hb1) (by decide) rfl (Nat.le_of_ble_eq_true rfl) (Nat.le_of_ble_eq_true rfl) rfl ?_
  obtain ⟨ht6, hf7⟩ := dtIte h
  refine dr_if_ne 14 dX12_forget_5 (by decide) (fun hc5 => ?_) (fun hc5 => ?_)
  · have h := hf7 hc5
    refine dr_aload_n p0 dX12_forget_14 rfl ?_
    refine dr_iload_n p1 dX12_forget_15 rfl ?_
    obtain ⟨_, hb8, h⟩ := dtBind h
    obtain ⟨x11, μ9, e10, h⟩ := dtCall h
    refine dr_callV_i (S0 := []) [.int p1] x11 μ9 dX12_forget_16 (c_X12_forgets p0 p1 μ2 e10) mf_X12_forgets wt_1842 ws_110 wt_1840 rfl (dtRv hb8) (by decide) rfl (Nat.le_of_ble_eq_true rfl) (Nat.le_of_ble_eq_true rfl) rfl ?_
    refine dr_istore_n 2 [some (.ref p0), some (.int p1), some (.int x11)] dX12_forget_19 rfl rfl rfl rfl ?_
    refine dr_iload_n x11 dX12_forget_20 rfl ?_
    obtain ⟨ht13, hf14⟩ := dtIte h
    refine dr_if_ne 33 dX12_forget_21 (by decide) (fun hc12 => ?_) (fun hc12 => ?_)
    · have h := hf14 hc12
      refine dr_aload_n p0 dX12_forget_33 rfl ?_
      refine dr_iload_n x11 dX12_forget_34 rfl ?_
      obtain ⟨_, hb15, h⟩ := dtBind h
      obtain ⟨x18, μ16, e17, h⟩ := dtCall h
      refine dr_callV_i (S0 := []) [.int x11] x18 μ16 dX12_forget_35 (c_X12_gives p0 x11 μ9 e17) mf_X12_gives wt_1668 ws_85 wt_1666 rfl (dtRv hb15) (by decide) rfl (Nat.le_of_ble_eq_true rfl) (Nat.le_of_ble_eq_true rfl) rfl ?_
      refine dr_mask [] [] rfl ?_
      exact c_X12_forget_38 x18 μ16 h
    · have h := ht13 hc12
      refine dr_aload_n p0 dX12_forget_24 rfl ?_
      refine dr_bipush (7 : Int32) dX12_forget_25 (by decide) ?_
      obtain ⟨_, hb19, h⟩ := dtBind h
      obtain ⟨x22, μ20, e21, h⟩ := dtCall h
      refine dr_callV_i (S0 := []) [.int (7 : Int32)] x22 μ20 dX12_forget_27 (c_X12_refuse p0 (7 : Int32) μ9 e21) mf_X12_refuse wt_1552 ws_59 wt_1550 rfl (dtRv hb19) (by decide) rfl (Nat.le_of_ble_eq_true rfl) (Nat.le_of_ble_eq_true rfl) rfl ?_
      refine dr_goto 38 dX12_forget_30 (by decide) ?_
      refine dr_mask [] [] rfl ?_
      exact c_X12_forget_38 x22 μ20 h
  · have h := ht6 hc5
    refine dr_aload_n p0 dX12_forget_8 rfl ?_
    refine dr_iconst (1 : Int32) dX12_forget_9 (by decide) ?_
    obtain ⟨_, hb23, h⟩ := dtBind h
    obtain ⟨x26, μ24, e25, h⟩ := dtCall h
    refine dr_callV_i (S0 := []) [.int (1 : Int32)] x26 μ24 dX12_forget_10 (c_X12_refuse p0 (1 : Int32) μ2 e25) mf_X12_refuse wt_1552 ws_59 wt_1550 rfl (dtRv hb23) (by decide) rfl (Nat.le_of_ble_eq_true rfl) (Nat.le_of_ble_eq_true rfl) rfl ?_
    cases h
    exact dr_ireturn dX12_forget_13 rfl
/-! X12_teach -/
theorem dX12_teach_0 : decode cX12_teach 0 = .ok (.aload_n 0, 1) := by decide +kernel
theorem dX12_teach_1 : decode cX12_teach 1 = .ok (.iload_n 1, 1) := by decide +kernel
theorem dX12_teach_2 : decode cX12_teach 2 = .ok (.invokevirtual 307, 3) := by decide +kernel
theorem dX12_teach_5 : decode cX12_teach 5 = .ok (.ifCond .eq 11, 3) := by decide +kernel
theorem dX12_teach_8 : decode cX12_teach 8 = .ok (.aload_n 0, 1) := by decide +kernel
theorem dX12_teach_9 : decode cX12_teach 9 = .ok (.iload_n 2, 1) := by decide +kernel
theorem dX12_teach_10 : decode cX12_teach 10 = .ok (.invokevirtual 304, 3) := by decide +kernel
theorem dX12_teach_13 : decode cX12_teach 13 = .ok (.ifCond .ne 9, 3) := by decide +kernel
theorem dX12_teach_16 : decode cX12_teach 16 = .ok (.aload_n 0, 1) := by decide +kernel
theorem dX12_teach_17 : decode cX12_teach 17 = .ok (.iconst 1, 1) := by decide +kernel
theorem dX12_teach_18 : decode cX12_teach 18 = .ok (.invokevirtual 100, 3) := by decide +kernel
theorem dX12_teach_21 : decode cX12_teach 21 = .ok (.ireturn, 1) := by decide +kernel
theorem dX12_teach_22 : decode cX12_teach 22 = .ok (.aload_n 0, 1) := by decide +kernel
theorem dX12_teach_23 : decode cX12_teach 23 = .ok (.aload_n 0, 1) := by decide +kernel
theorem dX12_teach_24 : decode cX12_teach 24 = .ok (.iload_n 1, 1) := by decide +kernel
theorem dX12_teach_25 : decode cX12_teach 25 = .ok (.iconst 2, 1) := by decide +kernel
theorem dX12_teach_26 : decode cX12_teach 26 = .ok (.invokevirtual 295, 3) := by decide +kernel
theorem dX12_teach_29 : decode cX12_teach 29 = .ok (.iload_n 2, 1) := by decide +kernel
theorem dX12_teach_30 : decode cX12_teach 30 = .ok (.invokevirtual 241, 3) := by decide +kernel
theorem dX12_teach_33 : decode cX12_teach 33 = .ok (.iload_n 3, 1) := by decide +kernel
theorem dX12_teach_34 : decode cX12_teach 34 = .ok (.if_icmp .ne 10, 3) := by decide +kernel
theorem dX12_teach_37 : decode cX12_teach 37 = .ok (.aload_n 0, 1) := by decide +kernel
theorem dX12_teach_38 : decode cX12_teach 38 = .ok (.bipush 7, 2) := by decide +kernel
theorem dX12_teach_40 : decode cX12_teach 40 = .ok (.invokevirtual 100, 3) := by decide +kernel
theorem dX12_teach_43 : decode cX12_teach 43 = .ok (.ireturn, 1) := by decide +kernel
theorem dX12_teach_44 : decode cX12_teach 44 = .ok (.aload_n 0, 1) := by decide +kernel
theorem dX12_teach_45 : decode cX12_teach 45 = .ok (.getfield 7, 3) := by decide +kernel
theorem dX12_teach_48 : decode cX12_teach 48 = .ok (.iload_n 1, 1) := by decide +kernel
theorem dX12_teach_49 : decode cX12_teach 49 = .ok (.invokestatic 238, 3) := by decide +kernel
theorem dX12_teach_52 : decode cX12_teach 52 = .ok (.iconst 2, 1) := by decide +kernel
theorem dX12_teach_53 : decode cX12_teach 53 = .ok (.iadd, 1) := by decide +kernel
theorem dX12_teach_54 : decode cX12_teach 54 = .ok (.dup2, 1) := by decide +kernel
theorem dX12_teach_55 : decode cX12_teach 55 = .ok (.iaload, 1) := by decide +kernel
theorem dX12_teach_56 : decode cX12_teach 56 = .ok (.iconst 1, 1) := by decide +kernel
theorem dX12_teach_57 : decode cX12_teach 57 = .ok (.iload_n 2, 1) := by decide +kernel
theorem dX12_teach_58 : decode cX12_teach 58 = .ok (.ishl, 1) := by decide +kernel
theorem dX12_teach_59 : decode cX12_teach 59 = .ok (.ixor, 1) := by decide +kernel
theorem dX12_teach_60 : decode cX12_teach 60 = .ok (.iastore, 1) := by decide +kernel
theorem dX12_teach_61 : decode cX12_teach 61 = .ok (.aload_n 0, 1) := by decide +kernel
theorem dX12_teach_62 : decode cX12_teach 62 = .ok (.iconst 0, 1) := by decide +kernel
theorem dX12_teach_63 : decode cX12_teach 63 = .ok (.invokevirtual 100, 3) := by decide +kernel
theorem dX12_teach_66 : decode cX12_teach 66 = .ok (.ireturn, 1) := by decide +kernel
set_option maxRecDepth 100000 in
def f_X12_teach_16 (l0 : Nat) (μ : dtM) : Option (Int32 × dtM) :=
  (opRv 12 μ l0).bind fun _ => opCall (f_X12_is l0 (1 : Int32) μ) fun x4 μ2 => opRet x4 μ2
set_option maxRecDepth 100000 in
def f_X12_teach (p0 : Nat) (p1 : Int32) (p2 : Int32) (p3 : Int32) (μ : dtM) : Option (Int32 × dtM) :=
  (opRv 12 μ p0).bind fun _ => opCall (f_X12_isPerson p0 p1 μ) fun x4 μ2 => if x4 = 0 then (f_X12_teach_16 p0 μ2) else ((opRv 12 μ2 p0).bind fun _ => opCall (f_X12_isWord p0 p2 μ2) fun x11 μ9 => if x11 = 0 then (f_X12_teach_16 p0 μ9) else ((opRv 12 μ9 p0).bind fun _ => opCall (f_X12_personOf p0 p1 (2 : Int32) μ9) fun x18 μ16 => (opRv 12 μ16 p0).bind fun _ => opCall (f_X12_isIn p0 x18 p2 μ16) fun x22 μ20 => if x22 = p3 then ((opRv 12 μ20 p0).bind fun _ => opCall (f_X12_is p0 (7 : Int32) μ20) fun x42 μ40 => opRet x42 μ40) else ((opGR 12 0 μ20 p0).bind fun x26 => opCall (f_X12_personRow p1 μ20) fun x30 μ28 => (opLI 1 μ28 x26 (x30 + (2 : Int32))).bind fun x31 => (opSI μ28 x26 (x30 + (2 : Int32)) (x31 ^^^ ((1 : Int32) <<< (p2 &&& 31)))).bind fun μ33 => (opRv 12 μ33 p0).bind fun _ => opCall (f_X12_is p0 (0 : Int32) μ33) fun x38 μ36 => opRet x38 μ36)))
set_option maxRecDepth 100000 in
theorem c_X12_teach_16 {r : Int32} {F : dtM} (l0 : Nat) (μ : dtM) (h : f_X12_teach_16 l0 μ = some (r, F)) : dtW yX12_teach cX12_teach 4 (some .boolean) 3 (some (.int r)) F 16 [some (.ref l0)] [] μ := by
  rw [f_X12_teach_16] at h
  refine dr_aload_n l0 dX12_teach_16 rfl ?_
  refine dr_iconst (1 : Int32) dX12_teach_17 (by decide) ?_
  obtain ⟨_, hb1, h⟩ := dtBind h
  obtain ⟨x4, μ2, e3, h⟩ := dtCall h
  refine dr_callV_i (S0 := []) [.int (1 : Int32)] x4 μ2 dX12_teach_18 (c_X12_is l0 (1 : Int32) μ e3) mf_X12_is wt_1492 ws_53 wt_1490 rfl (dtRv hb1) (by decide) rfl (Nat.le_of_ble_eq_true rfl) (Nat.le_of_ble_eq_true rfl) rfl ?_
  obtain ⟨hz, rfl, rfl⟩ := dtRet h
  exact dr_ireturn dX12_teach_21 (dtNz hz)
set_option maxRecDepth 100000 in
theorem c_X12_teach {r : Int32} {F : dtM} (p0 : Nat) (p1 : Int32) (p2 : Int32) (p3 : Int32) (μ : dtM) (h : f_X12_teach p0 p1 p2 p3 μ = some (r, F)) : dtMet yX12_teach cX12_teach 4 (some .boolean) 3 [.ref p0, .int p1, .int p2, .int p3] μ (some (.int r)) F := by
  refine dtMet.of (by decide +kernel) (Nat.le_of_ble_eq_true rfl) (show dtW yX12_teach cX12_teach 4 (some .boolean) 3 (some (.int r)) F 0 [some (.ref p0), some (.int p1), some (.int p2), some (.int p3)] [] μ from ?_)
  rw [f_X12_teach] at h
  refine dr_aload_n p0 dX12_teach_0 rfl ?_
  refine dr_iload_n p1 dX12_teach_1 rfl ?_
  obtain ⟨_, hb1, h⟩ := dtBind h
  obtain ⟨x4, μ2, e3, h⟩ := dtCall h
  refine dr_callV_i (S0 := []) [.int p1] x4 μ2 dX12_teach_2 (c_X12_isPerson p0 p1 μ e3) mf_X12_isPerson wt_1732 ws_95 wt_1730 rfl (dtRv hb1) (by decide) rfl (Nat.le_of_ble_eq_true rfl) (Nat.le_of_ble_eq_true rfl) rfl ?_
  obtain ⟨ht6, hf7⟩ := dtIte h
  refine dr_if_eq 16 dX12_teach_5 (by decide) (fun hc5 => ?_) (fun hc5 => ?_)
  · have h := ht6 hc5
    refine dr_mask [true] [some (.ref p0)] rfl ?_
    exact c_X12_teach_16 p0 μ2 h
  · have h := hf7 hc5
    refine dr_aload_n p0 dX12_teach_8 rfl ?_
    refine dr_iload_n p2 dX12_teach_9 rfl ?_
    obtain ⟨_, hb8, h⟩ := dtBind h
    obtain ⟨x11, μ9, e10, h⟩ := dtCall h
    refine dr_callV_i (S0 := []) [.int p2] x11 μ9 dX12_teach_10 (c_X12_isWord p0 p2 μ2 e10) mf_X12_isWord wt_1720 ws_94 wt_1718 rfl (dtRv hb8) (by decide) rfl (Nat.le_of_ble_eq_true rfl) (Nat.le_of_ble_eq_true rfl) rfl ?_
    obtain ⟨ht13, hf14⟩ := dtIte h
    refine dr_if_ne 22 dX12_teach_13 (by decide) (fun hc12 => ?_) (fun hc12 => ?_)
    · have h := hf14 hc12
      refine dr_aload_n p0 dX12_teach_22 rfl ?_
      refine dr_aload_n p0 dX12_teach_23 rfl ?_
      refine dr_iload_n p1 dX12_teach_24 rfl ?_
      refine dr_iconst (2 : Int32) dX12_teach_25 (by decide) ?_
      obtain ⟨_, hb15, h⟩ := dtBind h
      obtain ⟨x18, μ16, e17, h⟩ := dtCall h
      refine dr_callV_i (S0 := [.ref p0]) [.int p1, .int (2 : Int32)] x18 μ16 dX12_teach_26 (c_X12_personOf p0 p1 (2 : Int32) μ9 e17) mf_X12_personOf wt_1736 ws_96 wt_1734 rfl (dtRv hb15) (by decide) rfl (Nat.le_of_ble_eq_true rfl) (Nat.le_of_ble_eq_true rfl) rfl ?_
      refine dr_iload_n p2 dX12_teach_29 rfl ?_
      obtain ⟨_, hb19, h⟩ := dtBind h
      obtain ⟨x22, μ20, e21, h⟩ := dtCall h
      refine dr_callV_i (S0 := []) [.int x18, .int p2] x22 μ20 dX12_teach_30 (c_X12_isIn p0 x18 p2 μ16 e21) mf_X12_isIn wt_1656 ws_82 wt_1654 rfl (dtRv hb19) (by decide) rfl (Nat.le_of_ble_eq_true rfl) (Nat.le_of_ble_eq_true rfl) rfl ?_
      refine dr_iload_n p3 dX12_teach_33 rfl ?_
      obtain ⟨ht24, hf25⟩ := dtIte h
      refine dr_icmp_ne 44 dX12_teach_34 (by decide) (fun hc23 => ?_) (fun hc23 => ?_)
      · have h := hf25 hc23
        refine dr_aload_n p0 dX12_teach_44 rfl ?_
        obtain ⟨x26, e27, h⟩ := dtBind h
        refine dr_getR x26 dX12_teach_45 fl_RX12_7 e27 ?_
        refine dr_iload_n p1 dX12_teach_48 rfl ?_
        obtain ⟨x30, μ28, e29, h⟩ := dtCall h
        refine dr_callS_i (S0 := [.ref x26]) [.int p1] x30 μ28 dX12_teach_49 (c_X12_personRow p1 μ20 e29) mf_X12_personRow wt_1652 wt_1651 rfl (Nat.le_of_ble_eq_true rfl) (Nat.le_of_ble_eq_true rfl) rfl ?_
        refine dr_iconst (2 : Int32) dX12_teach_52 (by decide) ?_
        refine dr_iadd dX12_teach_53 ?_
        refine dr_dup2 dX12_teach_54 rfl rfl ?_
        obtain ⟨x31, e32, h⟩ := dtBind h
        refine dr_iaload x31 dX12_teach_55 e32 ?_
        refine dr_iconst (1 : Int32) dX12_teach_56 (by decide) ?_
        refine dr_iload_n p2 dX12_teach_57 rfl ?_
        refine dr_ishl dX12_teach_58 ?_
        refine dr_ixor dX12_teach_59 ?_
        obtain ⟨μ33, e34, h⟩ := dtBind h
        refine dr_iastore μ33 dX12_teach_60 e34 ?_
        refine dr_aload_n p0 dX12_teach_61 rfl ?_
        refine dr_iconst (0 : Int32) dX12_teach_62 (by decide) ?_
        obtain ⟨_, hb35, h⟩ := dtBind h
        obtain ⟨x38, μ36, e37, h⟩ := dtCall h
        refine dr_callV_i (S0 := []) [.int (0 : Int32)] x38 μ36 dX12_teach_63 (c_X12_is p0 (0 : Int32) μ33 e37) mf_X12_is wt_1492 ws_53 wt_1490 rfl (dtRv hb35) (by decide) rfl (Nat.le_of_ble_eq_true rfl) (Nat.le_of_ble_eq_true rfl) rfl ?_
        obtain ⟨hz, rfl, rfl⟩ := dtRet h
        exact dr_ireturn dX12_teach_66 (dtNz hz)
      · have h := ht24 hc23
        refine dr_aload_n p0 dX12_teach_37 rfl ?_
        refine dr_bipush (7 : Int32) dX12_teach_38 (by decide) ?_
        obtain ⟨_, hb39, h⟩ := dtBind h
        obtain ⟨x42, μ40, e41, h⟩ := dtCall h
        refine dr_callV_i (S0 := []) [.int (7 : Int32)] x42 μ40 dX12_teach_40 (c_X12_is p0 (7 : Int32) μ20 e41) mf_X12_is wt_1492 ws_53 wt_1490 rfl (dtRv hb39) (by decide) rfl (Nat.le_of_ble_eq_true rfl) (Nat.le_of_ble_eq_true rfl) rfl ?_
        obtain ⟨hz, rfl, rfl⟩ := dtRet h
        exact dr_ireturn dX12_teach_43 (dtNz hz)
    · have h := ht13 hc12
      refine dr_mask [true] [some (.ref p0)] rfl ?_
      exact c_X12_teach_16 p0 μ9 h
/-! X12_coin -/
theorem dX12_coin_0 : decode cX12_coin 0 = .ok (.iload_n 1, 1) := by decide +kernel
theorem dX12_coin_1 : decode cX12_coin 1 = .ok (.invokestatic 104, 3) := by decide +kernel
theorem dX12_coin_4 : decode cX12_coin 4 = .ok (.ifCond .eq 15, 3) := by decide +kernel
theorem dX12_coin_7 : decode cX12_coin 7 = .ok (.iload_n 2, 1) := by decide +kernel
theorem dX12_coin_8 : decode cX12_coin 8 = .ok (.i2l, 1) := by decide +kernel
theorem dX12_coin_9 : decode cX12_coin 9 = .ok (.lconst 1, 1) := by decide +kernel
theorem dX12_coin_10 : decode cX12_coin 10 = .ok (.ldc2_w 364, 3) := by decide +kernel
theorem dX12_coin_13 : decode cX12_coin 13 = .ok (.invokestatic 366, 3) := by decide +kernel
theorem dX12_coin_16 : decode cX12_coin 16 = .ok (.ifCond .ne 9, 3) := by decide +kernel
theorem dX12_coin_19 : decode cX12_coin 19 = .ok (.aload_n 0, 1) := by decide +kernel
theorem dX12_coin_20 : decode cX12_coin 20 = .ok (.iconst 1, 1) := by decide +kernel
theorem dX12_coin_21 : decode cX12_coin 21 = .ok (.invokevirtual 93, 3) := by decide +kernel
theorem dX12_coin_24 : decode cX12_coin 24 = .ok (.ireturn, 1) := by decide +kernel
theorem dX12_coin_25 : decode cX12_coin 25 = .ok (.aload_n 0, 1) := by decide +kernel
theorem dX12_coin_26 : decode cX12_coin 26 = .ok (.getfield 24, 3) := by decide +kernel
theorem dX12_coin_29 : decode cX12_coin 29 = .ok (.iload_n 1, 1) := by decide +kernel
theorem dX12_coin_30 : decode cX12_coin 30 = .ok (.iaload, 1) := by decide +kernel
theorem dX12_coin_31 : decode cX12_coin 31 = .ok (.iconst (-1), 1) := by decide +kernel
theorem dX12_coin_32 : decode cX12_coin 32 = .ok (.if_icmp .ne 9, 3) := by decide +kernel
theorem dX12_coin_35 : decode cX12_coin 35 = .ok (.aload_n 0, 1) := by decide +kernel
theorem dX12_coin_36 : decode cX12_coin 36 = .ok (.iconst 2, 1) := by decide +kernel
theorem dX12_coin_37 : decode cX12_coin 37 = .ok (.invokevirtual 93, 3) := by decide +kernel
theorem dX12_coin_40 : decode cX12_coin 40 = .ok (.ireturn, 1) := by decide +kernel
theorem dX12_coin_41 : decode cX12_coin 41 = .ok (.aload_n 0, 1) := by decide +kernel
theorem dX12_coin_42 : decode cX12_coin 42 = .ok (.getfield 24, 3) := by decide +kernel
theorem dX12_coin_45 : decode cX12_coin 45 = .ok (.iload_n 1, 1) := by decide +kernel
theorem dX12_coin_46 : decode cX12_coin 46 = .ok (.iaload, 1) := by decide +kernel
theorem dX12_coin_47 : decode cX12_coin 47 = .ok (.iload_n 2, 1) := by decide +kernel
theorem dX12_coin_48 : decode cX12_coin 48 = .ok (.if_icmp .ge 9, 3) := by decide +kernel
theorem dX12_coin_51 : decode cX12_coin 51 = .ok (.aload_n 0, 1) := by decide +kernel
theorem dX12_coin_52 : decode cX12_coin 52 = .ok (.iconst 3, 1) := by decide +kernel
theorem dX12_coin_53 : decode cX12_coin 53 = .ok (.invokevirtual 93, 3) := by decide +kernel
theorem dX12_coin_56 : decode cX12_coin 56 = .ok (.ireturn, 1) := by decide +kernel
theorem dX12_coin_57 : decode cX12_coin 57 = .ok (.aload_n 0, 1) := by decide +kernel
theorem dX12_coin_58 : decode cX12_coin 58 = .ok (.getfield 7, 3) := by decide +kernel
theorem dX12_coin_61 : decode cX12_coin 61 = .ok (.iconst 2, 1) := by decide +kernel
theorem dX12_coin_62 : decode cX12_coin 62 = .ok (.iaload, 1) := by decide +kernel
theorem dX12_coin_63 : decode cX12_coin 63 = .ok (.istore_n 3, 1) := by decide +kernel
theorem dX12_coin_64 : decode cX12_coin 64 = .ok (.iload_n 3, 1) := by decide +kernel
theorem dX12_coin_65 : decode cX12_coin 65 = .ok (.bipush 7, 2) := by decide +kernel
theorem dX12_coin_67 : decode cX12_coin 67 = .ok (.if_icmp .ne 9, 3) := by decide +kernel
theorem dX12_coin_70 : decode cX12_coin 70 = .ok (.aload_n 0, 1) := by decide +kernel
theorem dX12_coin_71 : decode cX12_coin 71 = .ok (.iconst 4, 1) := by decide +kernel
theorem dX12_coin_72 : decode cX12_coin 72 = .ok (.invokevirtual 93, 3) := by decide +kernel
theorem dX12_coin_75 : decode cX12_coin 75 = .ok (.ireturn, 1) := by decide +kernel
theorem dX12_coin_76 : decode cX12_coin 76 = .ok (.iload_n 3, 1) := by decide +kernel
theorem dX12_coin_77 : decode cX12_coin 77 = .ok (.invokestatic 222, 3) := by decide +kernel
theorem dX12_coin_80 : decode cX12_coin 80 = .ok (.istore 4, 2) := by decide +kernel
theorem dX12_coin_82 : decode cX12_coin 82 = .ok (.iconst 0, 1) := by decide +kernel
theorem dX12_coin_83 : decode cX12_coin 83 = .ok (.istore 5, 2) := by decide +kernel
theorem dX12_coin_85 : decode cX12_coin 85 = .ok (.iload 5, 2) := by decide +kernel
theorem dX12_coin_87 : decode cX12_coin 87 = .ok (.iload_n 2, 1) := by decide +kernel
theorem dX12_coin_88 : decode cX12_coin 88 = .ok (.if_icmp .ge 37, 3) := by decide +kernel
theorem dX12_coin_91 : decode cX12_coin 91 = .ok (.aload_n 0, 1) := by decide +kernel
theorem dX12_coin_92 : decode cX12_coin 92 = .ok (.getfield 27, 3) := by decide +kernel
theorem dX12_coin_95 : decode cX12_coin 95 = .ok (.bipush 60, 2) := by decide +kernel
theorem dX12_coin_97 : decode cX12_coin 97 = .ok (.iload_n 1, 1) := by decide +kernel
theorem dX12_coin_98 : decode cX12_coin 98 = .ok (.imul, 1) := by decide +kernel
theorem dX12_coin_99 : decode cX12_coin 99 = .ok (.iload 5, 2) := by decide +kernel
theorem dX12_coin_101 : decode cX12_coin 101 = .ok (.iadd, 1) := by decide +kernel
theorem dX12_coin_102 : decode cX12_coin 102 = .ok (.laload, 1) := by decide +kernel
theorem dX12_coin_103 : decode cX12_coin 103 = .ok (.lconst 0, 1) := by decide +kernel
theorem dX12_coin_104 : decode cX12_coin 104 = .ok (.ldc2_w 370, 3) := by decide +kernel
theorem dX12_coin_107 : decode cX12_coin 107 = .ok (.invokestatic 366, 3) := by decide +kernel
theorem dX12_coin_110 : decode cX12_coin 110 = .ok (.ifCond .ne 9, 3) := by decide +kernel
theorem dX12_coin_113 : decode cX12_coin 113 = .ok (.aload_n 0, 1) := by decide +kernel
theorem dX12_coin_114 : decode cX12_coin 114 = .ok (.iconst 5, 1) := by decide +kernel
theorem dX12_coin_115 : decode cX12_coin 115 = .ok (.invokevirtual 93, 3) := by decide +kernel
theorem dX12_coin_118 : decode cX12_coin 118 = .ok (.ireturn, 1) := by decide +kernel
theorem dX12_coin_119 : decode cX12_coin 119 = .ok (.iinc 5 1, 3) := by decide +kernel
theorem dX12_coin_122 : decode cX12_coin 122 = .ok (.goto (-37), 3) := by decide +kernel
theorem dX12_coin_125 : decode cX12_coin 125 = .ok (.aload_n 0, 1) := by decide +kernel
theorem dX12_coin_126 : decode cX12_coin 126 = .ok (.getfield 7, 3) := by decide +kernel
theorem dX12_coin_129 : decode cX12_coin 129 = .ok (.iload 4, 2) := by decide +kernel
theorem dX12_coin_131 : decode cX12_coin 131 = .ok (.iload_n 2, 1) := by decide +kernel
theorem dX12_coin_132 : decode cX12_coin 132 = .ok (.iastore, 1) := by decide +kernel
theorem dX12_coin_133 : decode cX12_coin 133 = .ok (.iconst 0, 1) := by decide +kernel
theorem dX12_coin_134 : decode cX12_coin 134 = .ok (.istore 5, 2) := by decide +kernel
theorem dX12_coin_136 : decode cX12_coin 136 = .ok (.iload 5, 2) := by decide +kernel
theorem dX12_coin_138 : decode cX12_coin 138 = .ok (.iconst 4, 1) := by decide +kernel
theorem dX12_coin_139 : decode cX12_coin 139 = .ok (.if_icmp .ge 44, 3) := by decide +kernel
theorem dX12_coin_142 : decode cX12_coin 142 = .ok (.aload_n 0, 1) := by decide +kernel
theorem dX12_coin_143 : decode cX12_coin 143 = .ok (.getfield 7, 3) := by decide +kernel
theorem dX12_coin_146 : decode cX12_coin 146 = .ok (.iload 4, 2) := by decide +kernel
theorem dX12_coin_148 : decode cX12_coin 148 = .ok (.iconst 1, 1) := by decide +kernel
theorem dX12_coin_149 : decode cX12_coin 149 = .ok (.iadd, 1) := by decide +kernel
theorem dX12_coin_150 : decode cX12_coin 150 = .ok (.iload 5, 2) := by decide +kernel
theorem dX12_coin_152 : decode cX12_coin 152 = .ok (.iadd, 1) := by decide +kernel
theorem dX12_coin_153 : decode cX12_coin 153 = .ok (.iload 5, 2) := by decide +kernel
theorem dX12_coin_155 : decode cX12_coin 155 = .ok (.iload_n 2, 1) := by decide +kernel
theorem dX12_coin_156 : decode cX12_coin 156 = .ok (.if_icmp .ge 19, 3) := by decide +kernel
theorem dX12_coin_159 : decode cX12_coin 159 = .ok (.aload_n 0, 1) := by decide +kernel
theorem dX12_coin_160 : decode cX12_coin 160 = .ok (.getfield 27, 3) := by decide +kernel
theorem dX12_coin_163 : decode cX12_coin 163 = .ok (.bipush 60, 2) := by decide +kernel
theorem dX12_coin_165 : decode cX12_coin 165 = .ok (.iload_n 1, 1) := by decide +kernel
theorem dX12_coin_166 : decode cX12_coin 166 = .ok (.imul, 1) := by decide +kernel
theorem dX12_coin_167 : decode cX12_coin 167 = .ok (.iload 5, 2) := by decide +kernel
theorem dX12_coin_169 : decode cX12_coin 169 = .ok (.iadd, 1) := by decide +kernel
theorem dX12_coin_170 : decode cX12_coin 170 = .ok (.laload, 1) := by decide +kernel
theorem dX12_coin_171 : decode cX12_coin 171 = .ok (.l2i, 1) := by decide +kernel
theorem dX12_coin_172 : decode cX12_coin 172 = .ok (.goto 4, 3) := by decide +kernel
theorem dX12_coin_175 : decode cX12_coin 175 = .ok (.iconst 0, 1) := by decide +kernel
theorem dX12_coin_176 : decode cX12_coin 176 = .ok (.iastore, 1) := by decide +kernel
theorem dX12_coin_177 : decode cX12_coin 177 = .ok (.iinc 5 1, 3) := by decide +kernel
theorem dX12_coin_180 : decode cX12_coin 180 = .ok (.goto (-44), 3) := by decide +kernel
theorem dX12_coin_183 : decode cX12_coin 183 = .ok (.aload_n 0, 1) := by decide +kernel
theorem dX12_coin_184 : decode cX12_coin 184 = .ok (.iconst 0, 1) := by decide +kernel
theorem dX12_coin_185 : decode cX12_coin 185 = .ok (.iload_n 3, 1) := by decide +kernel
theorem dX12_coin_186 : decode cX12_coin 186 = .ok (.invokevirtual 235, 3) := by decide +kernel
theorem dX12_coin_189 : decode cX12_coin 189 = .ok (.iconst (-1), 1) := by decide +kernel
theorem dX12_coin_190 : decode cX12_coin 190 = .ok (.if_icmp .eq 10, 3) := by decide +kernel
theorem dX12_coin_193 : decode cX12_coin 193 = .ok (.aload_n 0, 1) := by decide +kernel
theorem dX12_coin_194 : decode cX12_coin 194 = .ok (.bipush 7, 2) := by decide +kernel
theorem dX12_coin_196 : decode cX12_coin 196 = .ok (.invokevirtual 93, 3) := by decide +kernel
theorem dX12_coin_199 : decode cX12_coin 199 = .ok (.ireturn, 1) := by decide +kernel
theorem dX12_coin_200 : decode cX12_coin 200 = .ok (.aload_n 0, 1) := by decide +kernel
theorem dX12_coin_201 : decode cX12_coin 201 = .ok (.getfield 7, 3) := by decide +kernel
theorem dX12_coin_204 : decode cX12_coin 204 = .ok (.iconst 2, 1) := by decide +kernel
theorem dX12_coin_205 : decode cX12_coin 205 = .ok (.dup2, 1) := by decide +kernel
theorem dX12_coin_206 : decode cX12_coin 206 = .ok (.iaload, 1) := by decide +kernel
theorem dX12_coin_207 : decode cX12_coin 207 = .ok (.iconst 1, 1) := by decide +kernel
theorem dX12_coin_208 : decode cX12_coin 208 = .ok (.iadd, 1) := by decide +kernel
theorem dX12_coin_209 : decode cX12_coin 209 = .ok (.iastore, 1) := by decide +kernel
theorem dX12_coin_210 : decode cX12_coin 210 = .ok (.aload_n 0, 1) := by decide +kernel
theorem dX12_coin_211 : decode cX12_coin 211 = .ok (.getfield 13, 3) := by decide +kernel
theorem dX12_coin_214 : decode cX12_coin 214 = .ok (.bipush 7, 2) := by decide +kernel
theorem dX12_coin_216 : decode cX12_coin 216 = .ok (.iload_n 3, 1) := by decide +kernel
theorem dX12_coin_217 : decode cX12_coin 217 = .ok (.iadd, 1) := by decide +kernel
theorem dX12_coin_218 : decode cX12_coin 218 = .ok (.lconst 0, 1) := by decide +kernel
theorem dX12_coin_219 : decode cX12_coin 219 = .ok (.lastore, 1) := by decide +kernel
theorem dX12_coin_220 : decode cX12_coin 220 = .ok (.aload_n 0, 1) := by decide +kernel
theorem dX12_coin_221 : decode cX12_coin 221 = .ok (.iload_n 3, 1) := by decide +kernel
theorem dX12_coin_222 : decode cX12_coin 222 = .ok (.invokevirtual 97, 3) := by decide +kernel
theorem dX12_coin_225 : decode cX12_coin 225 = .ok (.ireturn, 1) := by decide +kernel
set_option maxRecDepth 100000 in
def f_X12_coin_19 (l0 : Nat) (μ : dtM) : Option (Int32 × dtM) :=
  (opRv 12 μ l0).bind fun _ => opCall (f_X12_refuse l0 (1 : Int32) μ) fun x4 μ2 => some (x4, μ2)
set_option maxRecDepth 100000 in
def f_X12_coin_176 (k136 : Nat → Int32 → Int32 → Int32 → Int32 → Int32 → dtM → Option (Int32 × dtM)) (l0 : Nat) (l1 : Int32) (l2 : Int32) (l3 : Int32) (l4 : Int32) (l5 : Int32) (s0 : Nat) (s1 : Int32) (s2 : Int32) (μ : dtM) : Option (Int32 × dtM) :=
  (opSI μ s0 s1 s2).bind fun μ1 => k136 l0 l1 l2 l3 l4 (l5 + 1) μ1
set_option maxRecDepth 100000 in
def f_X12_coin_136 : Nat → Nat → Int32 → Int32 → Int32 → Int32 → Int32 → dtM → Option (Int32 × dtM)
  | 0, _, _, _, _, _, _, _ => none
  | n + 1, l0, l1, l2, l3, l4, l5, μ =>
    if (4 : Int32) ≤ l5 then ((opRv 12 μ l0).bind fun _ => opCall (f_X12_sameAs l0 (0 : Int32) l3 μ) fun x7 μ5 => if x7 = (-1 : Int32) then ((opGR 12 0 μ5 l0).bind fun x11 => (opLI 1 μ5 x11 (2 : Int32)).bind fun x13 => (opSI μ5 x11 (2 : Int32) (x13 + (1 : Int32))).bind fun μ15 => (opGR 12 1 μ15 l0).bind fun x17 => (opSJ μ15 x17 ((7 : Int32) + l3) (0 : Int64)).bind fun μ19 => (opRv 12 μ19 l0).bind fun _ => opCall (f_X12_gives l0 l3 μ19) fun x24 μ22 => some (x24, μ22)) else ((opRv 12 μ5 l0).bind fun _ => opCall (f_X12_refuse l0 (7 : Int32) μ5) fun x28 μ26 => some (x28, μ26))) else ((opGR 12 0 μ l0).bind fun x29 => if l2 ≤ l5 then (f_X12_coin_176 (f_X12_coin_136 n) l0 l1 l2 l3 l4 l5 x29 ((l4 + (1 : Int32)) + l5) (0 : Int32) μ) else ((opGR 12 7 μ l0).bind fun x34 => (opLJ 3 μ x34 (((60 : Int32) * l1) + l5)).bind fun x36 => f_X12_coin_176 (f_X12_coin_136 n) l0 l1 l2 l3 l4 l5 x29 ((l4 + (1 : Int32)) + l5) (x36.toInt32) μ))
set_option maxRecDepth 100000 in
def f_X12_coin_85 : Nat → Nat → Int32 → Int32 → Int32 → Int32 → Int32 → dtM → Option (Int32 × dtM)
  | 0, _, _, _, _, _, _, _ => none
  | n + 1, l0, l1, l2, l3, l4, l5, μ =>
    if l2 ≤ l5 then ((opGR 12 0 μ l0).bind fun x4 => (opSI μ x4 l4 l2).bind fun μ6 => f_X12_coin_136 dtFuel l0 l1 l2 l3 l4 (0 : Int32) μ6) else ((opGR 12 7 μ l0).bind fun x8 => (opLJ 3 μ x8 (((60 : Int32) * l1) + l5)).bind fun x10 => opCall (f_X12_isFrom x10 (0 : Int64) (3 : Int64) μ) fun x14 μ12 => if x14 = 0 then ((opRv 12 μ12 l0).bind fun _ => opCall (f_X12_refuse l0 (5 : Int32) μ12) fun x21 μ19 => some (x21, μ19)) else (f_X12_coin_85 n l0 l1 l2 l3 l4 (l5 + 1) μ12))
set_option maxRecDepth 100000 in
def f_X12_coin (p0 : Nat) (p1 : Int32) (p2 : Int32) (μ : dtM) : Option (Int32 × dtM) :=
  opCall (f_X12_isTray p1 μ) fun x3 μ1 => if x3 = 0 then (f_X12_coin_19 p0 μ1) else (opCall (f_X12_isFrom (p2.toInt64) (1 : Int64) (4 : Int64) μ1) fun x9 μ7 => if x9 = 0 then (f_X12_coin_19 p0 μ7) else ((opGR 12 6 μ7 p0).bind fun x13 => (opLI 1 μ7 x13 p1).bind fun x15 => if x15 = (-1 : Int32) then ((opRv 12 μ7 p0).bind fun _ => opCall (f_X12_refuse p0 (2 : Int32) μ7) fun x48 μ46 => some (x48, μ46)) else ((opGR 12 6 μ7 p0).bind fun x20 => (opLI 1 μ7 x20 p1).bind fun x22 => if p2 ≤ x22 then ((opGR 12 0 μ7 p0).bind fun x27 => (opLI 1 μ7 x27 (2 : Int32)).bind fun x29 => if x29 = (7 : Int32) then ((opRv 12 μ7 p0).bind fun _ => opCall (f_X12_refuse p0 (4 : Int32) μ7) fun x40 μ38 => some (x40, μ38)) else (opCall (f_X12_wordRow x29 μ7) fun x36 μ34 => f_X12_coin_85 dtFuel p0 p1 p2 x29 x36 (0 : Int32) μ34)) else ((opRv 12 μ7 p0).bind fun _ => opCall (f_X12_refuse p0 (3 : Int32) μ7) fun x44 μ42 => some (x44, μ42)))))
set_option maxRecDepth 100000 in
theorem c_X12_coin_19 {r : Int32} {F : dtM} (l0 : Nat) (μ : dtM) (h : f_X12_coin_19 l0 μ = some (r, F)) : dtW yX12_coin cX12_coin 6 (some .int) 4 (some (.int r)) F 19 [some (.ref l0)] [] μ := by
  rw [f_X12_coin_19] at h
  refine dr_aload_n l0 dX12_coin_19 rfl ?_
  refine dr_iconst (1 : Int32) dX12_coin_20 (by decide) ?_
  obtain ⟨_, hb1, h⟩ := dtBind h
  obtain ⟨x4, μ2, e3, h⟩ := dtCall h
  refine dr_callV_i (S0 := []) [.int (1 : Int32)] x4 μ2 dX12_coin_21 (c_X12_refuse l0 (1 : Int32) μ e3) mf_X12_refuse wt_1552 ws_59 wt_1550 rfl (dtRv hb1) (by decide) rfl (Nat.le_of_ble_eq_true rfl) (Nat.le_of_ble_eq_true rfl) rfl ?_
  cases h
  exact dr_ireturn dX12_coin_24 rfl
set_option maxRecDepth 100000 in
theorem c_X12_coin_176 {r : Int32} {F : dtM} (k136 : Nat → Int32 → Int32 → Int32 → Int32 → Int32 → dtM → Option (Int32 × dtM)) (hk136 : ∀ (l0 : Nat) (l1 : Int32) (l2 : Int32) (l3 : Int32) (l4 : Int32) (l5 : Int32) (μ : dtM), k136 l0 l1 l2 l3 l4 l5 μ = some (r, F) → dtW yX12_coin cX12_coin 6 (some .int) 4 (some (.int r)) F 136 [some (.ref l0), some (.int l1), some (.int l2), some (.int l3), some (.int l4), some (.int l5)] [] μ) (l0 : Nat) (l1 : Int32) (l2 : Int32) (l3 : Int32) (l4 : Int32) (l5 : Int32) (s0 : Nat) (s1 : Int32) (s2 : Int32) (μ : dtM) (h : f_X12_coin_176 k136 l0 l1 l2 l3 l4 l5 s0 s1 s2 μ = some (r, F)) : dtW yX12_coin cX12_coin 6 (some .int) 4 (some (.int r)) F 176 [some (.ref l0), some (.int l1), some (.int l2), some (.int l3), some (.int l4), some (.int l5)] [.int s2, .int s1, .ref s0] μ := by
  rw [f_X12_coin_176] at h
  obtain ⟨μ1, e2, h⟩ := dtBind h
  refine dr_iastore μ1 dX12_coin_176 e2 ?_
  refine dr_iinc l5 (l5 + 1) [some (.ref l0), some (.int l1), some (.int l2), some (.int l3), some (.int l4), some (.int (l5 + 1))] dX12_coin_177 rfl rfl rfl rfl rfl ?_
  refine dr_goto 136 dX12_coin_180 (by decide) ?_
  exact hk136 l0 l1 l2 l3 l4 (l5 + 1) μ1 h
set_option maxRecDepth 100000 in
theorem c_X12_coin_136 {r : Int32} {F : dtM} : ∀ (n : Nat) (l0 : Nat) (l1 : Int32) (l2 : Int32) (l3 : Int32) (l4 : Int32) (l5 : Int32) (μ : dtM), f_X12_coin_136 n l0 l1 l2 l3 l4 l5 μ = some (r, F) → dtW yX12_coin cX12_coin 6 (some .int) 4 (some (.int r)) F 136 [some (.ref l0), some (.int l1), some (.int l2), some (.int l3), some (.int l4), some (.int l5)] [] μ := by
  intro n
  induction n with
  | zero => intro l0 l1 l2 l3 l4 l5 μ h; cases h
  | succ n ih =>
    intro l0 l1 l2 l3 l4 l5 μ h
    have h := (show f_X12_coin_136 (n + 1) l0 l1 l2 l3 l4 l5 μ = some _ from h)
    rw [f_X12_coin_136] at h
    refine dr_iload l5 dX12_coin_136 rfl ?_
    refine dr_iconst (4 : Int32) dX12_coin_138 (by decide) ?_
    obtain ⟨ht2, hf3⟩ := dtIte h
    refine dr_icmp_ge 183 dX12_coin_139 (by decide) (fun hc1 => ?_) (fun hc1 => ?_)
    · have h := ht2 hc1
      refine dr_aload_n l0 dX12_coin_183 rfl ?_
      refine dr_iconst (0 : Int32) dX12_coin_184 (by decide) ?_
      refine dr_iload_n l3 dX12_coin_185 rfl ?_
      obtain ⟨_, hb4, h⟩ := dtBind h
      obtain ⟨x7, μ5, e6, h⟩ := dtCall h
      refine dr_callV_i (S0 := []) [.int (0 : Int32), .int l3] x7 μ5 dX12_coin_186 (c_X12_sameAs l0 (0 : Int32) l3 μ e6) mf_X12_sameAs wt_1641 ws_79 wt_1639 rfl (dtRv hb4) (by decide) rfl (Nat.le_of_ble_eq_true rfl) (Nat.le_of_ble_eq_true rfl) rfl ?_
      refine dr_iconst (-1 : Int32) dX12_coin_189 (by decide) ?_
      obtain ⟨ht9, hf10⟩ := dtIte h
      refine dr_icmp_eq 200 dX12_coin_190 (by decide) (fun hc8 => ?_) (fun hc8 => ?_)
      · have h := ht9 hc8
        refine dr_aload_n l0 dX12_coin_200 rfl ?_
        obtain ⟨x11, e12, h⟩ := dtBind h
        refine dr_getR x11 dX12_coin_201 fl_RX12_7 e12 ?_
        refine dr_iconst (2 : Int32) dX12_coin_204 (by decide) ?_
        refine dr_dup2 dX12_coin_205 rfl rfl ?_
        obtain ⟨x13, e14, h⟩ := dtBind h
        refine dr_iaload x13 dX12_coin_206 e14 ?_
        refine dr_iconst (1 : Int32) dX12_coin_207 (by decide) ?_
        refine dr_iadd dX12_coin_208 ?_
        obtain ⟨μ15, e16, h⟩ := dtBind h
        refine dr_iastore μ15 dX12_coin_209 e16 ?_
        refine dr_aload_n l0 dX12_coin_210 rfl ?_
        obtain ⟨x17, e18, h⟩ := dtBind h
        refine dr_getR x17 dX12_coin_211 fl_RX12_13 e18 ?_
        refine dr_bipush (7 : Int32) dX12_coin_214 (by decide) ?_
        refine dr_iload_n l3 dX12_coin_216 rfl ?_
        refine dr_iadd dX12_coin_217 ?_
        refine dr_lconst (0 : Int64) dX12_coin_218 (by decide) ?_
        obtain ⟨μ19, e20, h⟩ := dtBind h
        refine dr_lastore μ19 dX12_coin_219 e20 ?_
        refine dr_aload_n l0 dX12_coin_220 rfl ?_
        refine dr_iload_n l3 dX12_coin_221 rfl ?_
        obtain ⟨_, hb21, h⟩ := dtBind h
        obtain ⟨x24, μ22, e23, h⟩ := dtCall h
        refine dr_callV_i (S0 := []) [.int l3] x24 μ22 dX12_coin_222 (c_X12_gives l0 l3 μ19 e23) mf_X12_gives wt_1668 ws_85 wt_1666 rfl (dtRv hb21) (by decide) rfl (Nat.le_of_ble_eq_true rfl) (Nat.le_of_ble_eq_true rfl) rfl ?_
        cases h
        exact dr_ireturn dX12_coin_225 rfl
      · have h := hf10 hc8
        refine dr_aload_n l0 dX12_coin_193 rfl ?_
        refine dr_bipush (7 : Int32) dX12_coin_194 (by decide) ?_
        obtain ⟨_, hb25, h⟩ := dtBind h
        obtain ⟨x28, μ26, e27, h⟩ := dtCall h
        refine dr_callV_i (S0 := []) [.int (7 : Int32)] x28 μ26 dX12_coin_196 (c_X12_refuse l0 (7 : Int32) μ5 e27) mf_X12_refuse wt_1552 ws_59 wt_1550 rfl (dtRv hb25) (by decide) rfl (Nat.le_of_ble_eq_true rfl) (Nat.le_of_ble_eq_true rfl) rfl ?_
        cases h
        exact dr_ireturn dX12_coin_199 rfl
    · have h := hf3 hc1
      refine dr_aload_n l0 dX12_coin_142 rfl ?_
      obtain ⟨x29, e30, h⟩ := dtBind h
      refine dr_getR x29 dX12_coin_143 fl_RX12_7 e30 ?_
      refine dr_iload l4 dX12_coin_146 rfl ?_
      refine dr_iconst (1 : Int32) dX12_coin_148 (by decide) ?_
      refine dr_iadd dX12_coin_149 ?_
      refine dr_iload l5 dX12_coin_150 rfl ?_
      refine dr_iadd dX12_coin_152 ?_
      refine dr_iload l5 dX12_coin_153 rfl ?_
      refine dr_iload_n l2 dX12_coin_155 rfl ?_
      obtain ⟨ht32, hf33⟩ := dtIte h
      refine dr_icmp_ge 175 dX12_coin_156 (by decide) (fun hc31 => ?_) (fun hc31 => ?_)
      · have h := ht32 hc31
        refine dr_iconst (0 : Int32) dX12_coin_175 (by decide) ?_
        exact c_X12_coin_176 (f_X12_coin_136 n) ih l0 l1 l2 l3 l4 l5 x29 ((l4 + (1 : Int32)) + l5) (0 : Int32) μ h
      · have h := hf33 hc31
        refine dr_aload_n l0 dX12_coin_159 rfl ?_
        obtain ⟨x34, e35, h⟩ := dtBind h
        refine dr_getR x34 dX12_coin_160 fl_RX12_27 e35 ?_
        refine dr_bipush (60 : Int32) dX12_coin_163 (by decide) ?_
        refine dr_iload_n l1 dX12_coin_165 rfl ?_
        refine dr_imul dX12_coin_166 ?_
        refine dr_iload l5 dX12_coin_167 rfl ?_
        refine dr_iadd dX12_coin_169 ?_
        obtain ⟨x36, e37, h⟩ := dtBind h
        refine dr_laload x36 dX12_coin_170 e37 ?_
        refine dr_l2i dX12_coin_171 ?_
        refine dr_goto 176 dX12_coin_172 (by decide) ?_
        exact c_X12_coin_176 (f_X12_coin_136 n) ih l0 l1 l2 l3 l4 l5 x29 ((l4 + (1 : Int32)) + l5) (x36.toInt32) μ h
set_option maxRecDepth 100000 in
theorem c_X12_coin_85 {r : Int32} {F : dtM} : ∀ (n : Nat) (l0 : Nat) (l1 : Int32) (l2 : Int32) (l3 : Int32) (l4 : Int32) (l5 : Int32) (μ : dtM), f_X12_coin_85 n l0 l1 l2 l3 l4 l5 μ = some (r, F) → dtW yX12_coin cX12_coin 6 (some .int) 4 (some (.int r)) F 85 [some (.ref l0), some (.int l1), some (.int l2), some (.int l3), some (.int l4), some (.int l5)] [] μ := by
  intro n
  induction n with
  | zero => intro l0 l1 l2 l3 l4 l5 μ h; cases h
  | succ n ih =>
    intro l0 l1 l2 l3 l4 l5 μ h
    have h := (show f_X12_coin_85 (n + 1) l0 l1 l2 l3 l4 l5 μ = some _ from h)
    rw [f_X12_coin_85] at h
    refine dr_iload l5 dX12_coin_85 rfl ?_
    refine dr_iload_n l2 dX12_coin_87 rfl ?_
    obtain ⟨ht2, hf3⟩ := dtIte h
    refine dr_icmp_ge 125 dX12_coin_88 (by decide) (fun hc1 => ?_) (fun hc1 => ?_)
    · have h := ht2 hc1
      refine dr_aload_n l0 dX12_coin_125 rfl ?_
      obtain ⟨x4, e5, h⟩ := dtBind h
      refine dr_getR x4 dX12_coin_126 fl_RX12_7 e5 ?_
      refine dr_iload l4 dX12_coin_129 rfl ?_
      refine dr_iload_n l2 dX12_coin_131 rfl ?_
      obtain ⟨μ6, e7, h⟩ := dtBind h
      refine dr_iastore μ6 dX12_coin_132 e7 ?_
      refine dr_iconst (0 : Int32) dX12_coin_133 (by decide) ?_
      refine dr_istore [some (.ref l0), some (.int l1), some (.int l2), some (.int l3), some (.int l4), some (.int (0 : Int32))] dX12_coin_134 rfl rfl rfl ?_
      exact c_X12_coin_136 dtFuel l0 l1 l2 l3 l4 (0 : Int32) μ6 h
    · have h := hf3 hc1
      refine dr_aload_n l0 dX12_coin_91 rfl ?_
      obtain ⟨x8, e9, h⟩ := dtBind h
      refine dr_getR x8 dX12_coin_92 fl_RX12_27 e9 ?_
      refine dr_bipush (60 : Int32) dX12_coin_95 (by decide) ?_
      refine dr_iload_n l1 dX12_coin_97 rfl ?_
      refine dr_imul dX12_coin_98 ?_
      refine dr_iload l5 dX12_coin_99 rfl ?_
      refine dr_iadd dX12_coin_101 ?_
      obtain ⟨x10, e11, h⟩ := dtBind h
      refine dr_laload x10 dX12_coin_102 e11 ?_
      refine dr_lconst (0 : Int64) dX12_coin_103 (by decide) ?_
      refine dr_ldc2 (3 : Int64) dX12_coin_104 wt_1856 ?_
      obtain ⟨x14, μ12, e13, h⟩ := dtCall h
      refine dr_callS_i (S0 := []) [.long x10, .long (0 : Int64), .long (3 : Int64)] x14 μ12 dX12_coin_107 (c_X12_isFrom x10 (0 : Int64) (3 : Int64) μ e13) mf_X12_isFrom wt_1854 wt_1853 rfl (Nat.le_of_ble_eq_true rfl) (Nat.le_of_ble_eq_true rfl) rfl ?_
      obtain ⟨ht16, hf17⟩ := dtIte h
      refine dr_if_ne 119 dX12_coin_110 (by decide) (fun hc15 => ?_) (fun hc15 => ?_)
      · have h := hf17 hc15
        refine dr_iinc l5 (l5 + 1) [some (.ref l0), some (.int l1), some (.int l2), some (.int l3), some (.int l4), some (.int (l5 + 1))] dX12_coin_119 rfl rfl rfl rfl rfl ?_
        refine dr_goto 85 dX12_coin_122 (by decide) ?_
        exact ih l0 l1 l2 l3 l4 (l5 + 1) μ12 h
      · have h := ht16 hc15
        refine dr_aload_n l0 dX12_coin_113 rfl ?_
        refine dr_iconst (5 : Int32) dX12_coin_114 (by decide) ?_
        obtain ⟨_, hb18, h⟩ := dtBind h
        obtain ⟨x21, μ19, e20, h⟩ := dtCall h
        refine dr_callV_i (S0 := []) [.int (5 : Int32)] x21 μ19 dX12_coin_115 (c_X12_refuse l0 (5 : Int32) μ12 e20) mf_X12_refuse wt_1552 ws_59 wt_1550 rfl (dtRv hb18) (by decide) rfl (Nat.le_of_ble_eq_true rfl) (Nat.le_of_ble_eq_true rfl) rfl ?_
        cases h
        exact dr_ireturn dX12_coin_118 rfl
set_option maxRecDepth 100000 in
theorem c_X12_coin {r : Int32} {F : dtM} (p0 : Nat) (p1 : Int32) (p2 : Int32) (μ : dtM) (h : f_X12_coin p0 p1 p2 μ = some (r, F)) : dtMet yX12_coin cX12_coin 6 (some .int) 4 [.ref p0, .int p1, .int p2] μ (some (.int r)) F := by
  refine dtMet.of (by decide +kernel) (Nat.le_of_ble_eq_true rfl) (show dtW yX12_coin cX12_coin 6 (some .int) 4 (some (.int r)) F 0 [some (.ref p0), some (.int p1), some (.int p2)] [] μ from ?_)
  rw [f_X12_coin] at h
  refine dr_iload_n p1 dX12_coin_0 rfl ?_
  obtain ⟨x3, μ1, e2, h⟩ := dtCall h
  refine dr_callS_i (S0 := []) [.int p1] x3 μ1 dX12_coin_1 (c_X12_isTray p1 μ e2) mf_X12_isTray wt_1488 wt_1487 rfl (Nat.le_of_ble_eq_true rfl) (Nat.le_of_ble_eq_true rfl) rfl ?_
  obtain ⟨ht5, hf6⟩ := dtIte h
  refine dr_if_eq 19 dX12_coin_4 (by decide) (fun hc4 => ?_) (fun hc4 => ?_)
  · have h := ht5 hc4
    refine dr_mask [true] [some (.ref p0)] rfl ?_
    exact c_X12_coin_19 p0 μ1 h
  · have h := hf6 hc4
    refine dr_iload_n p2 dX12_coin_7 rfl ?_
    refine dr_i2l dX12_coin_8 ?_
    refine dr_lconst (1 : Int64) dX12_coin_9 (by decide) ?_
    refine dr_ldc2 (4 : Int64) dX12_coin_10 wt_1852 ?_
    obtain ⟨x9, μ7, e8, h⟩ := dtCall h
    refine dr_callS_i (S0 := []) [.long (p2.toInt64), .long (1 : Int64), .long (4 : Int64)] x9 μ7 dX12_coin_13 (c_X12_isFrom (p2.toInt64) (1 : Int64) (4 : Int64) μ1 e8) mf_X12_isFrom wt_1854 wt_1853 rfl (Nat.le_of_ble_eq_true rfl) (Nat.le_of_ble_eq_true rfl) rfl ?_
    obtain ⟨ht11, hf12⟩ := dtIte h
    refine dr_if_ne 25 dX12_coin_16 (by decide) (fun hc10 => ?_) (fun hc10 => ?_)
    · have h := hf12 hc10
      refine dr_aload_n p0 dX12_coin_25 rfl ?_
      obtain ⟨x13, e14, h⟩ := dtBind h
      refine dr_getR x13 dX12_coin_26 fl_RX12_24 e14 ?_
      refine dr_iload_n p1 dX12_coin_29 rfl ?_
      obtain ⟨x15, e16, h⟩ := dtBind h
      refine dr_iaload x15 dX12_coin_30 e16 ?_
      refine dr_iconst (-1 : Int32) dX12_coin_31 (by decide) ?_
      obtain ⟨ht18, hf19⟩ := dtIte h
      refine dr_icmp_ne 41 dX12_coin_32 (by decide) (fun hc17 => ?_) (fun hc17 => ?_)
      · have h := hf19 hc17
        refine dr_aload_n p0 dX12_coin_41 rfl ?_
        obtain ⟨x20, e21, h⟩ := dtBind h
        refine dr_getR x20 dX12_coin_42 fl_RX12_24 e21 ?_
        refine dr_iload_n p1 dX12_coin_45 rfl ?_
        obtain ⟨x22, e23, h⟩ := dtBind h
        refine dr_iaload x22 dX12_coin_46 e23 ?_
        refine dr_iload_n p2 dX12_coin_47 rfl ?_
        obtain ⟨ht25, hf26⟩ := dtIte h
        refine dr_icmp_ge 57 dX12_coin_48 (by decide) (fun hc24 => ?_) (fun hc24 => ?_)
        · have h := ht25 hc24
          refine dr_aload_n p0 dX12_coin_57 rfl ?_
          obtain ⟨x27, e28, h⟩ := dtBind h
          refine dr_getR x27 dX12_coin_58 fl_RX12_7 e28 ?_
          refine dr_iconst (2 : Int32) dX12_coin_61 (by decide) ?_
          obtain ⟨x29, e30, h⟩ := dtBind h
          refine dr_iaload x29 dX12_coin_62 e30 ?_
          refine dr_istore_n 3 [some (.ref p0), some (.int p1), some (.int p2), some (.int x29)] dX12_coin_63 rfl rfl rfl rfl ?_
          refine dr_iload_n x29 dX12_coin_64 rfl ?_
          refine dr_bipush (7 : Int32) dX12_coin_65 (by decide) ?_
          obtain ⟨ht32, hf33⟩ := dtIte h
          refine dr_icmp_ne 76 dX12_coin_67 (by decide) (fun hc31 => ?_) (fun hc31 => ?_)
          · have h := hf33 hc31
            refine dr_iload_n x29 dX12_coin_76 rfl ?_
            obtain ⟨x36, μ34, e35, h⟩ := dtCall h
            refine dr_callS_i (S0 := []) [.int x29] x36 μ34 dX12_coin_77 (c_X12_wordRow x29 μ7 e35) mf_X12_wordRow wt_1625 wt_1624 rfl (Nat.le_of_ble_eq_true rfl) (Nat.le_of_ble_eq_true rfl) rfl ?_
            refine dr_istore [some (.ref p0), some (.int p1), some (.int p2), some (.int x29), some (.int x36)] dX12_coin_80 rfl rfl rfl ?_
            refine dr_iconst (0 : Int32) dX12_coin_82 (by decide) ?_
            refine dr_istore [some (.ref p0), some (.int p1), some (.int p2), some (.int x29), some (.int x36), some (.int (0 : Int32))] dX12_coin_83 rfl rfl rfl ?_
            exact c_X12_coin_85 dtFuel p0 p1 p2 x29 x36 (0 : Int32) μ34 h
          · have h := ht32 hc31
            refine dr_aload_n p0 dX12_coin_70 rfl ?_
            refine dr_iconst (4 : Int32) dX12_coin_71 (by decide) ?_
            obtain ⟨_, hb37, h⟩ := dtBind h
            obtain ⟨x40, μ38, e39, h⟩ := dtCall h
            refine dr_callV_i (S0 := []) [.int (4 : Int32)] x40 μ38 dX12_coin_72 (c_X12_refuse p0 (4 : Int32) μ7 e39) mf_X12_refuse wt_1552 ws_59 wt_1550 rfl (dtRv hb37) (by decide) rfl (Nat.le_of_ble_eq_true rfl) (Nat.le_of_ble_eq_true rfl) rfl ?_
            cases h
            exact dr_ireturn dX12_coin_75 rfl
        · have h := hf26 hc24
          refine dr_aload_n p0 dX12_coin_51 rfl ?_
          refine dr_iconst (3 : Int32) dX12_coin_52 (by decide) ?_
          obtain ⟨_, hb41, h⟩ := dtBind h
          obtain ⟨x44, μ42, e43, h⟩ := dtCall h
          refine dr_callV_i (S0 := []) [.int (3 : Int32)] x44 μ42 dX12_coin_53 (c_X12_refuse p0 (3 : Int32) μ7 e43) mf_X12_refuse wt_1552 ws_59 wt_1550 rfl (dtRv hb41) (by decide) rfl (Nat.le_of_ble_eq_true rfl) (Nat.le_of_ble_eq_true rfl) rfl ?_
          cases h
          exact dr_ireturn dX12_coin_56 rfl
      · have h := ht18 hc17
        refine dr_aload_n p0 dX12_coin_35 rfl ?_
        refine dr_iconst (2 : Int32) dX12_coin_36 (by decide) ?_
        obtain ⟨_, hb45, h⟩ := dtBind h
        obtain ⟨x48, μ46, e47, h⟩ := dtCall h
        refine dr_callV_i (S0 := []) [.int (2 : Int32)] x48 μ46 dX12_coin_37 (c_X12_refuse p0 (2 : Int32) μ7 e47) mf_X12_refuse wt_1552 ws_59 wt_1550 rfl (dtRv hb45) (by decide) rfl (Nat.le_of_ble_eq_true rfl) (Nat.le_of_ble_eq_true rfl) rfl ?_
        cases h
        exact dr_ireturn dX12_coin_40 rfl
    · have h := ht11 hc10
      refine dr_mask [true] [some (.ref p0)] rfl ?_
      exact c_X12_coin_19 p0 μ7 h
/-! X12_come -/
theorem dX12_come_0 : decode cX12_come 0 = .ok (.aload_n 0, 1) := by decide +kernel
theorem dX12_come_1 : decode cX12_come 1 = .ok (.iload_n 1, 1) := by decide +kernel
theorem dX12_come_2 : decode cX12_come 2 = .ok (.invokevirtual 314, 3) := by decide +kernel
theorem dX12_come_5 : decode cX12_come 5 = .ok (.ifCond .ne 9, 3) := by decide +kernel
theorem dX12_come_8 : decode cX12_come 8 = .ok (.aload_n 0, 1) := by decide +kernel
theorem dX12_come_9 : decode cX12_come 9 = .ok (.iconst 1, 1) := by decide +kernel
theorem dX12_come_10 : decode cX12_come 10 = .ok (.invokevirtual 93, 3) := by decide +kernel
theorem dX12_come_13 : decode cX12_come 13 = .ok (.ireturn, 1) := by decide +kernel
theorem dX12_come_14 : decode cX12_come 14 = .ok (.aload_n 0, 1) := by decide +kernel
theorem dX12_come_15 : decode cX12_come 15 = .ok (.getfield 7, 3) := by decide +kernel
theorem dX12_come_18 : decode cX12_come 18 = .ok (.iconst 3, 1) := by decide +kernel
theorem dX12_come_19 : decode cX12_come 19 = .ok (.iaload, 1) := by decide +kernel
theorem dX12_come_20 : decode cX12_come 20 = .ok (.istore_n 2, 1) := by decide +kernel
theorem dX12_come_21 : decode cX12_come 21 = .ok (.iload_n 2, 1) := by decide +kernel
theorem dX12_come_22 : decode cX12_come 22 = .ok (.iconst 5, 1) := by decide +kernel
theorem dX12_come_23 : decode cX12_come 23 = .ok (.if_icmp .ne 9, 3) := by decide +kernel
theorem dX12_come_26 : decode cX12_come 26 = .ok (.aload_n 0, 1) := by decide +kernel
theorem dX12_come_27 : decode cX12_come 27 = .ok (.iconst 4, 1) := by decide +kernel
theorem dX12_come_28 : decode cX12_come 28 = .ok (.invokevirtual 93, 3) := by decide +kernel
theorem dX12_come_31 : decode cX12_come 31 = .ok (.ireturn, 1) := by decide +kernel
theorem dX12_come_32 : decode cX12_come 32 = .ok (.aload_n 0, 1) := by decide +kernel
theorem dX12_come_33 : decode cX12_come 33 = .ok (.getfield 7, 3) := by decide +kernel
theorem dX12_come_36 : decode cX12_come 36 = .ok (.iconst 3, 1) := by decide +kernel
theorem dX12_come_37 : decode cX12_come 37 = .ok (.dup2, 1) := by decide +kernel
theorem dX12_come_38 : decode cX12_come 38 = .ok (.iaload, 1) := by decide +kernel
theorem dX12_come_39 : decode cX12_come 39 = .ok (.iconst 1, 1) := by decide +kernel
theorem dX12_come_40 : decode cX12_come 40 = .ok (.iadd, 1) := by decide +kernel
theorem dX12_come_41 : decode cX12_come 41 = .ok (.iastore, 1) := by decide +kernel
theorem dX12_come_42 : decode cX12_come 42 = .ok (.iconst 0, 1) := by decide +kernel
theorem dX12_come_43 : decode cX12_come 43 = .ok (.istore_n 3, 1) := by decide +kernel
theorem dX12_come_44 : decode cX12_come 44 = .ok (.iload_n 3, 1) := by decide +kernel
theorem dX12_come_45 : decode cX12_come 45 = .ok (.bipush 12, 2) := by decide +kernel
theorem dX12_come_47 : decode cX12_come 47 = .ok (.if_icmp .ge 21, 3) := by decide +kernel
theorem dX12_come_50 : decode cX12_come 50 = .ok (.aload_n 0, 1) := by decide +kernel
theorem dX12_come_51 : decode cX12_come 51 = .ok (.getfield 7, 3) := by decide +kernel
theorem dX12_come_54 : decode cX12_come 54 = .ok (.iload_n 2, 1) := by decide +kernel
theorem dX12_come_55 : decode cX12_come 55 = .ok (.invokestatic 238, 3) := by decide +kernel
theorem dX12_come_58 : decode cX12_come 58 = .ok (.iload_n 3, 1) := by decide +kernel
theorem dX12_come_59 : decode cX12_come 59 = .ok (.iadd, 1) := by decide +kernel
theorem dX12_come_60 : decode cX12_come 60 = .ok (.iconst 0, 1) := by decide +kernel
theorem dX12_come_61 : decode cX12_come 61 = .ok (.iastore, 1) := by decide +kernel
theorem dX12_come_62 : decode cX12_come 62 = .ok (.iinc 3 1, 3) := by decide +kernel
theorem dX12_come_65 : decode cX12_come 65 = .ok (.goto (-21), 3) := by decide +kernel
theorem dX12_come_68 : decode cX12_come 68 = .ok (.aload_n 0, 1) := by decide +kernel
theorem dX12_come_69 : decode cX12_come 69 = .ok (.getfield 7, 3) := by decide +kernel
theorem dX12_come_72 : decode cX12_come 72 = .ok (.iload_n 2, 1) := by decide +kernel
theorem dX12_come_73 : decode cX12_come 73 = .ok (.invokestatic 238, 3) := by decide +kernel
theorem dX12_come_76 : decode cX12_come 76 = .ok (.iload_n 1, 1) := by decide +kernel
theorem dX12_come_77 : decode cX12_come 77 = .ok (.iastore, 1) := by decide +kernel
theorem dX12_come_78 : decode cX12_come 78 = .ok (.aload_n 0, 1) := by decide +kernel
theorem dX12_come_79 : decode cX12_come 79 = .ok (.getfield 13, 3) := by decide +kernel
theorem dX12_come_82 : decode cX12_come 82 = .ok (.bipush 14, 2) := by decide +kernel
theorem dX12_come_84 : decode cX12_come 84 = .ok (.iload_n 2, 1) := by decide +kernel
theorem dX12_come_85 : decode cX12_come 85 = .ok (.iadd, 1) := by decide +kernel
theorem dX12_come_86 : decode cX12_come 86 = .ok (.lconst 0, 1) := by decide +kernel
theorem dX12_come_87 : decode cX12_come 87 = .ok (.lastore, 1) := by decide +kernel
theorem dX12_come_88 : decode cX12_come 88 = .ok (.aload_n 0, 1) := by decide +kernel
theorem dX12_come_89 : decode cX12_come 89 = .ok (.iload_n 2, 1) := by decide +kernel
theorem dX12_come_90 : decode cX12_come 90 = .ok (.invokevirtual 97, 3) := by decide +kernel
theorem dX12_come_93 : decode cX12_come 93 = .ok (.ireturn, 1) := by decide +kernel
set_option maxRecDepth 100000 in
def f_X12_come_44 : Nat → Nat → Int32 → Int32 → Int32 → dtM → Option (Int32 × dtM)
  | 0, _, _, _, _, _ => none
  | n + 1, l0, l1, l2, l3, μ =>
    if (12 : Int32) ≤ l3 then ((opGR 12 0 μ l0).bind fun x4 => opCall (f_X12_personRow l2 μ) fun x8 μ6 => (opSI μ6 x4 x8 l1).bind fun μ9 => (opGR 12 1 μ9 l0).bind fun x11 => (opSJ μ9 x11 ((14 : Int32) + l2) (0 : Int64)).bind fun μ13 => (opRv 12 μ13 l0).bind fun _ => opCall (f_X12_gives l0 l2 μ13) fun x18 μ16 => some (x18, μ16)) else ((opGR 12 0 μ l0).bind fun x19 => opCall (f_X12_personRow l2 μ) fun x23 μ21 => (opSI μ21 x19 (x23 + l3) (0 : Int32)).bind fun μ24 => f_X12_come_44 n l0 l1 l2 (l3 + 1) μ24)
set_option maxRecDepth 100000 in
def f_X12_come (p0 : Nat) (p1 : Int32) (μ : dtM) : Option (Int32 × dtM) :=
  (opRv 12 μ p0).bind fun _ => opCall (f_X12_isRoom p0 p1 μ) fun x4 μ2 => if x4 = 0 then ((opRv 12 μ2 p0).bind fun _ => opCall (f_X12_refuse p0 (1 : Int32) μ2) fun x28 μ26 => some (x28, μ26)) else ((opGR 12 0 μ2 p0).bind fun x8 => (opLI 1 μ2 x8 (3 : Int32)).bind fun x10 => if x10 = (5 : Int32) then ((opRv 12 μ2 p0).bind fun _ => opCall (f_X12_refuse p0 (4 : Int32) μ2) fun x24 μ22 => some (x24, μ22)) else ((opGR 12 0 μ2 p0).bind fun x15 => (opLI 1 μ2 x15 (3 : Int32)).bind fun x17 => (opSI μ2 x15 (3 : Int32) (x17 + (1 : Int32))).bind fun μ19 => f_X12_come_44 dtFuel p0 p1 x10 (0 : Int32) μ19))
set_option maxRecDepth 100000 in
theorem c_X12_come_44 {r : Int32} {F : dtM} : ∀ (n : Nat) (l0 : Nat) (l1 : Int32) (l2 : Int32) (l3 : Int32) (μ : dtM), f_X12_come_44 n l0 l1 l2 l3 μ = some (r, F) → dtW yX12_come cX12_come 4 (some .int) 2 (some (.int r)) F 44 [some (.ref l0), some (.int l1), some (.int l2), some (.int l3)] [] μ := by
  intro n
  induction n with
  | zero => intro l0 l1 l2 l3 μ h; cases h
  | succ n ih =>
    intro l0 l1 l2 l3 μ h
    have h := (show f_X12_come_44 (n + 1) l0 l1 l2 l3 μ = some _ from h)
    rw [f_X12_come_44] at h
    refine dr_iload_n l3 dX12_come_44 rfl ?_
    refine dr_bipush (12 : Int32) dX12_come_45 (by decide) ?_
    obtain ⟨ht2, hf3⟩ := dtIte h
    refine dr_icmp_ge 68 dX12_come_47 (by decide) (fun hc1 => ?_) (fun hc1 => ?_)
    · have h := ht2 hc1
      refine dr_aload_n l0 dX12_come_68 rfl ?_
      obtain ⟨x4, e5, h⟩ := dtBind h
      refine dr_getR x4 dX12_come_69 fl_RX12_7 e5 ?_
      refine dr_iload_n l2 dX12_come_72 rfl ?_
      obtain ⟨x8, μ6, e7, h⟩ := dtCall h
      refine dr_callS_i (S0 := [.ref x4]) [.int l2] x8 μ6 dX12_come_73 (c_X12_personRow l2 μ e7) mf_X12_personRow wt_1652 wt_1651 rfl (Nat.le_of_ble_eq_true rfl) (Nat.le_of_ble_eq_true rfl) rfl ?_
      refine dr_iload_n l1 dX12_come_76 rfl ?_
      obtain ⟨μ9, e10, h⟩ := dtBind h
      refine dr_iastore μ9 dX12_come_77 e10 ?_
      refine dr_aload_n l0 dX12_come_78 rfl ?_
      obtain ⟨x11, e12, h⟩ := dtBind h
      refine dr_getR x11 dX12_come_79 fl_RX12_13 e12 ?_
      refine dr_bipush (14 : Int32) dX12_come_82 (by decide) ?_
      refine dr_iload_n l2 dX12_come_84 rfl ?_
      refine dr_iadd dX12_come_85 ?_
      refine dr_lconst (0 : Int64) dX12_come_86 (by decide) ?_
      obtain ⟨μ13, e14, h⟩ := dtBind h
      refine dr_lastore μ13 dX12_come_87 e14 ?_
      refine dr_aload_n l0 dX12_come_88 rfl ?_
      refine dr_iload_n l2 dX12_come_89 rfl ?_
      obtain ⟨_, hb15, h⟩ := dtBind h
      obtain ⟨x18, μ16, e17, h⟩ := dtCall h
      refine dr_callV_i (S0 := []) [.int l2] x18 μ16 dX12_come_90 (c_X12_gives l0 l2 μ13 e17) mf_X12_gives wt_1668 ws_85 wt_1666 rfl (dtRv hb15) (by decide) rfl (Nat.le_of_ble_eq_true rfl) (Nat.le_of_ble_eq_true rfl) rfl ?_
      cases h
      exact dr_ireturn dX12_come_93 rfl
    · have h := hf3 hc1
      refine dr_aload_n l0 dX12_come_50 rfl ?_
      obtain ⟨x19, e20, h⟩ := dtBind h
      refine dr_getR x19 dX12_come_51 fl_RX12_7 e20 ?_
      refine dr_iload_n l2 dX12_come_54 rfl ?_
      obtain ⟨x23, μ21, e22, h⟩ := dtCall h
      refine dr_callS_i (S0 := [.ref x19]) [.int l2] x23 μ21 dX12_come_55 (c_X12_personRow l2 μ e22) mf_X12_personRow wt_1652 wt_1651 rfl (Nat.le_of_ble_eq_true rfl) (Nat.le_of_ble_eq_true rfl) rfl ?_
      refine dr_iload_n l3 dX12_come_58 rfl ?_
      refine dr_iadd dX12_come_59 ?_
      refine dr_iconst (0 : Int32) dX12_come_60 (by decide) ?_
      obtain ⟨μ24, e25, h⟩ := dtBind h
      refine dr_iastore μ24 dX12_come_61 e25 ?_
      refine dr_iinc l3 (l3 + 1) [some (.ref l0), some (.int l1), some (.int l2), some (.int (l3 + 1))] dX12_come_62 rfl rfl rfl rfl rfl ?_
      refine dr_goto 44 dX12_come_65 (by decide) ?_
      exact ih l0 l1 l2 (l3 + 1) μ24 h
set_option maxRecDepth 100000 in
theorem c_X12_come {r : Int32} {F : dtM} (p0 : Nat) (p1 : Int32) (μ : dtM) (h : f_X12_come p0 p1 μ = some (r, F)) : dtMet yX12_come cX12_come 4 (some .int) 2 [.ref p0, .int p1] μ (some (.int r)) F := by
  refine dtMet.of (by decide +kernel) (Nat.le_of_ble_eq_true rfl) (show dtW yX12_come cX12_come 4 (some .int) 2 (some (.int r)) F 0 [some (.ref p0), some (.int p1)] [] μ from ?_)
  rw [f_X12_come] at h
  refine dr_aload_n p0 dX12_come_0 rfl ?_
  refine dr_iload_n p1 dX12_come_1 rfl ?_
  obtain ⟨_, hb1, h⟩ := dtBind h
  obtain ⟨x4, μ2, e3, h⟩ := dtCall h
  refine dr_callV_i (S0 := []) [.int p1] x4 μ2 dX12_come_2 (c_X12_isRoom p0 p1 μ e3) mf_X12_isRoom wt_1748 ws_97 wt_1746 rfl (dtRv hb1) (by decide) rfl (Nat.le_of_ble_eq_true rfl) (Nat.le_of_ble_eq_true rfl) rfl ?_
  obtain ⟨ht6, hf7⟩ := dtIte h
  refine dr_if_ne 14 dX12_come_5 (by decide) (fun hc5 => ?_) (fun hc5 => ?_)
  · have h := hf7 hc5
    refine dr_aload_n p0 dX12_come_14 rfl ?_
    obtain ⟨x8, e9, h⟩ := dtBind h
    refine dr_getR x8 dX12_come_15 fl_RX12_7 e9 ?_
    refine dr_iconst (3 : Int32) dX12_come_18 (by decide) ?_
    obtain ⟨x10, e11, h⟩ := dtBind h
    refine dr_iaload x10 dX12_come_19 e11 ?_
    refine dr_istore_n 2 [some (.ref p0), some (.int p1), some (.int x10)] dX12_come_20 rfl rfl rfl rfl ?_
    refine dr_iload_n x10 dX12_come_21 rfl ?_
    refine dr_iconst (5 : Int32) dX12_come_22 (by decide) ?_
    obtain ⟨ht13, hf14⟩ := dtIte h
    refine dr_icmp_ne 32 dX12_come_23 (by decide) (fun hc12 => ?_) (fun hc12 => ?_)
    · have h := hf14 hc12
      refine dr_aload_n p0 dX12_come_32 rfl ?_
      obtain ⟨x15, e16, h⟩ := dtBind h
      refine dr_getR x15 dX12_come_33 fl_RX12_7 e16 ?_
      refine dr_iconst (3 : Int32) dX12_come_36 (by decide) ?_
      refine dr_dup2 dX12_come_37 rfl rfl ?_
      obtain ⟨x17, e18, h⟩ := dtBind h
      refine dr_iaload x17 dX12_come_38 e18 ?_
      refine dr_iconst (1 : Int32) dX12_come_39 (by decide) ?_
      refine dr_iadd dX12_come_40 ?_
      obtain ⟨μ19, e20, h⟩ := dtBind h
      refine dr_iastore μ19 dX12_come_41 e20 ?_
      refine dr_iconst (0 : Int32) dX12_come_42 (by decide) ?_
      refine dr_istore_n 3 [some (.ref p0), some (.int p1), some (.int x10), some (.int (0 : Int32))] dX12_come_43 rfl rfl rfl rfl ?_
      exact c_X12_come_44 dtFuel p0 p1 x10 (0 : Int32) μ19 h
    · have h := ht13 hc12
      refine dr_aload_n p0 dX12_come_26 rfl ?_
      refine dr_iconst (4 : Int32) dX12_come_27 (by decide) ?_
      obtain ⟨_, hb21, h⟩ := dtBind h
      obtain ⟨x24, μ22, e23, h⟩ := dtCall h
      refine dr_callV_i (S0 := []) [.int (4 : Int32)] x24 μ22 dX12_come_28 (c_X12_refuse p0 (4 : Int32) μ2 e23) mf_X12_refuse wt_1552 ws_59 wt_1550 rfl (dtRv hb21) (by decide) rfl (Nat.le_of_ble_eq_true rfl) (Nat.le_of_ble_eq_true rfl) rfl ?_
      cases h
      exact dr_ireturn dX12_come_31 rfl
  · have h := ht6 hc5
    refine dr_aload_n p0 dX12_come_8 rfl ?_
    refine dr_iconst (1 : Int32) dX12_come_9 (by decide) ?_
    obtain ⟨_, hb25, h⟩ := dtBind h
    obtain ⟨x28, μ26, e27, h⟩ := dtCall h
    refine dr_callV_i (S0 := []) [.int (1 : Int32)] x28 μ26 dX12_come_10 (c_X12_refuse p0 (1 : Int32) μ2 e27) mf_X12_refuse wt_1552 ws_59 wt_1550 rfl (dtRv hb25) (by decide) rfl (Nat.le_of_ble_eq_true rfl) (Nat.le_of_ble_eq_true rfl) rfl ?_
    cases h
    exact dr_ireturn dX12_come_13 rfl
/-! X12_line -/
theorem dX12_line_0 : decode cX12_line 0 = .ok (.aload_n 0, 1) := by decide +kernel
theorem dX12_line_1 : decode cX12_line 1 = .ok (.iload_n 1, 1) := by decide +kernel
theorem dX12_line_2 : decode cX12_line 2 = .ok (.invokevirtual 301, 3) := by decide +kernel
theorem dX12_line_5 : decode cX12_line 5 = .ok (.ifCond .eq 15, 3) := by decide +kernel
theorem dX12_line_8 : decode cX12_line 8 = .ok (.iload_n 2, 1) := by decide +kernel
theorem dX12_line_9 : decode cX12_line 9 = .ok (.i2l, 1) := by decide +kernel
theorem dX12_line_10 : decode cX12_line 10 = .ok (.lconst 0, 1) := by decide +kernel
theorem dX12_line_11 : decode cX12_line 11 = .ok (.ldc2_w 372, 3) := by decide +kernel
theorem dX12_line_14 : decode cX12_line 14 = .ok (.invokestatic 366, 3) := by decide +kernel
theorem dX12_line_17 : decode cX12_line 17 = .ok (.ifCond .ne 9, 3) := by decide +kernel
theorem dX12_line_20 : decode cX12_line 20 = .ok (.aload_n 0, 1) := by decide +kernel
theorem dX12_line_21 : decode cX12_line 21 = .ok (.iconst 1, 1) := by decide +kernel
theorem dX12_line_22 : decode cX12_line 22 = .ok (.invokevirtual 93, 3) := by decide +kernel
theorem dX12_line_25 : decode cX12_line 25 = .ok (.ireturn, 1) := by decide +kernel
theorem dX12_line_26 : decode cX12_line 26 = .ok (.aload_n 0, 1) := by decide +kernel
theorem dX12_line_27 : decode cX12_line 27 = .ok (.iload_n 1, 1) := by decide +kernel
theorem dX12_line_28 : decode cX12_line 28 = .ok (.iconst 2, 1) := by decide +kernel
theorem dX12_line_29 : decode cX12_line 29 = .ok (.invokevirtual 298, 3) := by decide +kernel
theorem dX12_line_32 : decode cX12_line 32 = .ok (.istore_n 3, 1) := by decide +kernel
theorem dX12_line_33 : decode cX12_line 33 = .ok (.aload_n 0, 1) := by decide +kernel
theorem dX12_line_34 : decode cX12_line 34 = .ok (.getfield 7, 3) := by decide +kernel
theorem dX12_line_37 : decode cX12_line 37 = .ok (.iload_n 1, 1) := by decide +kernel
theorem dX12_line_38 : decode cX12_line 38 = .ok (.invokestatic 210, 3) := by decide +kernel
theorem dX12_line_41 : decode cX12_line 41 = .ok (.iconst 2, 1) := by decide +kernel
theorem dX12_line_42 : decode cX12_line 42 = .ok (.iadd, 1) := by decide +kernel
theorem dX12_line_43 : decode cX12_line 43 = .ok (.iload_n 2, 1) := by decide +kernel
theorem dX12_line_44 : decode cX12_line 44 = .ok (.iastore, 1) := by decide +kernel
theorem dX12_line_45 : decode cX12_line 45 = .ok (.aload_n 0, 1) := by decide +kernel
theorem dX12_line_46 : decode cX12_line 46 = .ok (.iload_n 3, 1) := by decide +kernel
theorem dX12_line_47 : decode cX12_line 47 = .ok (.invokevirtual 97, 3) := by decide +kernel
theorem dX12_line_50 : decode cX12_line 50 = .ok (.ireturn, 1) := by decide +kernel
set_option maxRecDepth 100000 in
def f_X12_line_20 (l0 : Nat) (μ : dtM) : Option (Int32 × dtM) :=
  (opRv 12 μ l0).bind fun _ => opCall (f_X12_refuse l0 (1 : Int32) μ) fun x4 μ2 => some (x4, μ2)
set_option maxRecDepth 100000 in
def f_X12_line (p0 : Nat) (p1 : Int32) (p2 : Int32) (μ : dtM) : Option (Int32 × dtM) :=
  (opRv 12 μ p0).bind fun _ => opCall (f_X12_isDoor p0 p1 μ) fun x4 μ2 => if x4 = 0 then (f_X12_line_20 p0 μ2) else (opCall (f_X12_isFrom (p2.toInt64) (0 : Int64) (9 : Int64) μ2) fun x10 μ8 => if x10 = 0 then (f_X12_line_20 p0 μ8) else ((opRv 12 μ8 p0).bind fun _ => opCall (f_X12_doorOf p0 p1 (2 : Int32) μ8) fun x17 μ15 => (opGR 12 0 μ15 p0).bind fun x18 => opCall (f_X12_doorRow p1 μ15) fun x22 μ20 => (opSI μ20 x18 (x22 + (2 : Int32)) p2).bind fun μ23 => (opRv 12 μ23 p0).bind fun _ => opCall (f_X12_gives p0 x17 μ23) fun x28 μ26 => some (x28, μ26)))
set_option maxRecDepth 100000 in
theorem c_X12_line_20 {r : Int32} {F : dtM} (l0 : Nat) (μ : dtM) (h : f_X12_line_20 l0 μ = some (r, F)) : dtW yX12_line cX12_line 4 (some .int) 3 (some (.int r)) F 20 [some (.ref l0)] [] μ := by
  rw [f_X12_line_20] at h
  refine dr_aload_n l0 dX12_line_20 rfl ?_
  refine dr_iconst (1 : Int32) dX12_line_21 (by decide) ?_
  obtain ⟨_, hb1, h⟩ := dtBind h
  obtain ⟨x4, μ2, e3, h⟩ := dtCall h
  refine dr_callV_i (S0 := []) [.int (1 : Int32)] x4 μ2 dX12_line_22 (c_X12_refuse l0 (1 : Int32) μ e3) mf_X12_refuse wt_1552 ws_59 wt_1550 rfl (dtRv hb1) (by decide) rfl (Nat.le_of_ble_eq_true rfl) (Nat.le_of_ble_eq_true rfl) rfl ?_
  cases h
  exact dr_ireturn dX12_line_25 rfl
set_option maxRecDepth 100000 in
theorem c_X12_line {r : Int32} {F : dtM} (p0 : Nat) (p1 : Int32) (p2 : Int32) (μ : dtM) (h : f_X12_line p0 p1 p2 μ = some (r, F)) : dtMet yX12_line cX12_line 4 (some .int) 3 [.ref p0, .int p1, .int p2] μ (some (.int r)) F := by
  refine dtMet.of (by decide +kernel) (Nat.le_of_ble_eq_true rfl) (show dtW yX12_line cX12_line 4 (some .int) 3 (some (.int r)) F 0 [some (.ref p0), some (.int p1), some (.int p2)] [] μ from ?_)
  rw [f_X12_line] at h
  refine dr_aload_n p0 dX12_line_0 rfl ?_
  refine dr_iload_n p1 dX12_line_1 rfl ?_
  obtain ⟨_, hb1, h⟩ := dtBind h
  obtain ⟨x4, μ2, e3, h⟩ := dtCall h
  refine dr_callV_i (S0 := []) [.int p1] x4 μ2 dX12_line_2 (c_X12_isDoor p0 p1 μ e3) mf_X12_isDoor wt_1708 ws_92 wt_1706 rfl (dtRv hb1) (by decide) rfl (Nat.le_of_ble_eq_true rfl) (Nat.le_of_ble_eq_true rfl) rfl ?_
  obtain ⟨ht6, hf7⟩ := dtIte h
  refine dr_if_eq 20 dX12_line_5 (by decide) (fun hc5 => ?_) (fun hc5 => ?_)
  · have h := ht6 hc5
    refine dr_mask [true] [some (.ref p0)] rfl ?_
    exact c_X12_line_20 p0 μ2 h
  · have h := hf7 hc5
    refine dr_iload_n p2 dX12_line_8 rfl ?_
    refine dr_i2l dX12_line_9 ?_
    refine dr_lconst (0 : Int64) dX12_line_10 (by decide) ?_
    refine dr_ldc2 (9 : Int64) dX12_line_11 wt_1865 ?_
    obtain ⟨x10, μ8, e9, h⟩ := dtCall h
    refine dr_callS_i (S0 := []) [.long (p2.toInt64), .long (0 : Int64), .long (9 : Int64)] x10 μ8 dX12_line_14 (c_X12_isFrom (p2.toInt64) (0 : Int64) (9 : Int64) μ2 e9) mf_X12_isFrom wt_1854 wt_1853 rfl (Nat.le_of_ble_eq_true rfl) (Nat.le_of_ble_eq_true rfl) rfl ?_
    obtain ⟨ht12, hf13⟩ := dtIte h
    refine dr_if_ne 26 dX12_line_17 (by decide) (fun hc11 => ?_) (fun hc11 => ?_)
    · have h := hf13 hc11
      refine dr_aload_n p0 dX12_line_26 rfl ?_
      refine dr_iload_n p1 dX12_line_27 rfl ?_
      refine dr_iconst (2 : Int32) dX12_line_28 (by decide) ?_
      obtain ⟨_, hb14, h⟩ := dtBind h
      obtain ⟨x17, μ15, e16, h⟩ := dtCall h
      refine dr_callV_i (S0 := []) [.int p1, .int (2 : Int32)] x17 μ15 dX12_line_29 (c_X12_doorOf p0 p1 (2 : Int32) μ8 e16) mf_X12_doorOf wt_1712 ws_93 wt_1710 rfl (dtRv hb14) (by decide) rfl (Nat.le_of_ble_eq_true rfl) (Nat.le_of_ble_eq_true rfl) rfl ?_
      refine dr_istore_n 3 [some (.ref p0), some (.int p1), some (.int p2), some (.int x17)] dX12_line_32 rfl rfl rfl rfl ?_
      refine dr_aload_n p0 dX12_line_33 rfl ?_
      obtain ⟨x18, e19, h⟩ := dtBind h
      refine dr_getR x18 dX12_line_34 fl_RX12_7 e19 ?_
      refine dr_iload_n p1 dX12_line_37 rfl ?_
      obtain ⟨x22, μ20, e21, h⟩ := dtCall h
      refine dr_callS_i (S0 := [.ref x18]) [.int p1] x22 μ20 dX12_line_38 (c_X12_doorRow p1 μ15 e21) mf_X12_doorRow wt_1606 wt_1605 rfl (Nat.le_of_ble_eq_true rfl) (Nat.le_of_ble_eq_true rfl) rfl ?_
      refine dr_iconst (2 : Int32) dX12_line_41 (by decide) ?_
      refine dr_iadd dX12_line_42 ?_
      refine dr_iload_n p2 dX12_line_43 rfl ?_
      obtain ⟨μ23, e24, h⟩ := dtBind h
      refine dr_iastore μ23 dX12_line_44 e24 ?_
      refine dr_aload_n p0 dX12_line_45 rfl ?_
      refine dr_iload_n x17 dX12_line_46 rfl ?_
      obtain ⟨_, hb25, h⟩ := dtBind h
      obtain ⟨x28, μ26, e27, h⟩ := dtCall h
      refine dr_callV_i (S0 := []) [.int x17] x28 μ26 dX12_line_47 (c_X12_gives p0 x17 μ23 e27) mf_X12_gives wt_1668 ws_85 wt_1666 rfl (dtRv hb25) (by decide) rfl (Nat.le_of_ble_eq_true rfl) (Nat.le_of_ble_eq_true rfl) rfl ?_
      cases h
      exact dr_ireturn dX12_line_50 rfl
    · have h := ht12 hc11
      refine dr_mask [true] [some (.ref p0)] rfl ?_
      exact c_X12_line_20 p0 μ8 h
/-! X12_deafen -/
theorem dX12_deafen_0 : decode cX12_deafen 0 = .ok (.aload_n 0, 1) := by decide +kernel
theorem dX12_deafen_1 : decode cX12_deafen 1 = .ok (.iload_n 1, 1) := by decide +kernel
theorem dX12_deafen_2 : decode cX12_deafen 2 = .ok (.invokevirtual 307, 3) := by decide +kernel
theorem dX12_deafen_5 : decode cX12_deafen 5 = .ok (.ifCond .eq 15, 3) := by decide +kernel
theorem dX12_deafen_8 : decode cX12_deafen 8 = .ok (.iload_n 2, 1) := by decide +kernel
theorem dX12_deafen_9 : decode cX12_deafen 9 = .ok (.i2l, 1) := by decide +kernel
theorem dX12_deafen_10 : decode cX12_deafen 10 = .ok (.lconst 0, 1) := by decide +kernel
theorem dX12_deafen_11 : decode cX12_deafen 11 = .ok (.ldc2_w 372, 3) := by decide +kernel
theorem dX12_deafen_14 : decode cX12_deafen 14 = .ok (.invokestatic 366, 3) := by decide +kernel
theorem dX12_deafen_17 : decode cX12_deafen 17 = .ok (.ifCond .ne 9, 3) := by decide +kernel
theorem dX12_deafen_20 : decode cX12_deafen 20 = .ok (.aload_n 0, 1) := by decide +kernel
theorem dX12_deafen_21 : decode cX12_deafen 21 = .ok (.iconst 1, 1) := by decide +kernel
theorem dX12_deafen_22 : decode cX12_deafen 22 = .ok (.invokevirtual 93, 3) := by decide +kernel
theorem dX12_deafen_25 : decode cX12_deafen 25 = .ok (.ireturn, 1) := by decide +kernel
theorem dX12_deafen_26 : decode cX12_deafen 26 = .ok (.aload_n 0, 1) := by decide +kernel
theorem dX12_deafen_27 : decode cX12_deafen 27 = .ok (.iload_n 1, 1) := by decide +kernel
theorem dX12_deafen_28 : decode cX12_deafen 28 = .ok (.iconst 1, 1) := by decide +kernel
theorem dX12_deafen_29 : decode cX12_deafen 29 = .ok (.invokevirtual 295, 3) := by decide +kernel
theorem dX12_deafen_32 : decode cX12_deafen 32 = .ok (.istore_n 3, 1) := by decide +kernel
theorem dX12_deafen_33 : decode cX12_deafen 33 = .ok (.aload_n 0, 1) := by decide +kernel
theorem dX12_deafen_34 : decode cX12_deafen 34 = .ok (.getfield 7, 3) := by decide +kernel
theorem dX12_deafen_37 : decode cX12_deafen 37 = .ok (.iload_n 1, 1) := by decide +kernel
theorem dX12_deafen_38 : decode cX12_deafen 38 = .ok (.invokestatic 238, 3) := by decide +kernel
theorem dX12_deafen_41 : decode cX12_deafen 41 = .ok (.iconst 1, 1) := by decide +kernel
theorem dX12_deafen_42 : decode cX12_deafen 42 = .ok (.iadd, 1) := by decide +kernel
theorem dX12_deafen_43 : decode cX12_deafen 43 = .ok (.iload_n 2, 1) := by decide +kernel
theorem dX12_deafen_44 : decode cX12_deafen 44 = .ok (.iastore, 1) := by decide +kernel
theorem dX12_deafen_45 : decode cX12_deafen 45 = .ok (.aload_n 0, 1) := by decide +kernel
theorem dX12_deafen_46 : decode cX12_deafen 46 = .ok (.iload_n 3, 1) := by decide +kernel
theorem dX12_deafen_47 : decode cX12_deafen 47 = .ok (.invokevirtual 97, 3) := by decide +kernel
theorem dX12_deafen_50 : decode cX12_deafen 50 = .ok (.ireturn, 1) := by decide +kernel
set_option maxRecDepth 100000 in
def f_X12_deafen_20 (l0 : Nat) (μ : dtM) : Option (Int32 × dtM) :=
  (opRv 12 μ l0).bind fun _ => opCall (f_X12_refuse l0 (1 : Int32) μ) fun x4 μ2 => some (x4, μ2)
set_option maxRecDepth 100000 in
def f_X12_deafen (p0 : Nat) (p1 : Int32) (p2 : Int32) (μ : dtM) : Option (Int32 × dtM) :=
  (opRv 12 μ p0).bind fun _ => opCall (f_X12_isPerson p0 p1 μ) fun x4 μ2 => if x4 = 0 then (f_X12_deafen_20 p0 μ2) else (opCall (f_X12_isFrom (p2.toInt64) (0 : Int64) (9 : Int64) μ2) fun x10 μ8 => if x10 = 0 then (f_X12_deafen_20 p0 μ8) else ((opRv 12 μ8 p0).bind fun _ => opCall (f_X12_personOf p0 p1 (1 : Int32) μ8) fun x17 μ15 => (opGR 12 0 μ15 p0).bind fun x18 => opCall (f_X12_personRow p1 μ15) fun x22 μ20 => (opSI μ20 x18 (x22 + (1 : Int32)) p2).bind fun μ23 => (opRv 12 μ23 p0).bind fun _ => opCall (f_X12_gives p0 x17 μ23) fun x28 μ26 => some (x28, μ26)))
set_option maxRecDepth 100000 in
theorem c_X12_deafen_20 {r : Int32} {F : dtM} (l0 : Nat) (μ : dtM) (h : f_X12_deafen_20 l0 μ = some (r, F)) : dtW yX12_deafen cX12_deafen 4 (some .int) 3 (some (.int r)) F 20 [some (.ref l0)] [] μ := by
  rw [f_X12_deafen_20] at h
  refine dr_aload_n l0 dX12_deafen_20 rfl ?_
  refine dr_iconst (1 : Int32) dX12_deafen_21 (by decide) ?_
  obtain ⟨_, hb1, h⟩ := dtBind h
  obtain ⟨x4, μ2, e3, h⟩ := dtCall h
  refine dr_callV_i (S0 := []) [.int (1 : Int32)] x4 μ2 dX12_deafen_22 (c_X12_refuse l0 (1 : Int32) μ e3) mf_X12_refuse wt_1552 ws_59 wt_1550 rfl (dtRv hb1) (by decide) rfl (Nat.le_of_ble_eq_true rfl) (Nat.le_of_ble_eq_true rfl) rfl ?_
  cases h
  exact dr_ireturn dX12_deafen_25 rfl
set_option maxRecDepth 100000 in
theorem c_X12_deafen {r : Int32} {F : dtM} (p0 : Nat) (p1 : Int32) (p2 : Int32) (μ : dtM) (h : f_X12_deafen p0 p1 p2 μ = some (r, F)) : dtMet yX12_deafen cX12_deafen 4 (some .int) 3 [.ref p0, .int p1, .int p2] μ (some (.int r)) F := by
  refine dtMet.of (by decide +kernel) (Nat.le_of_ble_eq_true rfl) (show dtW yX12_deafen cX12_deafen 4 (some .int) 3 (some (.int r)) F 0 [some (.ref p0), some (.int p1), some (.int p2)] [] μ from ?_)
  rw [f_X12_deafen] at h
  refine dr_aload_n p0 dX12_deafen_0 rfl ?_
  refine dr_iload_n p1 dX12_deafen_1 rfl ?_
  obtain ⟨_, hb1, h⟩ := dtBind h
  obtain ⟨x4, μ2, e3, h⟩ := dtCall h
  refine dr_callV_i (S0 := []) [.int p1] x4 μ2 dX12_deafen_2 (c_X12_isPerson p0 p1 μ e3) mf_X12_isPerson wt_1732 ws_95 wt_1730 rfl (dtRv hb1) (by decide) rfl (Nat.le_of_ble_eq_true rfl) (Nat.le_of_ble_eq_true rfl) rfl ?_
  obtain ⟨ht6, hf7⟩ := dtIte h
  refine dr_if_eq 20 dX12_deafen_5 (by decide) (fun hc5 => ?_) (fun hc5 => ?_)
  · have h := ht6 hc5
    refine dr_mask [true] [some (.ref p0)] rfl ?_
    exact c_X12_deafen_20 p0 μ2 h
  · have h := hf7 hc5
    refine dr_iload_n p2 dX12_deafen_8 rfl ?_
    refine dr_i2l dX12_deafen_9 ?_
    refine dr_lconst (0 : Int64) dX12_deafen_10 (by decide) ?_
    refine dr_ldc2 (9 : Int64) dX12_deafen_11 wt_1865 ?_
    obtain ⟨x10, μ8, e9, h⟩ := dtCall h
    refine dr_callS_i (S0 := []) [.long (p2.toInt64), .long (0 : Int64), .long (9 : Int64)] x10 μ8 dX12_deafen_14 (c_X12_isFrom (p2.toInt64) (0 : Int64) (9 : Int64) μ2 e9) mf_X12_isFrom wt_1854 wt_1853 rfl (Nat.le_of_ble_eq_true rfl) (Nat.le_of_ble_eq_true rfl) rfl ?_
    obtain ⟨ht12, hf13⟩ := dtIte h
    refine dr_if_ne 26 dX12_deafen_17 (by decide) (fun hc11 => ?_) (fun hc11 => ?_)
    · have h := hf13 hc11
      refine dr_aload_n p0 dX12_deafen_26 rfl ?_
      refine dr_iload_n p1 dX12_deafen_27 rfl ?_
      refine dr_iconst (1 : Int32) dX12_deafen_28 (by decide) ?_
      obtain ⟨_, hb14, h⟩ := dtBind h
      obtain ⟨x17, μ15, e16, h⟩ := dtCall h
      refine dr_callV_i (S0 := []) [.int p1, .int (1 : Int32)] x17 μ15 dX12_deafen_29 (c_X12_personOf p0 p1 (1 : Int32) μ8 e16) mf_X12_personOf wt_1736 ws_96 wt_1734 rfl (dtRv hb14) (by decide) rfl (Nat.le_of_ble_eq_true rfl) (Nat.le_of_ble_eq_true rfl) rfl ?_
      refine dr_istore_n 3 [some (.ref p0), some (.int p1), some (.int p2), some (.int x17)] dX12_deafen_32 rfl rfl rfl rfl ?_
      refine dr_aload_n p0 dX12_deafen_33 rfl ?_
      obtain ⟨x18, e19, h⟩ := dtBind h
      refine dr_getR x18 dX12_deafen_34 fl_RX12_7 e19 ?_
      refine dr_iload_n p1 dX12_deafen_37 rfl ?_
      obtain ⟨x22, μ20, e21, h⟩ := dtCall h
      refine dr_callS_i (S0 := [.ref x18]) [.int p1] x22 μ20 dX12_deafen_38 (c_X12_personRow p1 μ15 e21) mf_X12_personRow wt_1652 wt_1651 rfl (Nat.le_of_ble_eq_true rfl) (Nat.le_of_ble_eq_true rfl) rfl ?_
      refine dr_iconst (1 : Int32) dX12_deafen_41 (by decide) ?_
      refine dr_iadd dX12_deafen_42 ?_
      refine dr_iload_n p2 dX12_deafen_43 rfl ?_
      obtain ⟨μ23, e24, h⟩ := dtBind h
      refine dr_iastore μ23 dX12_deafen_44 e24 ?_
      refine dr_aload_n p0 dX12_deafen_45 rfl ?_
      refine dr_iload_n x17 dX12_deafen_46 rfl ?_
      obtain ⟨_, hb25, h⟩ := dtBind h
      obtain ⟨x28, μ26, e27, h⟩ := dtCall h
      refine dr_callV_i (S0 := []) [.int x17] x28 μ26 dX12_deafen_47 (c_X12_gives p0 x17 μ23 e27) mf_X12_gives wt_1668 ws_85 wt_1666 rfl (dtRv hb25) (by decide) rfl (Nat.le_of_ble_eq_true rfl) (Nat.le_of_ble_eq_true rfl) rfl ?_
      cases h
      exact dr_ireturn dX12_deafen_50 rfl
    · have h := ht12 hc11
      refine dr_mask [true] [some (.ref p0)] rfl ?_
      exact c_X12_deafen_20 p0 μ8 h
/-! X12_rule -/
theorem dX12_rule_0 : decode cX12_rule 0 = .ok (.iload_n 1, 1) := by decide +kernel
theorem dX12_rule_1 : decode cX12_rule 1 = .ok (.i2l, 1) := by decide +kernel
theorem dX12_rule_2 : decode cX12_rule 2 = .ok (.lconst 0, 1) := by decide +kernel
theorem dX12_rule_3 : decode cX12_rule 3 = .ok (.ldc2_w 374, 3) := by decide +kernel
theorem dX12_rule_6 : decode cX12_rule 6 = .ok (.invokestatic 366, 3) := by decide +kernel
theorem dX12_rule_9 : decode cX12_rule 9 = .ok (.ifCond .ne 9, 3) := by decide +kernel
theorem dX12_rule_12 : decode cX12_rule 12 = .ok (.aload_n 0, 1) := by decide +kernel
theorem dX12_rule_13 : decode cX12_rule 13 = .ok (.iconst 1, 1) := by decide +kernel
theorem dX12_rule_14 : decode cX12_rule 14 = .ok (.invokevirtual 100, 3) := by decide +kernel
theorem dX12_rule_17 : decode cX12_rule 17 = .ok (.ireturn, 1) := by decide +kernel
theorem dX12_rule_18 : decode cX12_rule 18 = .ok (.aload_n 0, 1) := by decide +kernel
theorem dX12_rule_19 : decode cX12_rule 19 = .ok (.getfield 7, 3) := by decide +kernel
theorem dX12_rule_22 : decode cX12_rule 22 = .ok (.iconst 4, 1) := by decide +kernel
theorem dX12_rule_23 : decode cX12_rule 23 = .ok (.iload_n 1, 1) := by decide +kernel
theorem dX12_rule_24 : decode cX12_rule 24 = .ok (.iastore, 1) := by decide +kernel
theorem dX12_rule_25 : decode cX12_rule 25 = .ok (.aload_n 0, 1) := by decide +kernel
theorem dX12_rule_26 : decode cX12_rule 26 = .ok (.iconst 0, 1) := by decide +kernel
theorem dX12_rule_27 : decode cX12_rule 27 = .ok (.invokevirtual 100, 3) := by decide +kernel
theorem dX12_rule_30 : decode cX12_rule 30 = .ok (.ireturn, 1) := by decide +kernel
set_option maxRecDepth 100000 in
def f_X12_rule (p0 : Nat) (p1 : Int32) (μ : dtM) : Option (Int32 × dtM) :=
  opCall (f_X12_isFrom (p1.toInt64) (0 : Int64) (16 : Int64) μ) fun x3 μ1 => if x3 = 0 then ((opRv 12 μ1 p0).bind fun _ => opCall (f_X12_is p0 (1 : Int32) μ1) fun x18 μ16 => opRet x18 μ16) else ((opGR 12 0 μ1 p0).bind fun x7 => (opSI μ1 x7 (4 : Int32) p1).bind fun μ9 => (opRv 12 μ9 p0).bind fun _ => opCall (f_X12_is p0 (0 : Int32) μ9) fun x14 μ12 => opRet x14 μ12)
set_option maxRecDepth 100000 in
theorem c_X12_rule {r : Int32} {F : dtM} (p0 : Nat) (p1 : Int32) (μ : dtM) (h : f_X12_rule p0 p1 μ = some (r, F)) : dtMet yX12_rule cX12_rule 2 (some .boolean) 2 [.ref p0, .int p1] μ (some (.int r)) F := by
  refine dtMet.of (by decide +kernel) (Nat.le_of_ble_eq_true rfl) (show dtW yX12_rule cX12_rule 2 (some .boolean) 2 (some (.int r)) F 0 [some (.ref p0), some (.int p1)] [] μ from ?_)
  rw [f_X12_rule] at h
  refine dr_iload_n p1 dX12_rule_0 rfl ?_
  refine dr_i2l dX12_rule_1 ?_
  refine dr_lconst (0 : Int64) dX12_rule_2 (by decide) ?_
  refine dr_ldc2 (16 : Int64) dX12_rule_3 wt_1874 ?_
  obtain ⟨x3, μ1, e2, h⟩ := dtCall h
  refine dr_callS_i (S0 := []) [.long (p1.toInt64), .long (0 : Int64), .long (16 : Int64)] x3 μ1 dX12_rule_6 (c_X12_isFrom (p1.toInt64) (0 : Int64) (16 : Int64) μ e2) mf_X12_isFrom wt_1854 wt_1853 rfl (Nat.le_of_ble_eq_true rfl) (Nat.le_of_ble_eq_true rfl) rfl ?_
  obtain ⟨ht5, hf6⟩ := dtIte h
  refine dr_if_ne 18 dX12_rule_9 (by decide) (fun hc4 => ?_) (fun hc4 => ?_)
  · have h := hf6 hc4
    refine dr_aload_n p0 dX12_rule_18 rfl ?_
    obtain ⟨x7, e8, h⟩ := dtBind h
    refine dr_getR x7 dX12_rule_19 fl_RX12_7 e8 ?_
    refine dr_iconst (4 : Int32) dX12_rule_22 (by decide) ?_
    refine dr_iload_n p1 dX12_rule_23 rfl ?_
    obtain ⟨μ9, e10, h⟩ := dtBind h
    refine dr_iastore μ9 dX12_rule_24 e10 ?_
    refine dr_aload_n p0 dX12_rule_25 rfl ?_
    refine dr_iconst (0 : Int32) dX12_rule_26 (by decide) ?_
    obtain ⟨_, hb11, h⟩ := dtBind h
    obtain ⟨x14, μ12, e13, h⟩ := dtCall h
    refine dr_callV_i (S0 := []) [.int (0 : Int32)] x14 μ12 dX12_rule_27 (c_X12_is p0 (0 : Int32) μ9 e13) mf_X12_is wt_1492 ws_53 wt_1490 rfl (dtRv hb11) (by decide) rfl (Nat.le_of_ble_eq_true rfl) (Nat.le_of_ble_eq_true rfl) rfl ?_
    obtain ⟨hz, rfl, rfl⟩ := dtRet h
    exact dr_ireturn dX12_rule_30 (dtNz hz)
  · have h := ht5 hc4
    refine dr_aload_n p0 dX12_rule_12 rfl ?_
    refine dr_iconst (1 : Int32) dX12_rule_13 (by decide) ?_
    obtain ⟨_, hb15, h⟩ := dtBind h
    obtain ⟨x18, μ16, e17, h⟩ := dtCall h
    refine dr_callV_i (S0 := []) [.int (1 : Int32)] x18 μ16 dX12_rule_14 (c_X12_is p0 (1 : Int32) μ1 e17) mf_X12_is wt_1492 ws_53 wt_1490 rfl (dtRv hb15) (by decide) rfl (Nat.le_of_ble_eq_true rfl) (Nat.le_of_ble_eq_true rfl) rfl ?_
    obtain ⟨hz, rfl, rfl⟩ := dtRet h
    exact dr_ireturn dX12_rule_17 (dtNz hz)
/-! X12_isSaid -/
theorem dX12_isSaid_0 : decode cX12_isSaid 0 = .ok (.aload_n 0, 1) := by decide +kernel
theorem dX12_isSaid_1 : decode cX12_isSaid 1 = .ok (.getfield 7, 3) := by decide +kernel
theorem dX12_isSaid_4 : decode cX12_isSaid 4 = .ok (.iload_n 1, 1) := by decide +kernel
theorem dX12_isSaid_5 : decode cX12_isSaid 5 = .ok (.invokestatic 222, 3) := by decide +kernel
theorem dX12_isSaid_8 : decode cX12_isSaid 8 = .ok (.iaload, 1) := by decide +kernel
theorem dX12_isSaid_9 : decode cX12_isSaid 9 = .ok (.istore_n 3, 1) := by decide +kernel
theorem dX12_isSaid_10 : decode cX12_isSaid 10 = .ok (.iload_n 2, 1) := by decide +kernel
theorem dX12_isSaid_11 : decode cX12_isSaid 11 = .ok (.iload_n 3, 1) := by decide +kernel
theorem dX12_isSaid_12 : decode cX12_isSaid 12 = .ok (.iadd, 1) := by decide +kernel
theorem dX12_isSaid_13 : decode cX12_isSaid 13 = .ok (.aload_n 0, 1) := by decide +kernel
theorem dX12_isSaid_14 : decode cX12_isSaid 14 = .ok (.getfield 376, 3) := by decide +kernel
theorem dX12_isSaid_17 : decode cX12_isSaid 17 = .ok (.if_icmp .le 5, 3) := by decide +kernel
theorem dX12_isSaid_20 : decode cX12_isSaid 20 = .ok (.iconst 0, 1) := by decide +kernel
theorem dX12_isSaid_21 : decode cX12_isSaid 21 = .ok (.ireturn, 1) := by decide +kernel
theorem dX12_isSaid_22 : decode cX12_isSaid 22 = .ok (.iconst 0, 1) := by decide +kernel
theorem dX12_isSaid_23 : decode cX12_isSaid 23 = .ok (.istore 4, 2) := by decide +kernel
theorem dX12_isSaid_25 : decode cX12_isSaid 25 = .ok (.iload 4, 2) := by decide +kernel
theorem dX12_isSaid_27 : decode cX12_isSaid 27 = .ok (.iload_n 3, 1) := by decide +kernel
theorem dX12_isSaid_28 : decode cX12_isSaid 28 = .ok (.if_icmp .ge 37, 3) := by decide +kernel
theorem dX12_isSaid_31 : decode cX12_isSaid 31 = .ok (.aload_n 0, 1) := by decide +kernel
theorem dX12_isSaid_32 : decode cX12_isSaid 32 = .ok (.getfield 50, 3) := by decide +kernel
theorem dX12_isSaid_35 : decode cX12_isSaid 35 = .ok (.iload_n 2, 1) := by decide +kernel
theorem dX12_isSaid_36 : decode cX12_isSaid 36 = .ok (.iload 4, 2) := by decide +kernel
theorem dX12_isSaid_38 : decode cX12_isSaid 38 = .ok (.iadd, 1) := by decide +kernel
theorem dX12_isSaid_39 : decode cX12_isSaid 39 = .ok (.iaload, 1) := by decide +kernel
theorem dX12_isSaid_40 : decode cX12_isSaid 40 = .ok (.aload_n 0, 1) := by decide +kernel
theorem dX12_isSaid_41 : decode cX12_isSaid 41 = .ok (.getfield 7, 3) := by decide +kernel
theorem dX12_isSaid_44 : decode cX12_isSaid 44 = .ok (.iload_n 1, 1) := by decide +kernel
theorem dX12_isSaid_45 : decode cX12_isSaid 45 = .ok (.invokestatic 222, 3) := by decide +kernel
theorem dX12_isSaid_48 : decode cX12_isSaid 48 = .ok (.iconst 1, 1) := by decide +kernel
theorem dX12_isSaid_49 : decode cX12_isSaid 49 = .ok (.iadd, 1) := by decide +kernel
theorem dX12_isSaid_50 : decode cX12_isSaid 50 = .ok (.iload 4, 2) := by decide +kernel
theorem dX12_isSaid_52 : decode cX12_isSaid 52 = .ok (.iadd, 1) := by decide +kernel
theorem dX12_isSaid_53 : decode cX12_isSaid 53 = .ok (.iaload, 1) := by decide +kernel
theorem dX12_isSaid_54 : decode cX12_isSaid 54 = .ok (.if_icmp .eq 5, 3) := by decide +kernel
theorem dX12_isSaid_57 : decode cX12_isSaid 57 = .ok (.iconst 0, 1) := by decide +kernel
theorem dX12_isSaid_58 : decode cX12_isSaid 58 = .ok (.ireturn, 1) := by decide +kernel
theorem dX12_isSaid_59 : decode cX12_isSaid 59 = .ok (.iinc 4 1, 3) := by decide +kernel
theorem dX12_isSaid_62 : decode cX12_isSaid 62 = .ok (.goto (-37), 3) := by decide +kernel
theorem dX12_isSaid_65 : decode cX12_isSaid 65 = .ok (.iconst 1, 1) := by decide +kernel
theorem dX12_isSaid_66 : decode cX12_isSaid 66 = .ok (.ireturn, 1) := by decide +kernel
set_option maxRecDepth 100000 in
def f_X12_isSaid_25 : Nat → Nat → Int32 → Int32 → Int32 → Int32 → dtM → Option (Int32 × dtM)
  | 0, _, _, _, _, _, _ => none
  | n + 1, l0, l1, l2, l3, l4, μ =>
    if l3 ≤ l4 then (opRet (1 : Int32) μ) else ((opGR 12 25 μ l0).bind fun x4 => (opLI 1 μ x4 (l2 + l4)).bind fun x6 => (opGR 12 0 μ l0).bind fun x8 => opCall (f_X12_wordRow l1 μ) fun x12 μ10 => (opLI 1 μ10 x8 ((x12 + (1 : Int32)) + l4)).bind fun x13 => if x6 = x13 then (f_X12_isSaid_25 n l0 l1 l2 l3 (l4 + 1) μ10) else (opRet (0 : Int32) μ10))
set_option maxRecDepth 100000 in
def f_X12_isSaid (p0 : Nat) (p1 : Int32) (p2 : Int32) (μ : dtM) : Option (Int32 × dtM) :=
  (opGR 12 0 μ p0).bind fun x1 => opCall (f_X12_wordRow p1 μ) fun x5 μ3 => (opLI 1 μ3 x1 x5).bind fun x6 => (opGI 12 27 μ3 p0).bind fun x8 => if (p2 + x6) ≤ x8 then (f_X12_isSaid_25 dtFuel p0 p1 p2 x6 (0 : Int32) μ3) else (opRet (0 : Int32) μ3)
set_option maxRecDepth 100000 in
theorem c_X12_isSaid_25 {r : Int32} {F : dtM} : ∀ (n : Nat) (l0 : Nat) (l1 : Int32) (l2 : Int32) (l3 : Int32) (l4 : Int32) (μ : dtM), f_X12_isSaid_25 n l0 l1 l2 l3 l4 μ = some (r, F) → dtW yX12_isSaid cX12_isSaid 5 (some .boolean) 2 (some (.int r)) F 25 [some (.ref l0), some (.int l1), some (.int l2), some (.int l3), some (.int l4)] [] μ := by
  intro n
  induction n with
  | zero => intro l0 l1 l2 l3 l4 μ h; cases h
  | succ n ih =>
    intro l0 l1 l2 l3 l4 μ h
    have h := (show f_X12_isSaid_25 (n + 1) l0 l1 l2 l3 l4 μ = some _ from h)
    rw [f_X12_isSaid_25] at h
    refine dr_iload l4 dX12_isSaid_25 rfl ?_
    refine dr_iload_n l3 dX12_isSaid_27 rfl ?_
    obtain ⟨ht2, hf3⟩ := dtIte h
    refine dr_icmp_ge 65 dX12_isSaid_28 (by decide) (fun hc1 => ?_) (fun hc1 => ?_)
    · have h := ht2 hc1
      refine dr_iconst (1 : Int32) dX12_isSaid_65 (by decide) ?_
      obtain ⟨hz, rfl, rfl⟩ := dtRet h
      exact dr_ireturn dX12_isSaid_66 (dtNz hz)
    · have h := hf3 hc1
      refine dr_aload_n l0 dX12_isSaid_31 rfl ?_
      obtain ⟨x4, e5, h⟩ := dtBind h
      refine dr_getR x4 dX12_isSaid_32 fl_RX12_50 e5 ?_
      refine dr_iload_n l2 dX12_isSaid_35 rfl ?_
      refine dr_iload l4 dX12_isSaid_36 rfl ?_
      refine dr_iadd dX12_isSaid_38 ?_
      obtain ⟨x6, e7, h⟩ := dtBind h
      refine dr_iaload x6 dX12_isSaid_39 e7 ?_
      refine dr_aload_n l0 dX12_isSaid_40 rfl ?_
      obtain ⟨x8, e9, h⟩ := dtBind h
      refine dr_getR x8 dX12_isSaid_41 fl_RX12_7 e9 ?_
      refine dr_iload_n l1 dX12_isSaid_44 rfl ?_
      obtain ⟨x12, μ10, e11, h⟩ := dtCall h
      refine dr_callS_i (S0 := [.ref x8, .int x6]) [.int l1] x12 μ10 dX12_isSaid_45 (c_X12_wordRow l1 μ e11) mf_X12_wordRow wt_1625 wt_1624 rfl (Nat.le_of_ble_eq_true rfl) (Nat.le_of_ble_eq_true rfl) rfl ?_
      refine dr_iconst (1 : Int32) dX12_isSaid_48 (by decide) ?_
      refine dr_iadd dX12_isSaid_49 ?_
      refine dr_iload l4 dX12_isSaid_50 rfl ?_
      refine dr_iadd dX12_isSaid_52 ?_
      obtain ⟨x13, e14, h⟩ := dtBind h
      refine dr_iaload x13 dX12_isSaid_53 e14 ?_
      obtain ⟨ht16, hf17⟩ := dtIte h
      refine dr_icmp_eq 59 dX12_isSaid_54 (by decide) (fun hc15 => ?_) (fun hc15 => ?_)
      · have h := ht16 hc15
        refine dr_iinc l4 (l4 + 1) [some (.ref l0), some (.int l1), some (.int l2), some (.int l3), some (.int (l4 + 1))] dX12_isSaid_59 rfl rfl rfl rfl rfl ?_
        refine dr_goto 25 dX12_isSaid_62 (by decide) ?_
        exact ih l0 l1 l2 l3 (l4 + 1) μ10 h
      · have h := hf17 hc15
        refine dr_iconst (0 : Int32) dX12_isSaid_57 (by decide) ?_
        obtain ⟨hz, rfl, rfl⟩ := dtRet h
        exact dr_ireturn dX12_isSaid_58 (dtNz hz)
set_option maxRecDepth 100000 in
theorem c_X12_isSaid {r : Int32} {F : dtM} (p0 : Nat) (p1 : Int32) (p2 : Int32) (μ : dtM) (h : f_X12_isSaid p0 p1 p2 μ = some (r, F)) : dtMet yX12_isSaid cX12_isSaid 5 (some .boolean) 2 [.ref p0, .int p1, .int p2] μ (some (.int r)) F := by
  refine dtMet.of (by decide +kernel) (Nat.le_of_ble_eq_true rfl) (show dtW yX12_isSaid cX12_isSaid 5 (some .boolean) 2 (some (.int r)) F 0 [some (.ref p0), some (.int p1), some (.int p2)] [] μ from ?_)
  rw [f_X12_isSaid] at h
  refine dr_aload_n p0 dX12_isSaid_0 rfl ?_
  obtain ⟨x1, e2, h⟩ := dtBind h
  refine dr_getR x1 dX12_isSaid_1 fl_RX12_7 e2 ?_
  refine dr_iload_n p1 dX12_isSaid_4 rfl ?_
  obtain ⟨x5, μ3, e4, h⟩ := dtCall h
  refine dr_callS_i (S0 := [.ref x1]) [.int p1] x5 μ3 dX12_isSaid_5 (c_X12_wordRow p1 μ e4) mf_X12_wordRow wt_1625 wt_1624 rfl (Nat.le_of_ble_eq_true rfl) (Nat.le_of_ble_eq_true rfl) rfl ?_
  obtain ⟨x6, e7, h⟩ := dtBind h
  refine dr_iaload x6 dX12_isSaid_8 e7 ?_
  refine dr_istore_n 3 [some (.ref p0), some (.int p1), some (.int p2), some (.int x6)] dX12_isSaid_9 rfl rfl rfl rfl ?_
  refine dr_iload_n p2 dX12_isSaid_10 rfl ?_
  refine dr_iload_n x6 dX12_isSaid_11 rfl ?_
  refine dr_iadd dX12_isSaid_12 ?_
  refine dr_aload_n p0 dX12_isSaid_13 rfl ?_
  obtain ⟨x8, e9, h⟩ := dtBind h
  refine dr_getI x8 dX12_isSaid_14 fl_RX12_376 e9 ?_
  obtain ⟨ht11, hf12⟩ := dtIte h
  refine dr_icmp_le 22 dX12_isSaid_17 (by decide) (fun hc10 => ?_) (fun hc10 => ?_)
  · have h := ht11 hc10
    refine dr_iconst (0 : Int32) dX12_isSaid_22 (by decide) ?_
    refine dr_istore [some (.ref p0), some (.int p1), some (.int p2), some (.int x6), some (.int (0 : Int32))] dX12_isSaid_23 rfl rfl rfl ?_
    exact c_X12_isSaid_25 dtFuel p0 p1 p2 x6 (0 : Int32) μ3 h
  · have h := hf12 hc10
    refine dr_iconst (0 : Int32) dX12_isSaid_20 (by decide) ?_
    obtain ⟨hz, rfl, rfl⟩ := dtRet h
    exact dr_ireturn dX12_isSaid_21 (dtNz hz)
/-! X12_laysReadings -/
theorem dX12_laysReadings_0 : decode cX12_laysReadings 0 = .ok (.aload_n 0, 1) := by decide +kernel
theorem dX12_laysReadings_1 : decode cX12_laysReadings 1 = .ok (.getfield 53, 3) := by decide +kernel
theorem dX12_laysReadings_4 : decode cX12_laysReadings 4 = .ok (.aload_n 0, 1) := by decide +kernel
theorem dX12_laysReadings_5 : decode cX12_laysReadings 5 = .ok (.getfield 376, 3) := by decide +kernel
theorem dX12_laysReadings_8 : decode cX12_laysReadings 8 = .ok (.iconst 1, 1) := by decide +kernel
theorem dX12_laysReadings_9 : decode cX12_laysReadings 9 = .ok (.iastore, 1) := by decide +kernel
theorem dX12_laysReadings_10 : decode cX12_laysReadings 10 = .ok (.aload_n 0, 1) := by decide +kernel
theorem dX12_laysReadings_11 : decode cX12_laysReadings 11 = .ok (.getfield 376, 3) := by decide +kernel
theorem dX12_laysReadings_14 : decode cX12_laysReadings 14 = .ok (.iconst 1, 1) := by decide +kernel
theorem dX12_laysReadings_15 : decode cX12_laysReadings 15 = .ok (.isub, 1) := by decide +kernel
theorem dX12_laysReadings_16 : decode cX12_laysReadings 16 = .ok (.istore_n 2, 1) := by decide +kernel
theorem dX12_laysReadings_17 : decode cX12_laysReadings 17 = .ok (.iload_n 2, 1) := by decide +kernel
theorem dX12_laysReadings_18 : decode cX12_laysReadings 18 = .ok (.ifCond .lt 77, 3) := by decide +kernel
theorem dX12_laysReadings_21 : decode cX12_laysReadings 21 = .ok (.aload_n 0, 1) := by decide +kernel
theorem dX12_laysReadings_22 : decode cX12_laysReadings 22 = .ok (.getfield 53, 3) := by decide +kernel
theorem dX12_laysReadings_25 : decode cX12_laysReadings 25 = .ok (.iload_n 2, 1) := by decide +kernel
theorem dX12_laysReadings_26 : decode cX12_laysReadings 26 = .ok (.iconst 0, 1) := by decide +kernel
theorem dX12_laysReadings_27 : decode cX12_laysReadings 27 = .ok (.iastore, 1) := by decide +kernel
theorem dX12_laysReadings_28 : decode cX12_laysReadings 28 = .ok (.iconst 0, 1) := by decide +kernel
theorem dX12_laysReadings_29 : decode cX12_laysReadings 29 = .ok (.istore_n 3, 1) := by decide +kernel
theorem dX12_laysReadings_30 : decode cX12_laysReadings 30 = .ok (.iload_n 3, 1) := by decide +kernel
theorem dX12_laysReadings_31 : decode cX12_laysReadings 31 = .ok (.aload_n 0, 1) := by decide +kernel
theorem dX12_laysReadings_32 : decode cX12_laysReadings 32 = .ok (.getfield 7, 3) := by decide +kernel
theorem dX12_laysReadings_35 : decode cX12_laysReadings 35 = .ok (.iconst 2, 1) := by decide +kernel
theorem dX12_laysReadings_36 : decode cX12_laysReadings 36 = .ok (.iaload, 1) := by decide +kernel
theorem dX12_laysReadings_37 : decode cX12_laysReadings 37 = .ok (.if_icmp .ge 52, 3) := by decide +kernel
theorem dX12_laysReadings_40 : decode cX12_laysReadings 40 = .ok (.aload_n 0, 1) := by decide +kernel
theorem dX12_laysReadings_41 : decode cX12_laysReadings 41 = .ok (.iload_n 1, 1) := by decide +kernel
theorem dX12_laysReadings_42 : decode cX12_laysReadings 42 = .ok (.iload_n 3, 1) := by decide +kernel
theorem dX12_laysReadings_43 : decode cX12_laysReadings 43 = .ok (.invokevirtual 241, 3) := by decide +kernel
theorem dX12_laysReadings_46 : decode cX12_laysReadings 46 = .ok (.ifCond .eq 37, 3) := by decide +kernel
theorem dX12_laysReadings_49 : decode cX12_laysReadings 49 = .ok (.aload_n 0, 1) := by decide +kernel
theorem dX12_laysReadings_50 : decode cX12_laysReadings 50 = .ok (.iload_n 3, 1) := by decide +kernel
theorem dX12_laysReadings_51 : decode cX12_laysReadings 51 = .ok (.iload_n 2, 1) := by decide +kernel
theorem dX12_laysReadings_52 : decode cX12_laysReadings 52 = .ok (.invokevirtual 379, 3) := by decide +kernel
theorem dX12_laysReadings_55 : decode cX12_laysReadings 55 = .ok (.ifCond .eq 28, 3) := by decide +kernel
theorem dX12_laysReadings_58 : decode cX12_laysReadings 58 = .ok (.aload_n 0, 1) := by decide +kernel
theorem dX12_laysReadings_59 : decode cX12_laysReadings 59 = .ok (.getfield 53, 3) := by decide +kernel
theorem dX12_laysReadings_62 : decode cX12_laysReadings 62 = .ok (.iload_n 2, 1) := by decide +kernel
theorem dX12_laysReadings_63 : decode cX12_laysReadings 63 = .ok (.dup2, 1) := by decide +kernel
theorem dX12_laysReadings_64 : decode cX12_laysReadings 64 = .ok (.iaload, 1) := by decide +kernel
theorem dX12_laysReadings_65 : decode cX12_laysReadings 65 = .ok (.aload_n 0, 1) := by decide +kernel
theorem dX12_laysReadings_66 : decode cX12_laysReadings 66 = .ok (.getfield 53, 3) := by decide +kernel
theorem dX12_laysReadings_69 : decode cX12_laysReadings 69 = .ok (.iload_n 2, 1) := by decide +kernel
theorem dX12_laysReadings_70 : decode cX12_laysReadings 70 = .ok (.aload_n 0, 1) := by decide +kernel
theorem dX12_laysReadings_71 : decode cX12_laysReadings 71 = .ok (.getfield 7, 3) := by decide +kernel
theorem dX12_laysReadings_74 : decode cX12_laysReadings 74 = .ok (.iload_n 3, 1) := by decide +kernel
theorem dX12_laysReadings_75 : decode cX12_laysReadings 75 = .ok (.invokestatic 222, 3) := by decide +kernel
theorem dX12_laysReadings_78 : decode cX12_laysReadings 78 = .ok (.iaload, 1) := by decide +kernel
theorem dX12_laysReadings_79 : decode cX12_laysReadings 79 = .ok (.iadd, 1) := by decide +kernel
theorem dX12_laysReadings_80 : decode cX12_laysReadings 80 = .ok (.iaload, 1) := by decide +kernel
theorem dX12_laysReadings_81 : decode cX12_laysReadings 81 = .ok (.iadd, 1) := by decide +kernel
theorem dX12_laysReadings_82 : decode cX12_laysReadings 82 = .ok (.iastore, 1) := by decide +kernel
theorem dX12_laysReadings_83 : decode cX12_laysReadings 83 = .ok (.iinc 3 1, 3) := by decide +kernel
theorem dX12_laysReadings_86 : decode cX12_laysReadings 86 = .ok (.goto (-56), 3) := by decide +kernel
theorem dX12_laysReadings_89 : decode cX12_laysReadings 89 = .ok (.iinc 2 (-1), 3) := by decide +kernel
theorem dX12_laysReadings_92 : decode cX12_laysReadings 92 = .ok (.goto (-75), 3) := by decide +kernel
theorem dX12_laysReadings_95 : decode cX12_laysReadings 95 = .ok (.aload_n 0, 1) := by decide +kernel
theorem dX12_laysReadings_96 : decode cX12_laysReadings 96 = .ok (.getfield 53, 3) := by decide +kernel
theorem dX12_laysReadings_99 : decode cX12_laysReadings 99 = .ok (.iconst 0, 1) := by decide +kernel
theorem dX12_laysReadings_100 : decode cX12_laysReadings 100 = .ok (.iaload, 1) := by decide +kernel
theorem dX12_laysReadings_101 : decode cX12_laysReadings 101 = .ok (.ireturn, 1) := by decide +kernel
set_option maxRecDepth 100000 in
def f_X12_laysReadings_83 (k17 : Nat → Int32 → Int32 → dtM → Option (Int32 × dtM)) (k30 : Nat → Int32 → Int32 → Int32 → dtM → Option (Int32 × dtM)) (l0 : Nat) (l1 : Int32) (l2 : Int32) (l3 : Int32) (μ : dtM) : Option (Int32 × dtM) :=
  k30 l0 l1 l2 (l3 + 1) μ
set_option maxRecDepth 100000 in
def f_X12_laysReadings_30 (k17 : Nat → Int32 → Int32 → dtM → Option (Int32 × dtM)) : Nat → Nat → Int32 → Int32 → Int32 → dtM → Option (Int32 × dtM)
  | 0, _, _, _, _, _ => none
  | n + 1, l0, l1, l2, l3, μ =>
    (opGR 12 0 μ l0).bind fun x1 => (opLI 1 μ x1 (2 : Int32)).bind fun x3 => if x3 ≤ l3 then (k17 l0 l1 (l2 + (-1)) μ) else ((opRv 12 μ l0).bind fun _ => opCall (f_X12_isIn l0 l1 l3 μ) fun x11 μ9 => if x11 = 0 then (f_X12_laysReadings_83 k17 (f_X12_laysReadings_30 k17 n) l0 l1 l2 l3 μ9) else ((opRv 12 μ9 l0).bind fun _ => opCall (f_X12_isSaid l0 l3 l2 μ9) fun x18 μ16 => if x18 = 0 then (f_X12_laysReadings_83 k17 (f_X12_laysReadings_30 k17 n) l0 l1 l2 l3 μ16) else ((opGR 12 26 μ16 l0).bind fun x22 => (opLI 1 μ16 x22 l2).bind fun x24 => (opGR 12 26 μ16 l0).bind fun x26 => (opGR 12 0 μ16 l0).bind fun x28 => opCall (f_X12_wordRow l3 μ16) fun x32 μ30 => (opLI 1 μ30 x28 x32).bind fun x33 => (opLI 1 μ30 x26 (l2 + x33)).bind fun x35 => (opSI μ30 x22 l2 (x24 + x35)).bind fun μ37 => f_X12_laysReadings_83 k17 (f_X12_laysReadings_30 k17 n) l0 l1 l2 l3 μ37)))
set_option maxRecDepth 100000 in
def f_X12_laysReadings_17 : Nat → Nat → Int32 → Int32 → dtM → Option (Int32 × dtM)
  | 0, _, _, _, _ => none
  | n + 1, l0, l1, l2, μ =>
    if l2 < 0 then ((opGR 12 26 μ l0).bind fun x4 => (opLI 1 μ x4 (0 : Int32)).bind fun x6 => some (x6, μ)) else ((opGR 12 26 μ l0).bind fun x8 => (opSI μ x8 l2 (0 : Int32)).bind fun μ10 => f_X12_laysReadings_30 (f_X12_laysReadings_17 n) dtFuel l0 l1 l2 (0 : Int32) μ10)
set_option maxRecDepth 100000 in
def f_X12_laysReadings (p0 : Nat) (p1 : Int32) (μ : dtM) : Option (Int32 × dtM) :=
  (opGR 12 26 μ p0).bind fun x1 => (opGI 12 27 μ p0).bind fun x3 => (opSI μ x1 x3 (1 : Int32)).bind fun μ5 => (opGI 12 27 μ5 p0).bind fun x7 => (some (x7 - (1 : Int32))).bind fun x9 => f_X12_laysReadings_17 dtFuel p0 p1 x9 μ5
set_option maxRecDepth 100000 in
theorem c_X12_laysReadings_83 {r : Int32} {F : dtM} (k17 : Nat → Int32 → Int32 → dtM → Option (Int32 × dtM)) (k30 : Nat → Int32 → Int32 → Int32 → dtM → Option (Int32 × dtM)) (hk17 : ∀ (l0 : Nat) (l1 : Int32) (l2 : Int32) (μ : dtM), k17 l0 l1 l2 μ = some (r, F) → dtW yX12_laysReadings cX12_laysReadings 4 (some .int) 3 (some (.int r)) F 17 [some (.ref l0), some (.int l1), some (.int l2)] [] μ) (hk30 : ∀ (l0 : Nat) (l1 : Int32) (l2 : Int32) (l3 : Int32) (μ : dtM), k30 l0 l1 l2 l3 μ = some (r, F) → dtW yX12_laysReadings cX12_laysReadings 4 (some .int) 3 (some (.int r)) F 30 [some (.ref l0), some (.int l1), some (.int l2), some (.int l3)] [] μ) (l0 : Nat) (l1 : Int32) (l2 : Int32) (l3 : Int32) (μ : dtM) (h : f_X12_laysReadings_83 k17 k30 l0 l1 l2 l3 μ = some (r, F)) : dtW yX12_laysReadings cX12_laysReadings 4 (some .int) 3 (some (.int r)) F 83 [some (.ref l0), some (.int l1), some (.int l2), some (.int l3)] [] μ := by
  rw [f_X12_laysReadings_83] at h
  refine dr_iinc l3 (l3 + 1) [some (.ref l0), some (.int l1), some (.int l2), some (.int (l3 + 1))] dX12_laysReadings_83 rfl rfl rfl rfl rfl ?_
  refine dr_goto 30 dX12_laysReadings_86 (by decide) ?_
  exact hk30 l0 l1 l2 (l3 + 1) μ h
set_option maxRecDepth 100000 in
theorem c_X12_laysReadings_30 {r : Int32} {F : dtM} (k17 : Nat → Int32 → Int32 → dtM → Option (Int32 × dtM)) (hk17 : ∀ (l0 : Nat) (l1 : Int32) (l2 : Int32) (μ : dtM), k17 l0 l1 l2 μ = some (r, F) → dtW yX12_laysReadings cX12_laysReadings 4 (some .int) 3 (some (.int r)) F 17 [some (.ref l0), some (.int l1), some (.int l2)] [] μ) : ∀ (n : Nat) (l0 : Nat) (l1 : Int32) (l2 : Int32) (l3 : Int32) (μ : dtM), f_X12_laysReadings_30 k17 n l0 l1 l2 l3 μ = some (r, F) → dtW yX12_laysReadings cX12_laysReadings 4 (some .int) 3 (some (.int r)) F 30 [some (.ref l0), some (.int l1), some (.int l2), some (.int l3)] [] μ := by
  intro n
  induction n with
  | zero => intro l0 l1 l2 l3 μ h; cases h
  | succ n ih =>
    intro l0 l1 l2 l3 μ h
    have h := (show f_X12_laysReadings_30 k17 (n + 1) l0 l1 l2 l3 μ = some _ from h)
    rw [f_X12_laysReadings_30] at h
    refine dr_iload_n l3 dX12_laysReadings_30 rfl ?_
    refine dr_aload_n l0 dX12_laysReadings_31 rfl ?_
    obtain ⟨x1, e2, h⟩ := dtBind h
    refine dr_getR x1 dX12_laysReadings_32 fl_RX12_7 e2 ?_
    refine dr_iconst (2 : Int32) dX12_laysReadings_35 (by decide) ?_
    obtain ⟨x3, e4, h⟩ := dtBind h
    refine dr_iaload x3 dX12_laysReadings_36 e4 ?_
    obtain ⟨ht6, hf7⟩ := dtIte h
    refine dr_icmp_ge 89 dX12_laysReadings_37 (by decide) (fun hc5 => ?_) (fun hc5 => ?_)
    · have h := ht6 hc5
      refine dr_iinc l2 (l2 + (-1)) [some (.ref l0), some (.int l1), some (.int (l2 + (-1))), some (.int l3)] dX12_laysReadings_89 rfl rfl rfl rfl rfl ?_
      refine dr_goto 17 dX12_laysReadings_92 (by decide) ?_
      refine dr_mask [true, true, true] [some (.ref l0), some (.int l1), some (.int (l2 + (-1)))] rfl ?_
      exact hk17 l0 l1 (l2 + (-1)) μ h
    · have h := hf7 hc5
      refine dr_aload_n l0 dX12_laysReadings_40 rfl ?_
      refine dr_iload_n l1 dX12_laysReadings_41 rfl ?_
      refine dr_iload_n l3 dX12_laysReadings_42 rfl ?_
      obtain ⟨_, hb8, h⟩ := dtBind h
      obtain ⟨x11, μ9, e10, h⟩ := dtCall h
      refine dr_callV_i (S0 := []) [.int l1, .int l3] x11 μ9 dX12_laysReadings_43 (c_X12_isIn l0 l1 l3 μ e10) mf_X12_isIn wt_1656 ws_82 wt_1654 rfl (dtRv hb8) (by decide) rfl (Nat.le_of_ble_eq_true rfl) (Nat.le_of_ble_eq_true rfl) rfl ?_
      obtain ⟨ht13, hf14⟩ := dtIte h
      refine dr_if_eq 83 dX12_laysReadings_46 (by decide) (fun hc12 => ?_) (fun hc12 => ?_)
      · have h := ht13 hc12
        exact c_X12_laysReadings_83 k17 (f_X12_laysReadings_30 k17 n) hk17 ih l0 l1 l2 l3 μ9 h
      · have h := hf14 hc12
        refine dr_aload_n l0 dX12_laysReadings_49 rfl ?_
        refine dr_iload_n l3 dX12_laysReadings_50 rfl ?_
        refine dr_iload_n l2 dX12_laysReadings_51 rfl ?_
        obtain ⟨_, hb15, h⟩ := dtBind h
        obtain ⟨x18, μ16, e17, h⟩ := dtCall h
        refine dr_callV_i (S0 := []) [.int l3, .int l2] x18 μ16 dX12_laysReadings_52 (c_X12_isSaid l0 l3 l2 μ9 e17) mf_X12_isSaid wt_1889 ws_113 wt_1887 rfl (dtRv hb15) (by decide) rfl (Nat.le_of_ble_eq_true rfl) (Nat.le_of_ble_eq_true rfl) rfl ?_
        obtain ⟨ht20, hf21⟩ := dtIte h
        refine dr_if_eq 83 dX12_laysReadings_55 (by decide) (fun hc19 => ?_) (fun hc19 => ?_)
        · have h := ht20 hc19
          exact c_X12_laysReadings_83 k17 (f_X12_laysReadings_30 k17 n) hk17 ih l0 l1 l2 l3 μ16 h
        · have h := hf21 hc19
          refine dr_aload_n l0 dX12_laysReadings_58 rfl ?_
          obtain ⟨x22, e23, h⟩ := dtBind h
          refine dr_getR x22 dX12_laysReadings_59 fl_RX12_53 e23 ?_
          refine dr_iload_n l2 dX12_laysReadings_62 rfl ?_
          refine dr_dup2 dX12_laysReadings_63 rfl rfl ?_
          obtain ⟨x24, e25, h⟩ := dtBind h
          refine dr_iaload x24 dX12_laysReadings_64 e25 ?_
          refine dr_aload_n l0 dX12_laysReadings_65 rfl ?_
          obtain ⟨x26, e27, h⟩ := dtBind h
          refine dr_getR x26 dX12_laysReadings_66 fl_RX12_53 e27 ?_
          refine dr_iload_n l2 dX12_laysReadings_69 rfl ?_
          refine dr_aload_n l0 dX12_laysReadings_70 rfl ?_
          obtain ⟨x28, e29, h⟩ := dtBind h
          refine dr_getR x28 dX12_laysReadings_71 fl_RX12_7 e29 ?_
          refine dr_iload_n l3 dX12_laysReadings_74 rfl ?_
          obtain ⟨x32, μ30, e31, h⟩ := dtCall h
          refine dr_callS_i (S0 := [.ref x28, .int l2, .ref x26, .int x24, .int l2, .ref x22]) [.int l3] x32 μ30 dX12_laysReadings_75 (c_X12_wordRow l3 μ16 e31) mf_X12_wordRow wt_1625 wt_1624 rfl (Nat.le_of_ble_eq_true rfl) (Nat.le_of_ble_eq_true rfl) rfl ?_
          obtain ⟨x33, e34, h⟩ := dtBind h
          refine dr_iaload x33 dX12_laysReadings_78 e34 ?_
          refine dr_iadd dX12_laysReadings_79 ?_
          obtain ⟨x35, e36, h⟩ := dtBind h
          refine dr_iaload x35 dX12_laysReadings_80 e36 ?_
          refine dr_iadd dX12_laysReadings_81 ?_
          obtain ⟨μ37, e38, h⟩ := dtBind h
          refine dr_iastore μ37 dX12_laysReadings_82 e38 ?_
          exact c_X12_laysReadings_83 k17 (f_X12_laysReadings_30 k17 n) hk17 ih l0 l1 l2 l3 μ37 h
set_option maxRecDepth 100000 in
theorem c_X12_laysReadings_17 {r : Int32} {F : dtM} : ∀ (n : Nat) (l0 : Nat) (l1 : Int32) (l2 : Int32) (μ : dtM), f_X12_laysReadings_17 n l0 l1 l2 μ = some (r, F) → dtW yX12_laysReadings cX12_laysReadings 4 (some .int) 3 (some (.int r)) F 17 [some (.ref l0), some (.int l1), some (.int l2)] [] μ := by
  intro n
  induction n with
  | zero => intro l0 l1 l2 μ h; cases h
  | succ n ih =>
    intro l0 l1 l2 μ h
    have h := (show f_X12_laysReadings_17 (n + 1) l0 l1 l2 μ = some _ from h)
    rw [f_X12_laysReadings_17] at h
    refine dr_iload_n l2 dX12_laysReadings_17 rfl ?_
    obtain ⟨ht2, hf3⟩ := dtIte h
    refine dr_if_lt 95 dX12_laysReadings_18 (by decide) (fun hc1 => ?_) (fun hc1 => ?_)
    · have h := ht2 hc1
      refine dr_aload_n l0 dX12_laysReadings_95 rfl ?_
      obtain ⟨x4, e5, h⟩ := dtBind h
      refine dr_getR x4 dX12_laysReadings_96 fl_RX12_53 e5 ?_
      refine dr_iconst (0 : Int32) dX12_laysReadings_99 (by decide) ?_
      obtain ⟨x6, e7, h⟩ := dtBind h
      refine dr_iaload x6 dX12_laysReadings_100 e7 ?_
      cases h
      exact dr_ireturn dX12_laysReadings_101 rfl
    · have h := hf3 hc1
      refine dr_aload_n l0 dX12_laysReadings_21 rfl ?_
      obtain ⟨x8, e9, h⟩ := dtBind h
      refine dr_getR x8 dX12_laysReadings_22 fl_RX12_53 e9 ?_
      refine dr_iload_n l2 dX12_laysReadings_25 rfl ?_
      refine dr_iconst (0 : Int32) dX12_laysReadings_26 (by decide) ?_
      obtain ⟨μ10, e11, h⟩ := dtBind h
      refine dr_iastore μ10 dX12_laysReadings_27 e11 ?_
      refine dr_iconst (0 : Int32) dX12_laysReadings_28 (by decide) ?_
      refine dr_istore_n 3 [some (.ref l0), some (.int l1), some (.int l2), some (.int (0 : Int32))] dX12_laysReadings_29 rfl rfl rfl rfl ?_
      exact c_X12_laysReadings_30 (f_X12_laysReadings_17 n) ih dtFuel l0 l1 l2 (0 : Int32) μ10 h
set_option maxRecDepth 100000 in
theorem c_X12_laysReadings {r : Int32} {F : dtM} (p0 : Nat) (p1 : Int32) (μ : dtM) (h : f_X12_laysReadings p0 p1 μ = some (r, F)) : dtMet yX12_laysReadings cX12_laysReadings 4 (some .int) 3 [.ref p0, .int p1] μ (some (.int r)) F := by
  refine dtMet.of (by decide +kernel) (Nat.le_of_ble_eq_true rfl) (show dtW yX12_laysReadings cX12_laysReadings 4 (some .int) 3 (some (.int r)) F 0 [some (.ref p0), some (.int p1)] [] μ from ?_)
  rw [f_X12_laysReadings] at h
  refine dr_aload_n p0 dX12_laysReadings_0 rfl ?_
  obtain ⟨x1, e2, h⟩ := dtBind h
  refine dr_getR x1 dX12_laysReadings_1 fl_RX12_53 e2 ?_
  refine dr_aload_n p0 dX12_laysReadings_4 rfl ?_
  obtain ⟨x3, e4, h⟩ := dtBind h
  refine dr_getI x3 dX12_laysReadings_5 fl_RX12_376 e4 ?_
  refine dr_iconst (1 : Int32) dX12_laysReadings_8 (by decide) ?_
  obtain ⟨μ5, e6, h⟩ := dtBind h
  refine dr_iastore μ5 dX12_laysReadings_9 e6 ?_
  refine dr_aload_n p0 dX12_laysReadings_10 rfl ?_
  obtain ⟨x7, e8, h⟩ := dtBind h
  refine dr_getI x7 dX12_laysReadings_11 fl_RX12_376 e8 ?_
  refine dr_iconst (1 : Int32) dX12_laysReadings_14 (by decide) ?_
  refine dr_isub dX12_laysReadings_15 ?_
  obtain ⟨x9, e10, h⟩ := dtBind h
  refine dr_nmi e10 ?_
  refine dr_istore_n 2 [some (.ref p0), some (.int p1), some (.int x9)] dX12_laysReadings_16 rfl rfl rfl rfl ?_
  exact c_X12_laysReadings_17 dtFuel p0 p1 x9 μ5 h
/-! X12_laysHeard -/
theorem dX12_laysHeard_0 : decode cX12_laysHeard 0 = .ok (.aload_n 0, 1) := by decide +kernel
theorem dX12_laysHeard_1 : decode cX12_laysHeard 1 = .ok (.aload_n 0, 1) := by decide +kernel
theorem dX12_laysHeard_2 : decode cX12_laysHeard 2 = .ok (.iload_n 1, 1) := by decide +kernel
theorem dX12_laysHeard_3 : decode cX12_laysHeard 3 = .ok (.iconst 3, 1) := by decide +kernel
theorem dX12_laysHeard_4 : decode cX12_laysHeard 4 = .ok (.invokevirtual 295, 3) := by decide +kernel
theorem dX12_laysHeard_7 : decode cX12_laysHeard 7 = .ok (.putfield 376, 3) := by decide +kernel
theorem dX12_laysHeard_10 : decode cX12_laysHeard 10 = .ok (.iconst 0, 1) := by decide +kernel
theorem dX12_laysHeard_11 : decode cX12_laysHeard 11 = .ok (.istore_n 2, 1) := by decide +kernel
theorem dX12_laysHeard_12 : decode cX12_laysHeard 12 = .ok (.iload_n 2, 1) := by decide +kernel
theorem dX12_laysHeard_13 : decode cX12_laysHeard 13 = .ok (.aload_n 0, 1) := by decide +kernel
theorem dX12_laysHeard_14 : decode cX12_laysHeard 14 = .ok (.getfield 376, 3) := by decide +kernel
theorem dX12_laysHeard_17 : decode cX12_laysHeard 17 = .ok (.if_icmp .ge 23, 3) := by decide +kernel
theorem dX12_laysHeard_20 : decode cX12_laysHeard 20 = .ok (.aload_n 0, 1) := by decide +kernel
theorem dX12_laysHeard_21 : decode cX12_laysHeard 21 = .ok (.getfield 50, 3) := by decide +kernel
theorem dX12_laysHeard_24 : decode cX12_laysHeard 24 = .ok (.iload_n 2, 1) := by decide +kernel
theorem dX12_laysHeard_25 : decode cX12_laysHeard 25 = .ok (.aload_n 0, 1) := by decide +kernel
theorem dX12_laysHeard_26 : decode cX12_laysHeard 26 = .ok (.iload_n 1, 1) := by decide +kernel
theorem dX12_laysHeard_27 : decode cX12_laysHeard 27 = .ok (.iconst 4, 1) := by decide +kernel
theorem dX12_laysHeard_28 : decode cX12_laysHeard 28 = .ok (.iload_n 2, 1) := by decide +kernel
theorem dX12_laysHeard_29 : decode cX12_laysHeard 29 = .ok (.iadd, 1) := by decide +kernel
theorem dX12_laysHeard_30 : decode cX12_laysHeard 30 = .ok (.invokevirtual 295, 3) := by decide +kernel
theorem dX12_laysHeard_33 : decode cX12_laysHeard 33 = .ok (.iastore, 1) := by decide +kernel
theorem dX12_laysHeard_34 : decode cX12_laysHeard 34 = .ok (.iinc 2 1, 3) := by decide +kernel
theorem dX12_laysHeard_37 : decode cX12_laysHeard 37 = .ok (.goto (-25), 3) := by decide +kernel
theorem dX12_laysHeard_40 : decode cX12_laysHeard 40 = .ok (.aload_n 0, 1) := by decide +kernel
theorem dX12_laysHeard_41 : decode cX12_laysHeard 41 = .ok (.aload_n 0, 1) := by decide +kernel
theorem dX12_laysHeard_42 : decode cX12_laysHeard 42 = .ok (.iload_n 1, 1) := by decide +kernel
theorem dX12_laysHeard_43 : decode cX12_laysHeard 43 = .ok (.iconst 2, 1) := by decide +kernel
theorem dX12_laysHeard_44 : decode cX12_laysHeard 44 = .ok (.invokevirtual 295, 3) := by decide +kernel
theorem dX12_laysHeard_47 : decode cX12_laysHeard 47 = .ok (.invokevirtual 382, 3) := by decide +kernel
theorem dX12_laysHeard_50 : decode cX12_laysHeard 50 = .ok (.ireturn, 1) := by decide +kernel
set_option maxRecDepth 100000 in
def f_X12_laysHeard_12 : Nat → Nat → Int32 → Int32 → dtM → Option (Int32 × dtM)
  | 0, _, _, _, _ => none
  | n + 1, l0, l1, l2, μ =>
    (opGI 12 27 μ l0).bind fun x1 => if x1 ≤ l2 then ((opRv 12 μ l0).bind fun _ => opCall (f_X12_personOf l0 l1 (2 : Int32) μ) fun x9 μ7 => (opRv 12 μ7 l0).bind fun _ => opCall (f_X12_laysReadings l0 x9 μ7) fun x13 μ11 => some (x13, μ11)) else ((opGR 12 25 μ l0).bind fun x14 => (opRv 12 μ l0).bind fun _ => opCall (f_X12_personOf l0 l1 ((4 : Int32) + l2) μ) fun x19 μ17 => (opSI μ17 x14 l2 x19).bind fun μ20 => f_X12_laysHeard_12 n l0 l1 (l2 + 1) μ20)
set_option maxRecDepth 100000 in
def f_X12_laysHeard (p0 : Nat) (p1 : Int32) (μ : dtM) : Option (Int32 × dtM) :=
  (opRv 12 μ p0).bind fun _ => opCall (f_X12_personOf p0 p1 (3 : Int32) μ) fun x4 μ2 => (opPI 12 27 μ2 p0 x4).bind fun μ5 => f_X12_laysHeard_12 dtFuel p0 p1 (0 : Int32) μ5
set_option maxRecDepth 100000 in
theorem c_X12_laysHeard_12 {r : Int32} {F : dtM} : ∀ (n : Nat) (l0 : Nat) (l1 : Int32) (l2 : Int32) (μ : dtM), f_X12_laysHeard_12 n l0 l1 l2 μ = some (r, F) → dtW yX12_laysHeard cX12_laysHeard 3 (some .int) 4 (some (.int r)) F 12 [some (.ref l0), some (.int l1), some (.int l2)] [] μ := by
  intro n
  induction n with
  | zero => intro l0 l1 l2 μ h; cases h
  | succ n ih =>
    intro l0 l1 l2 μ h
    have h := (show f_X12_laysHeard_12 (n + 1) l0 l1 l2 μ = some _ from h)
    rw [f_X12_laysHeard_12] at h
    refine dr_iload_n l2 dX12_laysHeard_12 rfl ?_
    refine dr_aload_n l0 dX12_laysHeard_13 rfl ?_
    obtain ⟨x1, e2, h⟩ := dtBind h
    refine dr_getI x1 dX12_laysHeard_14 fl_RX12_376 e2 ?_
    obtain ⟨ht4, hf5⟩ := dtIte h
    refine dr_icmp_ge 40 dX12_laysHeard_17 (by decide) (fun hc3 => ?_) (fun hc3 => ?_)
    · have h := ht4 hc3
      refine dr_aload_n l0 dX12_laysHeard_40 rfl ?_
      refine dr_aload_n l0 dX12_laysHeard_41 rfl ?_
      refine dr_iload_n l1 dX12_laysHeard_42 rfl ?_
      refine dr_iconst (2 : Int32) dX12_laysHeard_43 (by decide) ?_
      obtain ⟨_, hb6, h⟩ := dtBind h
      obtain ⟨x9, μ7, e8, h⟩ := dtCall h
      refine dr_callV_i (S0 := [.ref l0]) [.int l1, .int (2 : Int32)] x9 μ7 dX12_laysHeard_44 (c_X12_personOf l0 l1 (2 : Int32) μ e8) mf_X12_personOf wt_1736 ws_96 wt_1734 rfl (dtRv hb6) (by decide) rfl (Nat.le_of_ble_eq_true rfl) (Nat.le_of_ble_eq_true rfl) rfl ?_
      obtain ⟨_, hb10, h⟩ := dtBind h
      obtain ⟨x13, μ11, e12, h⟩ := dtCall h
      refine dr_callV_i (S0 := []) [.int x9] x13 μ11 dX12_laysHeard_47 (c_X12_laysReadings l0 x9 μ7 e12) mf_X12_laysReadings wt_1885 ws_112 wt_1883 rfl (dtRv hb10) (by decide) rfl (Nat.le_of_ble_eq_true rfl) (Nat.le_of_ble_eq_true rfl) rfl ?_
      cases h
      exact dr_ireturn dX12_laysHeard_50 rfl
    · have h := hf5 hc3
      refine dr_aload_n l0 dX12_laysHeard_20 rfl ?_
      obtain ⟨x14, e15, h⟩ := dtBind h
      refine dr_getR x14 dX12_laysHeard_21 fl_RX12_50 e15 ?_
      refine dr_iload_n l2 dX12_laysHeard_24 rfl ?_
      refine dr_aload_n l0 dX12_laysHeard_25 rfl ?_
      refine dr_iload_n l1 dX12_laysHeard_26 rfl ?_
      refine dr_iconst (4 : Int32) dX12_laysHeard_27 (by decide) ?_
      refine dr_iload_n l2 dX12_laysHeard_28 rfl ?_
      refine dr_iadd dX12_laysHeard_29 ?_
      obtain ⟨_, hb16, h⟩ := dtBind h
      obtain ⟨x19, μ17, e18, h⟩ := dtCall h
      refine dr_callV_i (S0 := [.int l2, .ref x14]) [.int l1, .int ((4 : Int32) + l2)] x19 μ17 dX12_laysHeard_30 (c_X12_personOf l0 l1 ((4 : Int32) + l2) μ e18) mf_X12_personOf wt_1736 ws_96 wt_1734 rfl (dtRv hb16) (by decide) rfl (Nat.le_of_ble_eq_true rfl) (Nat.le_of_ble_eq_true rfl) rfl ?_
      obtain ⟨μ20, e21, h⟩ := dtBind h
      refine dr_iastore μ20 dX12_laysHeard_33 e21 ?_
      refine dr_iinc l2 (l2 + 1) [some (.ref l0), some (.int l1), some (.int (l2 + 1))] dX12_laysHeard_34 rfl rfl rfl rfl rfl ?_
      refine dr_goto 12 dX12_laysHeard_37 (by decide) ?_
      exact ih l0 l1 (l2 + 1) μ20 h
set_option maxRecDepth 100000 in
theorem c_X12_laysHeard {r : Int32} {F : dtM} (p0 : Nat) (p1 : Int32) (μ : dtM) (h : f_X12_laysHeard p0 p1 μ = some (r, F)) : dtMet yX12_laysHeard cX12_laysHeard 3 (some .int) 4 [.ref p0, .int p1] μ (some (.int r)) F := by
  refine dtMet.of (by decide +kernel) (Nat.le_of_ble_eq_true rfl) (show dtW yX12_laysHeard cX12_laysHeard 3 (some .int) 4 (some (.int r)) F 0 [some (.ref p0), some (.int p1)] [] μ from ?_)
  rw [f_X12_laysHeard] at h
  refine dr_aload_n p0 dX12_laysHeard_0 rfl ?_
  refine dr_aload_n p0 dX12_laysHeard_1 rfl ?_
  refine dr_iload_n p1 dX12_laysHeard_2 rfl ?_
  refine dr_iconst (3 : Int32) dX12_laysHeard_3 (by decide) ?_
  obtain ⟨_, hb1, h⟩ := dtBind h
  obtain ⟨x4, μ2, e3, h⟩ := dtCall h
  refine dr_callV_i (S0 := [.ref p0]) [.int p1, .int (3 : Int32)] x4 μ2 dX12_laysHeard_4 (c_X12_personOf p0 p1 (3 : Int32) μ e3) mf_X12_personOf wt_1736 ws_96 wt_1734 rfl (dtRv hb1) (by decide) rfl (Nat.le_of_ble_eq_true rfl) (Nat.le_of_ble_eq_true rfl) rfl ?_
  obtain ⟨μ5, e6, h⟩ := dtBind h
  refine dr_putI μ5 dX12_laysHeard_7 fl_RX12_376 rfl e6 ?_
  refine dr_iconst (0 : Int32) dX12_laysHeard_10 (by decide) ?_
  refine dr_istore_n 2 [some (.ref p0), some (.int p1), some (.int (0 : Int32))] dX12_laysHeard_11 rfl rfl rfl rfl ?_
  exact c_X12_laysHeard_12 dtFuel p0 p1 (0 : Int32) μ5 h
/-! X12_firstWord -/
theorem dX12_firstWord_0 : decode cX12_firstWord 0 = .ok (.iconst 0, 1) := by decide +kernel
theorem dX12_firstWord_1 : decode cX12_firstWord 1 = .ok (.istore_n 3, 1) := by decide +kernel
theorem dX12_firstWord_2 : decode cX12_firstWord 2 = .ok (.aload_n 0, 1) := by decide +kernel
theorem dX12_firstWord_3 : decode cX12_firstWord 3 = .ok (.iload_n 1, 1) := by decide +kernel
theorem dX12_firstWord_4 : decode cX12_firstWord 4 = .ok (.iload_n 3, 1) := by decide +kernel
theorem dX12_firstWord_5 : decode cX12_firstWord 5 = .ok (.invokevirtual 241, 3) := by decide +kernel
theorem dX12_firstWord_8 : decode cX12_firstWord 8 = .ok (.ifCond .eq 31, 3) := by decide +kernel
theorem dX12_firstWord_11 : decode cX12_firstWord 11 = .ok (.aload_n 0, 1) := by decide +kernel
theorem dX12_firstWord_12 : decode cX12_firstWord 12 = .ok (.iload_n 3, 1) := by decide +kernel
theorem dX12_firstWord_13 : decode cX12_firstWord 13 = .ok (.iload_n 2, 1) := by decide +kernel
theorem dX12_firstWord_14 : decode cX12_firstWord 14 = .ok (.invokevirtual 379, 3) := by decide +kernel
theorem dX12_firstWord_17 : decode cX12_firstWord 17 = .ok (.ifCond .eq 22, 3) := by decide +kernel
theorem dX12_firstWord_20 : decode cX12_firstWord 20 = .ok (.aload_n 0, 1) := by decide +kernel
theorem dX12_firstWord_21 : decode cX12_firstWord 21 = .ok (.getfield 53, 3) := by decide +kernel
theorem dX12_firstWord_24 : decode cX12_firstWord 24 = .ok (.iload_n 2, 1) := by decide +kernel
theorem dX12_firstWord_25 : decode cX12_firstWord 25 = .ok (.aload_n 0, 1) := by decide +kernel
theorem dX12_firstWord_26 : decode cX12_firstWord 26 = .ok (.getfield 7, 3) := by decide +kernel
theorem dX12_firstWord_29 : decode cX12_firstWord 29 = .ok (.iload_n 3, 1) := by decide +kernel
theorem dX12_firstWord_30 : decode cX12_firstWord 30 = .ok (.invokestatic 222, 3) := by decide +kernel
theorem dX12_firstWord_33 : decode cX12_firstWord 33 = .ok (.iaload, 1) := by decide +kernel
theorem dX12_firstWord_34 : decode cX12_firstWord 34 = .ok (.iadd, 1) := by decide +kernel
theorem dX12_firstWord_35 : decode cX12_firstWord 35 = .ok (.iaload, 1) := by decide +kernel
theorem dX12_firstWord_36 : decode cX12_firstWord 36 = .ok (.ifCond .ne 9, 3) := by decide +kernel
theorem dX12_firstWord_39 : decode cX12_firstWord 39 = .ok (.iinc 3 1, 3) := by decide +kernel
theorem dX12_firstWord_42 : decode cX12_firstWord 42 = .ok (.goto (-40), 3) := by decide +kernel
theorem dX12_firstWord_45 : decode cX12_firstWord 45 = .ok (.iload_n 3, 1) := by decide +kernel
theorem dX12_firstWord_46 : decode cX12_firstWord 46 = .ok (.ireturn, 1) := by decide +kernel
set_option maxRecDepth 100000 in
def f_X12_firstWord_39 (k2 : Nat → Int32 → Int32 → Int32 → dtM → Option (Int32 × dtM)) (l0 : Nat) (l1 : Int32) (l2 : Int32) (l3 : Int32) (μ : dtM) : Option (Int32 × dtM) :=
  k2 l0 l1 l2 (l3 + 1) μ
set_option maxRecDepth 100000 in
def f_X12_firstWord_2 : Nat → Nat → Int32 → Int32 → Int32 → dtM → Option (Int32 × dtM)
  | 0, _, _, _, _, _ => none
  | n + 1, l0, l1, l2, l3, μ =>
    (opRv 12 μ l0).bind fun _ => opCall (f_X12_isIn l0 l1 l3 μ) fun x4 μ2 => if x4 = 0 then (f_X12_firstWord_39 (f_X12_firstWord_2 n) l0 l1 l2 l3 μ2) else ((opRv 12 μ2 l0).bind fun _ => opCall (f_X12_isSaid l0 l3 l2 μ2) fun x11 μ9 => if x11 = 0 then (f_X12_firstWord_39 (f_X12_firstWord_2 n) l0 l1 l2 l3 μ9) else ((opGR 12 26 μ9 l0).bind fun x15 => (opGR 12 0 μ9 l0).bind fun x17 => opCall (f_X12_wordRow l3 μ9) fun x21 μ19 => (opLI 1 μ19 x17 x21).bind fun x22 => (opLI 1 μ19 x15 (l2 + x22)).bind fun x24 => if x24 = 0 then (f_X12_firstWord_39 (f_X12_firstWord_2 n) l0 l1 l2 l3 μ19) else (some (l3, μ19))))
set_option maxRecDepth 100000 in
def f_X12_firstWord (p0 : Nat) (p1 : Int32) (p2 : Int32) (μ : dtM) : Option (Int32 × dtM) :=
  f_X12_firstWord_2 dtFuel p0 p1 p2 (0 : Int32) μ
set_option maxRecDepth 100000 in
theorem c_X12_firstWord_39 {r : Int32} {F : dtM} (k2 : Nat → Int32 → Int32 → Int32 → dtM → Option (Int32 × dtM)) (hk2 : ∀ (l0 : Nat) (l1 : Int32) (l2 : Int32) (l3 : Int32) (μ : dtM), k2 l0 l1 l2 l3 μ = some (r, F) → dtW yX12_firstWord cX12_firstWord 4 (some .int) 3 (some (.int r)) F 2 [some (.ref l0), some (.int l1), some (.int l2), some (.int l3)] [] μ) (l0 : Nat) (l1 : Int32) (l2 : Int32) (l3 : Int32) (μ : dtM) (h : f_X12_firstWord_39 k2 l0 l1 l2 l3 μ = some (r, F)) : dtW yX12_firstWord cX12_firstWord 4 (some .int) 3 (some (.int r)) F 39 [some (.ref l0), some (.int l1), some (.int l2), some (.int l3)] [] μ := by
  rw [f_X12_firstWord_39] at h
  refine dr_iinc l3 (l3 + 1) [some (.ref l0), some (.int l1), some (.int l2), some (.int (l3 + 1))] dX12_firstWord_39 rfl rfl rfl rfl rfl ?_
  refine dr_goto 2 dX12_firstWord_42 (by decide) ?_
  exact hk2 l0 l1 l2 (l3 + 1) μ h
set_option maxRecDepth 100000 in
theorem c_X12_firstWord_2 {r : Int32} {F : dtM} : ∀ (n : Nat) (l0 : Nat) (l1 : Int32) (l2 : Int32) (l3 : Int32) (μ : dtM), f_X12_firstWord_2 n l0 l1 l2 l3 μ = some (r, F) → dtW yX12_firstWord cX12_firstWord 4 (some .int) 3 (some (.int r)) F 2 [some (.ref l0), some (.int l1), some (.int l2), some (.int l3)] [] μ := by
  intro n
  induction n with
  | zero => intro l0 l1 l2 l3 μ h; cases h
  | succ n ih =>
    intro l0 l1 l2 l3 μ h
    have h := (show f_X12_firstWord_2 (n + 1) l0 l1 l2 l3 μ = some _ from h)
    rw [f_X12_firstWord_2] at h
    refine dr_aload_n l0 dX12_firstWord_2 rfl ?_
    refine dr_iload_n l1 dX12_firstWord_3 rfl ?_
    refine dr_iload_n l3 dX12_firstWord_4 rfl ?_
    obtain ⟨_, hb1, h⟩ := dtBind h
    obtain ⟨x4, μ2, e3, h⟩ := dtCall h
    refine dr_callV_i (S0 := []) [.int l1, .int l3] x4 μ2 dX12_firstWord_5 (c_X12_isIn l0 l1 l3 μ e3) mf_X12_isIn wt_1656 ws_82 wt_1654 rfl (dtRv hb1) (by decide) rfl (Nat.le_of_ble_eq_true rfl) (Nat.le_of_ble_eq_true rfl) rfl ?_
    obtain ⟨ht6, hf7⟩ := dtIte h
    refine dr_if_eq 39 dX12_firstWord_8 (by decide) (fun hc5 => ?_) (fun hc5 => ?_)
    · have h := ht6 hc5
      exact c_X12_firstWord_39 (f_X12_firstWord_2 n) ih l0 l1 l2 l3 μ2 h
    · have h := hf7 hc5
      refine dr_aload_n l0 dX12_firstWord_11 rfl ?_
      refine dr_iload_n l3 dX12_firstWord_12 rfl ?_
      refine dr_iload_n l2 dX12_firstWord_13 rfl ?_
      obtain ⟨_, hb8, h⟩ := dtBind h
      obtain ⟨x11, μ9, e10, h⟩ := dtCall h
      refine dr_callV_i (S0 := []) [.int l3, .int l2] x11 μ9 dX12_firstWord_14 (c_X12_isSaid l0 l3 l2 μ2 e10) mf_X12_isSaid wt_1889 ws_113 wt_1887 rfl (dtRv hb8) (by decide) rfl (Nat.le_of_ble_eq_true rfl) (Nat.le_of_ble_eq_true rfl) rfl ?_
      obtain ⟨ht13, hf14⟩ := dtIte h
      refine dr_if_eq 39 dX12_firstWord_17 (by decide) (fun hc12 => ?_) (fun hc12 => ?_)
      · have h := ht13 hc12
        exact c_X12_firstWord_39 (f_X12_firstWord_2 n) ih l0 l1 l2 l3 μ9 h
      · have h := hf14 hc12
        refine dr_aload_n l0 dX12_firstWord_20 rfl ?_
        obtain ⟨x15, e16, h⟩ := dtBind h
        refine dr_getR x15 dX12_firstWord_21 fl_RX12_53 e16 ?_
        refine dr_iload_n l2 dX12_firstWord_24 rfl ?_
        refine dr_aload_n l0 dX12_firstWord_25 rfl ?_
        obtain ⟨x17, e18, h⟩ := dtBind h
        refine dr_getR x17 dX12_firstWord_26 fl_RX12_7 e18 ?_
        refine dr_iload_n l3 dX12_firstWord_29 rfl ?_
        obtain ⟨x21, μ19, e20, h⟩ := dtCall h
        refine dr_callS_i (S0 := [.ref x17, .int l2, .ref x15]) [.int l3] x21 μ19 dX12_firstWord_30 (c_X12_wordRow l3 μ9 e20) mf_X12_wordRow wt_1625 wt_1624 rfl (Nat.le_of_ble_eq_true rfl) (Nat.le_of_ble_eq_true rfl) rfl ?_
        obtain ⟨x22, e23, h⟩ := dtBind h
        refine dr_iaload x22 dX12_firstWord_33 e23 ?_
        refine dr_iadd dX12_firstWord_34 ?_
        obtain ⟨x24, e25, h⟩ := dtBind h
        refine dr_iaload x24 dX12_firstWord_35 e25 ?_
        obtain ⟨ht27, hf28⟩ := dtIte h
        refine dr_if_ne 45 dX12_firstWord_36 (by decide) (fun hc26 => ?_) (fun hc26 => ?_)
        · have h := hf28 hc26
          refine dr_iload_n l3 dX12_firstWord_45 rfl ?_
          cases h
          exact dr_ireturn dX12_firstWord_46 rfl
        · have h := ht27 hc26
          exact c_X12_firstWord_39 (f_X12_firstWord_2 n) ih l0 l1 l2 l3 μ19 h
set_option maxRecDepth 100000 in
theorem c_X12_firstWord {r : Int32} {F : dtM} (p0 : Nat) (p1 : Int32) (p2 : Int32) (μ : dtM) (h : f_X12_firstWord p0 p1 p2 μ = some (r, F)) : dtMet yX12_firstWord cX12_firstWord 4 (some .int) 3 [.ref p0, .int p1, .int p2] μ (some (.int r)) F := by
  refine dtMet.of (by decide +kernel) (Nat.le_of_ble_eq_true rfl) (show dtW yX12_firstWord cX12_firstWord 4 (some .int) 3 (some (.int r)) F 0 [some (.ref p0), some (.int p1), some (.int p2)] [] μ from ?_)
  rw [f_X12_firstWord] at h
  refine dr_iconst (0 : Int32) dX12_firstWord_0 (by decide) ?_
  refine dr_istore_n 3 [some (.ref p0), some (.int p1), some (.int p2), some (.int (0 : Int32))] dX12_firstWord_1 rfl rfl rfl rfl ?_
  exact c_X12_firstWord_2 dtFuel p0 p1 p2 (0 : Int32) μ h
/-! X12_readings -/
theorem dX12_readings_0 : decode cX12_readings 0 = .ok (.aload_n 0, 1) := by decide +kernel
theorem dX12_readings_1 : decode cX12_readings 1 = .ok (.iload_n 1, 1) := by decide +kernel
theorem dX12_readings_2 : decode cX12_readings 2 = .ok (.invokevirtual 307, 3) := by decide +kernel
theorem dX12_readings_5 : decode cX12_readings 5 = .ok (.ifCond .eq 15, 3) := by decide +kernel
theorem dX12_readings_8 : decode cX12_readings 8 = .ok (.aload_n 0, 1) := by decide +kernel
theorem dX12_readings_9 : decode cX12_readings 9 = .ok (.aload_n 0, 1) := by decide +kernel
theorem dX12_readings_10 : decode cX12_readings 10 = .ok (.iload_n 1, 1) := by decide +kernel
theorem dX12_readings_11 : decode cX12_readings 11 = .ok (.invokevirtual 385, 3) := by decide +kernel
theorem dX12_readings_14 : decode cX12_readings 14 = .ok (.invokevirtual 97, 3) := by decide +kernel
theorem dX12_readings_17 : decode cX12_readings 17 = .ok (.goto 8, 3) := by decide +kernel
theorem dX12_readings_20 : decode cX12_readings 20 = .ok (.aload_n 0, 1) := by decide +kernel
theorem dX12_readings_21 : decode cX12_readings 21 = .ok (.iconst 1, 1) := by decide +kernel
theorem dX12_readings_22 : decode cX12_readings 22 = .ok (.invokevirtual 93, 3) := by decide +kernel
theorem dX12_readings_25 : decode cX12_readings 25 = .ok (.ireturn, 1) := by decide +kernel
set_option maxRecDepth 100000 in
def f_X12_readings_25 (s0 : Int32) (μ : dtM) : Option (Int32 × dtM) :=
  some (s0, μ)
set_option maxRecDepth 100000 in
def f_X12_readings (p0 : Nat) (p1 : Int32) (μ : dtM) : Option (Int32 × dtM) :=
  (opRv 12 μ p0).bind fun _ => opCall (f_X12_isPerson p0 p1 μ) fun x4 μ2 => if x4 = 0 then ((opRv 12 μ2 p0).bind fun _ => opCall (f_X12_refuse p0 (1 : Int32) μ2) fun x11 μ9 => f_X12_readings_25 x11 μ9) else ((opRv 12 μ2 p0).bind fun _ => opCall (f_X12_laysHeard p0 p1 μ2) fun x15 μ13 => (opRv 12 μ13 p0).bind fun _ => opCall (f_X12_gives p0 x15 μ13) fun x19 μ17 => f_X12_readings_25 x19 μ17)
set_option maxRecDepth 100000 in
theorem c_X12_readings_25 {r : Int32} {F : dtM} (s0 : Int32) (μ : dtM) (h : f_X12_readings_25 s0 μ = some (r, F)) : dtW yX12_readings cX12_readings 2 (some .int) 5 (some (.int r)) F 25 [] [.int s0] μ := by
  rw [f_X12_readings_25] at h
  cases h
  exact dr_ireturn dX12_readings_25 rfl
set_option maxRecDepth 100000 in
theorem c_X12_readings {r : Int32} {F : dtM} (p0 : Nat) (p1 : Int32) (μ : dtM) (h : f_X12_readings p0 p1 μ = some (r, F)) : dtMet yX12_readings cX12_readings 2 (some .int) 5 [.ref p0, .int p1] μ (some (.int r)) F := by
  refine dtMet.of (by decide +kernel) (Nat.le_of_ble_eq_true rfl) (show dtW yX12_readings cX12_readings 2 (some .int) 5 (some (.int r)) F 0 [some (.ref p0), some (.int p1)] [] μ from ?_)
  rw [f_X12_readings] at h
  refine dr_aload_n p0 dX12_readings_0 rfl ?_
  refine dr_iload_n p1 dX12_readings_1 rfl ?_
  obtain ⟨_, hb1, h⟩ := dtBind h
  obtain ⟨x4, μ2, e3, h⟩ := dtCall h
  refine dr_callV_i (S0 := []) [.int p1] x4 μ2 dX12_readings_2 (c_X12_isPerson p0 p1 μ e3) mf_X12_isPerson wt_1732 ws_95 wt_1730 rfl (dtRv hb1) (by decide) rfl (Nat.le_of_ble_eq_true rfl) (Nat.le_of_ble_eq_true rfl) rfl ?_
  obtain ⟨ht6, hf7⟩ := dtIte h
  refine dr_if_eq 20 dX12_readings_5 (by decide) (fun hc5 => ?_) (fun hc5 => ?_)
  · have h := ht6 hc5
    refine dr_aload_n p0 dX12_readings_20 rfl ?_
    refine dr_iconst (1 : Int32) dX12_readings_21 (by decide) ?_
    obtain ⟨_, hb8, h⟩ := dtBind h
    obtain ⟨x11, μ9, e10, h⟩ := dtCall h
    refine dr_callV_i (S0 := []) [.int (1 : Int32)] x11 μ9 dX12_readings_22 (c_X12_refuse p0 (1 : Int32) μ2 e10) mf_X12_refuse wt_1552 ws_59 wt_1550 rfl (dtRv hb8) (by decide) rfl (Nat.le_of_ble_eq_true rfl) (Nat.le_of_ble_eq_true rfl) rfl ?_
    refine dr_mask [] [] rfl ?_
    exact c_X12_readings_25 x11 μ9 h
  · have h := hf7 hc5
    refine dr_aload_n p0 dX12_readings_8 rfl ?_
    refine dr_aload_n p0 dX12_readings_9 rfl ?_
    refine dr_iload_n p1 dX12_readings_10 rfl ?_
    obtain ⟨_, hb12, h⟩ := dtBind h
    obtain ⟨x15, μ13, e14, h⟩ := dtCall h
    refine dr_callV_i (S0 := [.ref p0]) [.int p1] x15 μ13 dX12_readings_11 (c_X12_laysHeard p0 p1 μ2 e14) mf_X12_laysHeard wt_1881 ws_111 wt_1879 rfl (dtRv hb12) (by decide) rfl (Nat.le_of_ble_eq_true rfl) (Nat.le_of_ble_eq_true rfl) rfl ?_
    obtain ⟨_, hb16, h⟩ := dtBind h
    obtain ⟨x19, μ17, e18, h⟩ := dtCall h
    refine dr_callV_i (S0 := []) [.int x15] x19 μ17 dX12_readings_14 (c_X12_gives p0 x15 μ13 e18) mf_X12_gives wt_1668 ws_85 wt_1666 rfl (dtRv hb16) (by decide) rfl (Nat.le_of_ble_eq_true rfl) (Nat.le_of_ble_eq_true rfl) rfl ?_
    refine dr_goto 25 dX12_readings_17 (by decide) ?_
    refine dr_mask [] [] rfl ?_
    exact c_X12_readings_25 x19 μ17 h
/-! X12_first -/
theorem dX12_first_0 : decode cX12_first 0 = .ok (.aload_n 0, 1) := by decide +kernel
theorem dX12_first_1 : decode cX12_first 1 = .ok (.iload_n 1, 1) := by decide +kernel
theorem dX12_first_2 : decode cX12_first 2 = .ok (.invokevirtual 307, 3) := by decide +kernel
theorem dX12_first_5 : decode cX12_first 5 = .ok (.ifCond .ne 9, 3) := by decide +kernel
theorem dX12_first_8 : decode cX12_first 8 = .ok (.aload_n 0, 1) := by decide +kernel
theorem dX12_first_9 : decode cX12_first 9 = .ok (.iconst 1, 1) := by decide +kernel
theorem dX12_first_10 : decode cX12_first 10 = .ok (.invokevirtual 93, 3) := by decide +kernel
theorem dX12_first_13 : decode cX12_first 13 = .ok (.ireturn, 1) := by decide +kernel
theorem dX12_first_14 : decode cX12_first 14 = .ok (.aload_n 0, 1) := by decide +kernel
theorem dX12_first_15 : decode cX12_first 15 = .ok (.iload_n 1, 1) := by decide +kernel
theorem dX12_first_16 : decode cX12_first 16 = .ok (.invokevirtual 385, 3) := by decide +kernel
theorem dX12_first_19 : decode cX12_first 19 = .ok (.ifCond .ne 10, 3) := by decide +kernel
theorem dX12_first_22 : decode cX12_first 22 = .ok (.aload_n 0, 1) := by decide +kernel
theorem dX12_first_23 : decode cX12_first 23 = .ok (.bipush 6, 2) := by decide +kernel
theorem dX12_first_25 : decode cX12_first 25 = .ok (.invokevirtual 93, 3) := by decide +kernel
theorem dX12_first_28 : decode cX12_first 28 = .ok (.ireturn, 1) := by decide +kernel
theorem dX12_first_29 : decode cX12_first 29 = .ok (.iconst 0, 1) := by decide +kernel
theorem dX12_first_30 : decode cX12_first 30 = .ok (.istore_n 2, 1) := by decide +kernel
theorem dX12_first_31 : decode cX12_first 31 = .ok (.iconst 0, 1) := by decide +kernel
theorem dX12_first_32 : decode cX12_first 32 = .ok (.istore_n 3, 1) := by decide +kernel
theorem dX12_first_33 : decode cX12_first 33 = .ok (.iload_n 3, 1) := by decide +kernel
theorem dX12_first_34 : decode cX12_first 34 = .ok (.aload_n 0, 1) := by decide +kernel
theorem dX12_first_35 : decode cX12_first 35 = .ok (.getfield 376, 3) := by decide +kernel
theorem dX12_first_38 : decode cX12_first 38 = .ok (.if_icmp .ge 31, 3) := by decide +kernel
theorem dX12_first_41 : decode cX12_first 41 = .ok (.iload_n 3, 1) := by decide +kernel
theorem dX12_first_42 : decode cX12_first 42 = .ok (.aload_n 0, 1) := by decide +kernel
theorem dX12_first_43 : decode cX12_first 43 = .ok (.getfield 7, 3) := by decide +kernel
theorem dX12_first_46 : decode cX12_first 46 = .ok (.aload_n 0, 1) := by decide +kernel
theorem dX12_first_47 : decode cX12_first 47 = .ok (.aload_n 0, 1) := by decide +kernel
theorem dX12_first_48 : decode cX12_first 48 = .ok (.iload_n 1, 1) := by decide +kernel
theorem dX12_first_49 : decode cX12_first 49 = .ok (.iconst 2, 1) := by decide +kernel
theorem dX12_first_50 : decode cX12_first 50 = .ok (.invokevirtual 295, 3) := by decide +kernel
theorem dX12_first_53 : decode cX12_first 53 = .ok (.iload_n 3, 1) := by decide +kernel
theorem dX12_first_54 : decode cX12_first 54 = .ok (.invokevirtual 388, 3) := by decide +kernel
theorem dX12_first_57 : decode cX12_first 57 = .ok (.invokestatic 222, 3) := by decide +kernel
theorem dX12_first_60 : decode cX12_first 60 = .ok (.iaload, 1) := by decide +kernel
theorem dX12_first_61 : decode cX12_first 61 = .ok (.iadd, 1) := by decide +kernel
theorem dX12_first_62 : decode cX12_first 62 = .ok (.istore_n 3, 1) := by decide +kernel
theorem dX12_first_63 : decode cX12_first 63 = .ok (.iinc 2 1, 3) := by decide +kernel
theorem dX12_first_66 : decode cX12_first 66 = .ok (.goto (-33), 3) := by decide +kernel
theorem dX12_first_69 : decode cX12_first 69 = .ok (.aload_n 0, 1) := by decide +kernel
theorem dX12_first_70 : decode cX12_first 70 = .ok (.iload_n 2, 1) := by decide +kernel
theorem dX12_first_71 : decode cX12_first 71 = .ok (.invokevirtual 97, 3) := by decide +kernel
theorem dX12_first_74 : decode cX12_first 74 = .ok (.ireturn, 1) := by decide +kernel
set_option maxRecDepth 100000 in
def f_X12_first_33 : Nat → Nat → Int32 → Int32 → Int32 → dtM → Option (Int32 × dtM)
  | 0, _, _, _, _, _ => none
  | n + 1, l0, l1, l2, l3, μ =>
    (opGI 12 27 μ l0).bind fun x1 => if x1 ≤ l3 then ((opRv 12 μ l0).bind fun _ => opCall (f_X12_gives l0 l2 μ) fun x9 μ7 => some (x9, μ7)) else ((opGR 12 0 μ l0).bind fun x10 => (opRv 12 μ l0).bind fun _ => opCall (f_X12_personOf l0 l1 (2 : Int32) μ) fun x15 μ13 => (opRv 12 μ13 l0).bind fun _ => opCall (f_X12_firstWord l0 x15 l3 μ13) fun x19 μ17 => opCall (f_X12_wordRow x19 μ17) fun x22 μ20 => (opLI 1 μ20 x10 x22).bind fun x23 => (some (l3 + x23)).bind fun x25 => f_X12_first_33 n l0 l1 (l2 + 1) x25 μ20)
set_option maxRecDepth 100000 in
def f_X12_first (p0 : Nat) (p1 : Int32) (μ : dtM) : Option (Int32 × dtM) :=
  (opRv 12 μ p0).bind fun _ => opCall (f_X12_isPerson p0 p1 μ) fun x4 μ2 => if x4 = 0 then ((opRv 12 μ2 p0).bind fun _ => opCall (f_X12_refuse p0 (1 : Int32) μ2) fun x22 μ20 => some (x22, μ20)) else ((opRv 12 μ2 p0).bind fun _ => opCall (f_X12_laysHeard p0 p1 μ2) fun x11 μ9 => if x11 = 0 then ((opRv 12 μ9 p0).bind fun _ => opCall (f_X12_refuse p0 (6 : Int32) μ9) fun x18 μ16 => some (x18, μ16)) else (f_X12_first_33 dtFuel p0 p1 (0 : Int32) (0 : Int32) μ9))
set_option maxRecDepth 100000 in
theorem c_X12_first_33 {r : Int32} {F : dtM} : ∀ (n : Nat) (l0 : Nat) (l1 : Int32) (l2 : Int32) (l3 : Int32) (μ : dtM), f_X12_first_33 n l0 l1 l2 l3 μ = some (r, F) → dtW yX12_first cX12_first 4 (some .int) 5 (some (.int r)) F 33 [some (.ref l0), some (.int l1), some (.int l2), some (.int l3)] [] μ := by
  intro n
  induction n with
  | zero => intro l0 l1 l2 l3 μ h; cases h
  | succ n ih =>
    intro l0 l1 l2 l3 μ h
    have h := (show f_X12_first_33 (n + 1) l0 l1 l2 l3 μ = some _ from h)
    rw [f_X12_first_33] at h
    refine dr_iload_n l3 dX12_first_33 rfl ?_
    refine dr_aload_n l0 dX12_first_34 rfl ?_
    obtain ⟨x1, e2, h⟩ := dtBind h
    refine dr_getI x1 dX12_first_35 fl_RX12_376 e2 ?_
    obtain ⟨ht4, hf5⟩ := dtIte h
    refine dr_icmp_ge 69 dX12_first_38 (by decide) (fun hc3 => ?_) (fun hc3 => ?_)
    · have h := ht4 hc3
      refine dr_aload_n l0 dX12_first_69 rfl ?_
      refine dr_iload_n l2 dX12_first_70 rfl ?_
      obtain ⟨_, hb6, h⟩ := dtBind h
      obtain ⟨x9, μ7, e8, h⟩ := dtCall h
      refine dr_callV_i (S0 := []) [.int l2] x9 μ7 dX12_first_71 (c_X12_gives l0 l2 μ e8) mf_X12_gives wt_1668 ws_85 wt_1666 rfl (dtRv hb6) (by decide) rfl (Nat.le_of_ble_eq_true rfl) (Nat.le_of_ble_eq_true rfl) rfl ?_
      cases h
      exact dr_ireturn dX12_first_74 rfl
    · have h := hf5 hc3
      refine dr_iload_n l3 dX12_first_41 rfl ?_
      refine dr_aload_n l0 dX12_first_42 rfl ?_
      obtain ⟨x10, e11, h⟩ := dtBind h
      refine dr_getR x10 dX12_first_43 fl_RX12_7 e11 ?_
      refine dr_aload_n l0 dX12_first_46 rfl ?_
      refine dr_aload_n l0 dX12_first_47 rfl ?_
      refine dr_iload_n l1 dX12_first_48 rfl ?_
      refine dr_iconst (2 : Int32) dX12_first_49 (by decide) ?_
      obtain ⟨_, hb12, h⟩ := dtBind h
      obtain ⟨x15, μ13, e14, h⟩ := dtCall h
      refine dr_callV_i (S0 := [.ref l0, .ref x10, .int l3]) [.int l1, .int (2 : Int32)] x15 μ13 dX12_first_50 (c_X12_personOf l0 l1 (2 : Int32) μ e14) mf_X12_personOf wt_1736 ws_96 wt_1734 rfl (dtRv hb12) (by decide) rfl (Nat.le_of_ble_eq_true rfl) (Nat.le_of_ble_eq_true rfl) rfl ?_
      refine dr_iload_n l3 dX12_first_53 rfl ?_
      obtain ⟨_, hb16, h⟩ := dtBind h
      obtain ⟨x19, μ17, e18, h⟩ := dtCall h
      refine dr_callV_i (S0 := [.ref x10, .int l3]) [.int x15, .int l3] x19 μ17 dX12_first_54 (c_X12_firstWord l0 x15 l3 μ13 e18) mf_X12_firstWord wt_1897 ws_114 wt_1895 rfl (dtRv hb16) (by decide) rfl (Nat.le_of_ble_eq_true rfl) (Nat.le_of_ble_eq_true rfl) rfl ?_
      obtain ⟨x22, μ20, e21, h⟩ := dtCall h
      refine dr_callS_i (S0 := [.ref x10, .int l3]) [.int x19] x22 μ20 dX12_first_57 (c_X12_wordRow x19 μ17 e21) mf_X12_wordRow wt_1625 wt_1624 rfl (Nat.le_of_ble_eq_true rfl) (Nat.le_of_ble_eq_true rfl) rfl ?_
      obtain ⟨x23, e24, h⟩ := dtBind h
      refine dr_iaload x23 dX12_first_60 e24 ?_
      refine dr_iadd dX12_first_61 ?_
      obtain ⟨x25, e26, h⟩ := dtBind h
      refine dr_nmi e26 ?_
      refine dr_istore_n 3 [some (.ref l0), some (.int l1), some (.int l2), some (.int x25)] dX12_first_62 rfl rfl rfl rfl ?_
      refine dr_iinc l2 (l2 + 1) [some (.ref l0), some (.int l1), some (.int (l2 + 1)), some (.int x25)] dX12_first_63 rfl rfl rfl rfl rfl ?_
      refine dr_goto 33 dX12_first_66 (by decide) ?_
      exact ih l0 l1 (l2 + 1) x25 μ20 h
set_option maxRecDepth 100000 in
theorem c_X12_first {r : Int32} {F : dtM} (p0 : Nat) (p1 : Int32) (μ : dtM) (h : f_X12_first p0 p1 μ = some (r, F)) : dtMet yX12_first cX12_first 4 (some .int) 5 [.ref p0, .int p1] μ (some (.int r)) F := by
  refine dtMet.of (by decide +kernel) (Nat.le_of_ble_eq_true rfl) (show dtW yX12_first cX12_first 4 (some .int) 5 (some (.int r)) F 0 [some (.ref p0), some (.int p1)] [] μ from ?_)
  rw [f_X12_first] at h
  refine dr_aload_n p0 dX12_first_0 rfl ?_
  refine dr_iload_n p1 dX12_first_1 rfl ?_
  obtain ⟨_, hb1, h⟩ := dtBind h
  obtain ⟨x4, μ2, e3, h⟩ := dtCall h
  refine dr_callV_i (S0 := []) [.int p1] x4 μ2 dX12_first_2 (c_X12_isPerson p0 p1 μ e3) mf_X12_isPerson wt_1732 ws_95 wt_1730 rfl (dtRv hb1) (by decide) rfl (Nat.le_of_ble_eq_true rfl) (Nat.le_of_ble_eq_true rfl) rfl ?_
  obtain ⟨ht6, hf7⟩ := dtIte h
  refine dr_if_ne 14 dX12_first_5 (by decide) (fun hc5 => ?_) (fun hc5 => ?_)
  · have h := hf7 hc5
    refine dr_aload_n p0 dX12_first_14 rfl ?_
    refine dr_iload_n p1 dX12_first_15 rfl ?_
    obtain ⟨_, hb8, h⟩ := dtBind h
    obtain ⟨x11, μ9, e10, h⟩ := dtCall h
    refine dr_callV_i (S0 := []) [.int p1] x11 μ9 dX12_first_16 (c_X12_laysHeard p0 p1 μ2 e10) mf_X12_laysHeard wt_1881 ws_111 wt_1879 rfl (dtRv hb8) (by decide) rfl (Nat.le_of_ble_eq_true rfl) (Nat.le_of_ble_eq_true rfl) rfl ?_
    obtain ⟨ht13, hf14⟩ := dtIte h
    refine dr_if_ne 29 dX12_first_19 (by decide) (fun hc12 => ?_) (fun hc12 => ?_)
    · have h := hf14 hc12
      refine dr_iconst (0 : Int32) dX12_first_29 (by decide) ?_
      refine dr_istore_n 2 [some (.ref p0), some (.int p1), some (.int (0 : Int32))] dX12_first_30 rfl rfl rfl rfl ?_
      refine dr_iconst (0 : Int32) dX12_first_31 (by decide) ?_
      refine dr_istore_n 3 [some (.ref p0), some (.int p1), some (.int (0 : Int32)), some (.int (0 : Int32))] dX12_first_32 rfl rfl rfl rfl ?_
      exact c_X12_first_33 dtFuel p0 p1 (0 : Int32) (0 : Int32) μ9 h
    · have h := ht13 hc12
      refine dr_aload_n p0 dX12_first_22 rfl ?_
      refine dr_bipush (6 : Int32) dX12_first_23 (by decide) ?_
      obtain ⟨_, hb15, h⟩ := dtBind h
      obtain ⟨x18, μ16, e17, h⟩ := dtCall h
      refine dr_callV_i (S0 := []) [.int (6 : Int32)] x18 μ16 dX12_first_25 (c_X12_refuse p0 (6 : Int32) μ9 e17) mf_X12_refuse wt_1552 ws_59 wt_1550 rfl (dtRv hb15) (by decide) rfl (Nat.le_of_ble_eq_true rfl) (Nat.le_of_ble_eq_true rfl) rfl ?_
      cases h
      exact dr_ireturn dX12_first_28 rfl
  · have h := ht6 hc5
    refine dr_aload_n p0 dX12_first_8 rfl ?_
    refine dr_iconst (1 : Int32) dX12_first_9 (by decide) ?_
    obtain ⟨_, hb19, h⟩ := dtBind h
    obtain ⟨x22, μ20, e21, h⟩ := dtCall h
    refine dr_callV_i (S0 := []) [.int (1 : Int32)] x22 μ20 dX12_first_10 (c_X12_refuse p0 (1 : Int32) μ2 e21) mf_X12_refuse wt_1552 ws_59 wt_1550 rfl (dtRv hb19) (by decide) rfl (Nat.le_of_ble_eq_true rfl) (Nat.le_of_ble_eq_true rfl) rfl ?_
    cases h
    exact dr_ireturn dX12_first_13 rfl
/-! X12_firstAt -/
theorem dX12_firstAt_0 : decode cX12_firstAt 0 = .ok (.aload_n 0, 1) := by decide +kernel
theorem dX12_firstAt_1 : decode cX12_firstAt 1 = .ok (.iload_n 1, 1) := by decide +kernel
theorem dX12_firstAt_2 : decode cX12_firstAt 2 = .ok (.invokevirtual 307, 3) := by decide +kernel
theorem dX12_firstAt_5 : decode cX12_firstAt 5 = .ok (.ifCond .eq 7, 3) := by decide +kernel
theorem dX12_firstAt_8 : decode cX12_firstAt 8 = .ok (.iload_n 2, 1) := by decide +kernel
theorem dX12_firstAt_9 : decode cX12_firstAt 9 = .ok (.ifCond .ge 9, 3) := by decide +kernel
theorem dX12_firstAt_12 : decode cX12_firstAt 12 = .ok (.aload_n 0, 1) := by decide +kernel
theorem dX12_firstAt_13 : decode cX12_firstAt 13 = .ok (.iconst 1, 1) := by decide +kernel
theorem dX12_firstAt_14 : decode cX12_firstAt 14 = .ok (.invokevirtual 93, 3) := by decide +kernel
theorem dX12_firstAt_17 : decode cX12_firstAt 17 = .ok (.ireturn, 1) := by decide +kernel
theorem dX12_firstAt_18 : decode cX12_firstAt 18 = .ok (.aload_n 0, 1) := by decide +kernel
theorem dX12_firstAt_19 : decode cX12_firstAt 19 = .ok (.iload_n 1, 1) := by decide +kernel
theorem dX12_firstAt_20 : decode cX12_firstAt 20 = .ok (.invokevirtual 385, 3) := by decide +kernel
theorem dX12_firstAt_23 : decode cX12_firstAt 23 = .ok (.ifCond .ne 10, 3) := by decide +kernel
theorem dX12_firstAt_26 : decode cX12_firstAt 26 = .ok (.aload_n 0, 1) := by decide +kernel
theorem dX12_firstAt_27 : decode cX12_firstAt 27 = .ok (.bipush 6, 2) := by decide +kernel
theorem dX12_firstAt_29 : decode cX12_firstAt 29 = .ok (.invokevirtual 93, 3) := by decide +kernel
theorem dX12_firstAt_32 : decode cX12_firstAt 32 = .ok (.ireturn, 1) := by decide +kernel
theorem dX12_firstAt_33 : decode cX12_firstAt 33 = .ok (.iconst 0, 1) := by decide +kernel
theorem dX12_firstAt_34 : decode cX12_firstAt 34 = .ok (.istore_n 3, 1) := by decide +kernel
theorem dX12_firstAt_35 : decode cX12_firstAt 35 = .ok (.iconst 0, 1) := by decide +kernel
theorem dX12_firstAt_36 : decode cX12_firstAt 36 = .ok (.istore 4, 2) := by decide +kernel
theorem dX12_firstAt_38 : decode cX12_firstAt 38 = .ok (.iload_n 3, 1) := by decide +kernel
theorem dX12_firstAt_39 : decode cX12_firstAt 39 = .ok (.aload_n 0, 1) := by decide +kernel
theorem dX12_firstAt_40 : decode cX12_firstAt 40 = .ok (.getfield 376, 3) := by decide +kernel
theorem dX12_firstAt_43 : decode cX12_firstAt 43 = .ok (.if_icmp .ge 48, 3) := by decide +kernel
theorem dX12_firstAt_46 : decode cX12_firstAt 46 = .ok (.aload_n 0, 1) := by decide +kernel
theorem dX12_firstAt_47 : decode cX12_firstAt 47 = .ok (.aload_n 0, 1) := by decide +kernel
theorem dX12_firstAt_48 : decode cX12_firstAt 48 = .ok (.iload_n 1, 1) := by decide +kernel
theorem dX12_firstAt_49 : decode cX12_firstAt 49 = .ok (.iconst 2, 1) := by decide +kernel
theorem dX12_firstAt_50 : decode cX12_firstAt 50 = .ok (.invokevirtual 295, 3) := by decide +kernel
theorem dX12_firstAt_53 : decode cX12_firstAt 53 = .ok (.iload_n 3, 1) := by decide +kernel
theorem dX12_firstAt_54 : decode cX12_firstAt 54 = .ok (.invokevirtual 388, 3) := by decide +kernel
theorem dX12_firstAt_57 : decode cX12_firstAt 57 = .ok (.istore 5, 2) := by decide +kernel
theorem dX12_firstAt_59 : decode cX12_firstAt 59 = .ok (.iload 4, 2) := by decide +kernel
theorem dX12_firstAt_61 : decode cX12_firstAt 61 = .ok (.iload_n 2, 1) := by decide +kernel
theorem dX12_firstAt_62 : decode cX12_firstAt 62 = .ok (.if_icmp .ne 10, 3) := by decide +kernel
theorem dX12_firstAt_65 : decode cX12_firstAt 65 = .ok (.aload_n 0, 1) := by decide +kernel
theorem dX12_firstAt_66 : decode cX12_firstAt 66 = .ok (.iload 5, 2) := by decide +kernel
theorem dX12_firstAt_68 : decode cX12_firstAt 68 = .ok (.invokevirtual 97, 3) := by decide +kernel
theorem dX12_firstAt_71 : decode cX12_firstAt 71 = .ok (.ireturn, 1) := by decide +kernel
theorem dX12_firstAt_72 : decode cX12_firstAt 72 = .ok (.iload_n 3, 1) := by decide +kernel
theorem dX12_firstAt_73 : decode cX12_firstAt 73 = .ok (.aload_n 0, 1) := by decide +kernel
theorem dX12_firstAt_74 : decode cX12_firstAt 74 = .ok (.getfield 7, 3) := by decide +kernel
theorem dX12_firstAt_77 : decode cX12_firstAt 77 = .ok (.iload 5, 2) := by decide +kernel
theorem dX12_firstAt_79 : decode cX12_firstAt 79 = .ok (.invokestatic 222, 3) := by decide +kernel
theorem dX12_firstAt_82 : decode cX12_firstAt 82 = .ok (.iaload, 1) := by decide +kernel
theorem dX12_firstAt_83 : decode cX12_firstAt 83 = .ok (.iadd, 1) := by decide +kernel
theorem dX12_firstAt_84 : decode cX12_firstAt 84 = .ok (.istore_n 3, 1) := by decide +kernel
theorem dX12_firstAt_85 : decode cX12_firstAt 85 = .ok (.iinc 4 1, 3) := by decide +kernel
theorem dX12_firstAt_88 : decode cX12_firstAt 88 = .ok (.goto (-50), 3) := by decide +kernel
theorem dX12_firstAt_91 : decode cX12_firstAt 91 = .ok (.aload_n 0, 1) := by decide +kernel
theorem dX12_firstAt_92 : decode cX12_firstAt 92 = .ok (.bipush 6, 2) := by decide +kernel
theorem dX12_firstAt_94 : decode cX12_firstAt 94 = .ok (.invokevirtual 93, 3) := by decide +kernel
theorem dX12_firstAt_97 : decode cX12_firstAt 97 = .ok (.ireturn, 1) := by decide +kernel
set_option maxRecDepth 100000 in
def f_X12_firstAt_12 (l0 : Nat) (μ : dtM) : Option (Int32 × dtM) :=
  (opRv 12 μ l0).bind fun _ => opCall (f_X12_refuse l0 (1 : Int32) μ) fun x4 μ2 => some (x4, μ2)
set_option maxRecDepth 100000 in
def f_X12_firstAt_38 : Nat → Nat → Int32 → Int32 → Int32 → Int32 → dtM → Option (Int32 × dtM)
  | 0, _, _, _, _, _, _ => none
  | n + 1, l0, l1, l2, l3, l4, μ =>
    (opGI 12 27 μ l0).bind fun x1 => if x1 ≤ l3 then ((opRv 12 μ l0).bind fun _ => opCall (f_X12_refuse l0 (6 : Int32) μ) fun x9 μ7 => some (x9, μ7)) else ((opRv 12 μ l0).bind fun _ => opCall (f_X12_personOf l0 l1 (2 : Int32) μ) fun x13 μ11 => (opRv 12 μ11 l0).bind fun _ => opCall (f_X12_firstWord l0 x13 l3 μ11) fun x17 μ15 => if l4 = l2 then ((opRv 12 μ15 l0).bind fun _ => opCall (f_X12_gives l0 x17 μ15) fun x33 μ31 => some (x33, μ31)) else ((opGR 12 0 μ15 l0).bind fun x21 => opCall (f_X12_wordRow x17 μ15) fun x25 μ23 => (opLI 1 μ23 x21 x25).bind fun x26 => (some (l3 + x26)).bind fun x28 => f_X12_firstAt_38 n l0 l1 l2 x28 (l4 + 1) μ23))
set_option maxRecDepth 100000 in
def f_X12_firstAt (p0 : Nat) (p1 : Int32) (p2 : Int32) (μ : dtM) : Option (Int32 × dtM) :=
  (opRv 12 μ p0).bind fun _ => opCall (f_X12_isPerson p0 p1 μ) fun x4 μ2 => if x4 = 0 then (f_X12_firstAt_12 p0 μ2) else (if 0 ≤ p2 then ((opRv 12 μ2 p0).bind fun _ => opCall (f_X12_laysHeard p0 p1 μ2) fun x14 μ12 => if x14 = 0 then ((opRv 12 μ12 p0).bind fun _ => opCall (f_X12_refuse p0 (6 : Int32) μ12) fun x21 μ19 => some (x21, μ19)) else (f_X12_firstAt_38 dtFuel p0 p1 p2 (0 : Int32) (0 : Int32) μ12)) else (f_X12_firstAt_12 p0 μ2))
set_option maxRecDepth 100000 in
theorem c_X12_firstAt_12 {r : Int32} {F : dtM} (l0 : Nat) (μ : dtM) (h : f_X12_firstAt_12 l0 μ = some (r, F)) : dtW yX12_firstAt cX12_firstAt 6 (some .int) 5 (some (.int r)) F 12 [some (.ref l0)] [] μ := by
  rw [f_X12_firstAt_12] at h
  refine dr_aload_n l0 dX12_firstAt_12 rfl ?_
  refine dr_iconst (1 : Int32) dX12_firstAt_13 (by decide) ?_
  obtain ⟨_, hb1, h⟩ := dtBind h
  obtain ⟨x4, μ2, e3, h⟩ := dtCall h
  refine dr_callV_i (S0 := []) [.int (1 : Int32)] x4 μ2 dX12_firstAt_14 (c_X12_refuse l0 (1 : Int32) μ e3) mf_X12_refuse wt_1552 ws_59 wt_1550 rfl (dtRv hb1) (by decide) rfl (Nat.le_of_ble_eq_true rfl) (Nat.le_of_ble_eq_true rfl) rfl ?_
  cases h
  exact dr_ireturn dX12_firstAt_17 rfl
set_option maxRecDepth 100000 in
theorem c_X12_firstAt_38 {r : Int32} {F : dtM} : ∀ (n : Nat) (l0 : Nat) (l1 : Int32) (l2 : Int32) (l3 : Int32) (l4 : Int32) (μ : dtM), f_X12_firstAt_38 n l0 l1 l2 l3 l4 μ = some (r, F) → dtW yX12_firstAt cX12_firstAt 6 (some .int) 5 (some (.int r)) F 38 [some (.ref l0), some (.int l1), some (.int l2), some (.int l3), some (.int l4)] [] μ := by
  intro n
  induction n with
  | zero => intro l0 l1 l2 l3 l4 μ h; cases h
  | succ n ih =>
    intro l0 l1 l2 l3 l4 μ h
    have h := (show f_X12_firstAt_38 (n + 1) l0 l1 l2 l3 l4 μ = some _ from h)
    rw [f_X12_firstAt_38] at h
    refine dr_iload_n l3 dX12_firstAt_38 rfl ?_
    refine dr_aload_n l0 dX12_firstAt_39 rfl ?_
    obtain ⟨x1, e2, h⟩ := dtBind h
    refine dr_getI x1 dX12_firstAt_40 fl_RX12_376 e2 ?_
    obtain ⟨ht4, hf5⟩ := dtIte h
    refine dr_icmp_ge 91 dX12_firstAt_43 (by decide) (fun hc3 => ?_) (fun hc3 => ?_)
    · have h := ht4 hc3
      refine dr_aload_n l0 dX12_firstAt_91 rfl ?_
      refine dr_bipush (6 : Int32) dX12_firstAt_92 (by decide) ?_
      obtain ⟨_, hb6, h⟩ := dtBind h
      obtain ⟨x9, μ7, e8, h⟩ := dtCall h
      refine dr_callV_i (S0 := []) [.int (6 : Int32)] x9 μ7 dX12_firstAt_94 (c_X12_refuse l0 (6 : Int32) μ e8) mf_X12_refuse wt_1552 ws_59 wt_1550 rfl (dtRv hb6) (by decide) rfl (Nat.le_of_ble_eq_true rfl) (Nat.le_of_ble_eq_true rfl) rfl ?_
      cases h
      exact dr_ireturn dX12_firstAt_97 rfl
    · have h := hf5 hc3
      refine dr_aload_n l0 dX12_firstAt_46 rfl ?_
      refine dr_aload_n l0 dX12_firstAt_47 rfl ?_
      refine dr_iload_n l1 dX12_firstAt_48 rfl ?_
      refine dr_iconst (2 : Int32) dX12_firstAt_49 (by decide) ?_
      obtain ⟨_, hb10, h⟩ := dtBind h
      obtain ⟨x13, μ11, e12, h⟩ := dtCall h
      refine dr_callV_i (S0 := [.ref l0]) [.int l1, .int (2 : Int32)] x13 μ11 dX12_firstAt_50 (c_X12_personOf l0 l1 (2 : Int32) μ e12) mf_X12_personOf wt_1736 ws_96 wt_1734 rfl (dtRv hb10) (by decide) rfl (Nat.le_of_ble_eq_true rfl) (Nat.le_of_ble_eq_true rfl) rfl ?_
      refine dr_iload_n l3 dX12_firstAt_53 rfl ?_
      obtain ⟨_, hb14, h⟩ := dtBind h
      obtain ⟨x17, μ15, e16, h⟩ := dtCall h
      refine dr_callV_i (S0 := []) [.int x13, .int l3] x17 μ15 dX12_firstAt_54 (c_X12_firstWord l0 x13 l3 μ11 e16) mf_X12_firstWord wt_1897 ws_114 wt_1895 rfl (dtRv hb14) (by decide) rfl (Nat.le_of_ble_eq_true rfl) (Nat.le_of_ble_eq_true rfl) rfl ?_
      refine dr_istore [some (.ref l0), some (.int l1), some (.int l2), some (.int l3), some (.int l4), some (.int x17)] dX12_firstAt_57 rfl rfl rfl ?_
      refine dr_iload l4 dX12_firstAt_59 rfl ?_
      refine dr_iload_n l2 dX12_firstAt_61 rfl ?_
      obtain ⟨ht19, hf20⟩ := dtIte h
      refine dr_icmp_ne 72 dX12_firstAt_62 (by decide) (fun hc18 => ?_) (fun hc18 => ?_)
      · have h := hf20 hc18
        refine dr_iload_n l3 dX12_firstAt_72 rfl ?_
        refine dr_aload_n l0 dX12_firstAt_73 rfl ?_
        obtain ⟨x21, e22, h⟩ := dtBind h
        refine dr_getR x21 dX12_firstAt_74 fl_RX12_7 e22 ?_
        refine dr_iload x17 dX12_firstAt_77 rfl ?_
        obtain ⟨x25, μ23, e24, h⟩ := dtCall h
        refine dr_callS_i (S0 := [.ref x21, .int l3]) [.int x17] x25 μ23 dX12_firstAt_79 (c_X12_wordRow x17 μ15 e24) mf_X12_wordRow wt_1625 wt_1624 rfl (Nat.le_of_ble_eq_true rfl) (Nat.le_of_ble_eq_true rfl) rfl ?_
        obtain ⟨x26, e27, h⟩ := dtBind h
        refine dr_iaload x26 dX12_firstAt_82 e27 ?_
        refine dr_iadd dX12_firstAt_83 ?_
        obtain ⟨x28, e29, h⟩ := dtBind h
        refine dr_nmi e29 ?_
        refine dr_istore_n 3 [some (.ref l0), some (.int l1), some (.int l2), some (.int x28), some (.int l4), some (.int x17)] dX12_firstAt_84 rfl rfl rfl rfl ?_
        refine dr_iinc l4 (l4 + 1) [some (.ref l0), some (.int l1), some (.int l2), some (.int x28), some (.int (l4 + 1)), some (.int x17)] dX12_firstAt_85 rfl rfl rfl rfl rfl ?_
        refine dr_goto 38 dX12_firstAt_88 (by decide) ?_
        refine dr_mask [true, true, true, true, true] [some (.ref l0), some (.int l1), some (.int l2), some (.int x28), some (.int (l4 + 1))] rfl ?_
        exact ih l0 l1 l2 x28 (l4 + 1) μ23 h
      · have h := ht19 hc18
        refine dr_aload_n l0 dX12_firstAt_65 rfl ?_
        refine dr_iload x17 dX12_firstAt_66 rfl ?_
        obtain ⟨_, hb30, h⟩ := dtBind h
        obtain ⟨x33, μ31, e32, h⟩ := dtCall h
        refine dr_callV_i (S0 := []) [.int x17] x33 μ31 dX12_firstAt_68 (c_X12_gives l0 x17 μ15 e32) mf_X12_gives wt_1668 ws_85 wt_1666 rfl (dtRv hb30) (by decide) rfl (Nat.le_of_ble_eq_true rfl) (Nat.le_of_ble_eq_true rfl) rfl ?_
        cases h
        exact dr_ireturn dX12_firstAt_71 rfl
set_option maxRecDepth 100000 in
theorem c_X12_firstAt {r : Int32} {F : dtM} (p0 : Nat) (p1 : Int32) (p2 : Int32) (μ : dtM) (h : f_X12_firstAt p0 p1 p2 μ = some (r, F)) : dtMet yX12_firstAt cX12_firstAt 6 (some .int) 5 [.ref p0, .int p1, .int p2] μ (some (.int r)) F := by
  refine dtMet.of (by decide +kernel) (Nat.le_of_ble_eq_true rfl) (show dtW yX12_firstAt cX12_firstAt 6 (some .int) 5 (some (.int r)) F 0 [some (.ref p0), some (.int p1), some (.int p2)] [] μ from ?_)
  rw [f_X12_firstAt] at h
  refine dr_aload_n p0 dX12_firstAt_0 rfl ?_
  refine dr_iload_n p1 dX12_firstAt_1 rfl ?_
  obtain ⟨_, hb1, h⟩ := dtBind h
  obtain ⟨x4, μ2, e3, h⟩ := dtCall h
  refine dr_callV_i (S0 := []) [.int p1] x4 μ2 dX12_firstAt_2 (c_X12_isPerson p0 p1 μ e3) mf_X12_isPerson wt_1732 ws_95 wt_1730 rfl (dtRv hb1) (by decide) rfl (Nat.le_of_ble_eq_true rfl) (Nat.le_of_ble_eq_true rfl) rfl ?_
  obtain ⟨ht6, hf7⟩ := dtIte h
  refine dr_if_eq 12 dX12_firstAt_5 (by decide) (fun hc5 => ?_) (fun hc5 => ?_)
  · have h := ht6 hc5
    refine dr_mask [true] [some (.ref p0)] rfl ?_
    exact c_X12_firstAt_12 p0 μ2 h
  · have h := hf7 hc5
    refine dr_iload_n p2 dX12_firstAt_8 rfl ?_
    obtain ⟨ht9, hf10⟩ := dtIte h
    refine dr_if_ge 18 dX12_firstAt_9 (by decide) (fun hc8 => ?_) (fun hc8 => ?_)
    · have h := ht9 hc8
      refine dr_aload_n p0 dX12_firstAt_18 rfl ?_
      refine dr_iload_n p1 dX12_firstAt_19 rfl ?_
      obtain ⟨_, hb11, h⟩ := dtBind h
      obtain ⟨x14, μ12, e13, h⟩ := dtCall h
      refine dr_callV_i (S0 := []) [.int p1] x14 μ12 dX12_firstAt_20 (c_X12_laysHeard p0 p1 μ2 e13) mf_X12_laysHeard wt_1881 ws_111 wt_1879 rfl (dtRv hb11) (by decide) rfl (Nat.le_of_ble_eq_true rfl) (Nat.le_of_ble_eq_true rfl) rfl ?_
      obtain ⟨ht16, hf17⟩ := dtIte h
      refine dr_if_ne 33 dX12_firstAt_23 (by decide) (fun hc15 => ?_) (fun hc15 => ?_)
      · have h := hf17 hc15
        refine dr_iconst (0 : Int32) dX12_firstAt_33 (by decide) ?_
        refine dr_istore_n 3 [some (.ref p0), some (.int p1), some (.int p2), some (.int (0 : Int32))] dX12_firstAt_34 rfl rfl rfl rfl ?_
        refine dr_iconst (0 : Int32) dX12_firstAt_35 (by decide) ?_
        refine dr_istore [some (.ref p0), some (.int p1), some (.int p2), some (.int (0 : Int32)), some (.int (0 : Int32))] dX12_firstAt_36 rfl rfl rfl ?_
        exact c_X12_firstAt_38 dtFuel p0 p1 p2 (0 : Int32) (0 : Int32) μ12 h
      · have h := ht16 hc15
        refine dr_aload_n p0 dX12_firstAt_26 rfl ?_
        refine dr_bipush (6 : Int32) dX12_firstAt_27 (by decide) ?_
        obtain ⟨_, hb18, h⟩ := dtBind h
        obtain ⟨x21, μ19, e20, h⟩ := dtCall h
        refine dr_callV_i (S0 := []) [.int (6 : Int32)] x21 μ19 dX12_firstAt_29 (c_X12_refuse p0 (6 : Int32) μ12 e20) mf_X12_refuse wt_1552 ws_59 wt_1550 rfl (dtRv hb18) (by decide) rfl (Nat.le_of_ble_eq_true rfl) (Nat.le_of_ble_eq_true rfl) rfl ?_
        cases h
        exact dr_ireturn dX12_firstAt_32 rfl
    · have h := hf10 hc8
      refine dr_mask [true] [some (.ref p0)] rfl ?_
      exact c_X12_firstAt_12 p0 μ2 h
/-! X12_wrongRow -/
theorem dX12_wrongRow_0 : decode cX12_wrongRow 0 = .ok (.aload_n 0, 1) := by decide +kernel
theorem dX12_wrongRow_1 : decode cX12_wrongRow 1 = .ok (.iload_n 1, 1) := by decide +kernel
theorem dX12_wrongRow_2 : decode cX12_wrongRow 2 = .ok (.invokevirtual 307, 3) := by decide +kernel
theorem dX12_wrongRow_5 : decode cX12_wrongRow 5 = .ok (.ifCond .eq 22, 3) := by decide +kernel
theorem dX12_wrongRow_8 : decode cX12_wrongRow 8 = .ok (.iload_n 2, 1) := by decide +kernel
theorem dX12_wrongRow_9 : decode cX12_wrongRow 9 = .ok (.invokestatic 104, 3) := by decide +kernel
theorem dX12_wrongRow_12 : decode cX12_wrongRow 12 = .ok (.ifCond .eq 15, 3) := by decide +kernel
theorem dX12_wrongRow_15 : decode cX12_wrongRow 15 = .ok (.iload_n 3, 1) := by decide +kernel
theorem dX12_wrongRow_16 : decode cX12_wrongRow 16 = .ok (.i2l, 1) := by decide +kernel
theorem dX12_wrongRow_17 : decode cX12_wrongRow 17 = .ok (.lconst 0, 1) := by decide +kernel
theorem dX12_wrongRow_18 : decode cX12_wrongRow 18 = .ok (.iload 4, 2) := by decide +kernel
theorem dX12_wrongRow_20 : decode cX12_wrongRow 20 = .ok (.i2l, 1) := by decide +kernel
theorem dX12_wrongRow_21 : decode cX12_wrongRow 21 = .ok (.invokestatic 366, 3) := by decide +kernel
theorem dX12_wrongRow_24 : decode cX12_wrongRow 24 = .ok (.ifCond .ne 5, 3) := by decide +kernel
theorem dX12_wrongRow_27 : decode cX12_wrongRow 27 = .ok (.iconst 1, 1) := by decide +kernel
theorem dX12_wrongRow_28 : decode cX12_wrongRow 28 = .ok (.ireturn, 1) := by decide +kernel
theorem dX12_wrongRow_29 : decode cX12_wrongRow 29 = .ok (.aload_n 0, 1) := by decide +kernel
theorem dX12_wrongRow_30 : decode cX12_wrongRow 30 = .ok (.getfield 24, 3) := by decide +kernel
theorem dX12_wrongRow_33 : decode cX12_wrongRow 33 = .ok (.iload_n 2, 1) := by decide +kernel
theorem dX12_wrongRow_34 : decode cX12_wrongRow 34 = .ok (.iaload, 1) := by decide +kernel
theorem dX12_wrongRow_35 : decode cX12_wrongRow 35 = .ok (.iconst (-1), 1) := by decide +kernel
theorem dX12_wrongRow_36 : decode cX12_wrongRow 36 = .ok (.if_icmp .ne 5, 3) := by decide +kernel
theorem dX12_wrongRow_39 : decode cX12_wrongRow 39 = .ok (.iconst 2, 1) := by decide +kernel
theorem dX12_wrongRow_40 : decode cX12_wrongRow 40 = .ok (.ireturn, 1) := by decide +kernel
theorem dX12_wrongRow_41 : decode cX12_wrongRow 41 = .ok (.aload_n 0, 1) := by decide +kernel
theorem dX12_wrongRow_42 : decode cX12_wrongRow 42 = .ok (.getfield 24, 3) := by decide +kernel
theorem dX12_wrongRow_45 : decode cX12_wrongRow 45 = .ok (.iload_n 2, 1) := by decide +kernel
theorem dX12_wrongRow_46 : decode cX12_wrongRow 46 = .ok (.iaload, 1) := by decide +kernel
theorem dX12_wrongRow_47 : decode cX12_wrongRow 47 = .ok (.iload_n 3, 1) := by decide +kernel
theorem dX12_wrongRow_48 : decode cX12_wrongRow 48 = .ok (.if_icmp .ge 5, 3) := by decide +kernel
theorem dX12_wrongRow_51 : decode cX12_wrongRow 51 = .ok (.iconst 3, 1) := by decide +kernel
theorem dX12_wrongRow_52 : decode cX12_wrongRow 52 = .ok (.ireturn, 1) := by decide +kernel
theorem dX12_wrongRow_53 : decode cX12_wrongRow 53 = .ok (.iconst 0, 1) := by decide +kernel
theorem dX12_wrongRow_54 : decode cX12_wrongRow 54 = .ok (.istore 6, 2) := by decide +kernel
theorem dX12_wrongRow_56 : decode cX12_wrongRow 56 = .ok (.iload 6, 2) := by decide +kernel
theorem dX12_wrongRow_58 : decode cX12_wrongRow 58 = .ok (.iload_n 3, 1) := by decide +kernel
theorem dX12_wrongRow_59 : decode cX12_wrongRow 59 = .ok (.if_icmp .ge 35, 3) := by decide +kernel
theorem dX12_wrongRow_62 : decode cX12_wrongRow 62 = .ok (.aload_n 0, 1) := by decide +kernel
theorem dX12_wrongRow_63 : decode cX12_wrongRow 63 = .ok (.getfield 27, 3) := by decide +kernel
theorem dX12_wrongRow_66 : decode cX12_wrongRow 66 = .ok (.bipush 60, 2) := by decide +kernel
theorem dX12_wrongRow_68 : decode cX12_wrongRow 68 = .ok (.iload_n 2, 1) := by decide +kernel
theorem dX12_wrongRow_69 : decode cX12_wrongRow 69 = .ok (.imul, 1) := by decide +kernel
theorem dX12_wrongRow_70 : decode cX12_wrongRow 70 = .ok (.iload 6, 2) := by decide +kernel
theorem dX12_wrongRow_72 : decode cX12_wrongRow 72 = .ok (.iadd, 1) := by decide +kernel
theorem dX12_wrongRow_73 : decode cX12_wrongRow 73 = .ok (.laload, 1) := by decide +kernel
theorem dX12_wrongRow_74 : decode cX12_wrongRow 74 = .ok (.lconst 0, 1) := by decide +kernel
theorem dX12_wrongRow_75 : decode cX12_wrongRow 75 = .ok (.iload 5, 2) := by decide +kernel
theorem dX12_wrongRow_77 : decode cX12_wrongRow 77 = .ok (.i2l, 1) := by decide +kernel
theorem dX12_wrongRow_78 : decode cX12_wrongRow 78 = .ok (.lconst 1, 1) := by decide +kernel
theorem dX12_wrongRow_79 : decode cX12_wrongRow 79 = .ok (.lsub, 1) := by decide +kernel
theorem dX12_wrongRow_80 : decode cX12_wrongRow 80 = .ok (.invokestatic 366, 3) := by decide +kernel
theorem dX12_wrongRow_83 : decode cX12_wrongRow 83 = .ok (.ifCond .ne 5, 3) := by decide +kernel
theorem dX12_wrongRow_86 : decode cX12_wrongRow 86 = .ok (.iconst 5, 1) := by decide +kernel
theorem dX12_wrongRow_87 : decode cX12_wrongRow 87 = .ok (.ireturn, 1) := by decide +kernel
theorem dX12_wrongRow_88 : decode cX12_wrongRow 88 = .ok (.iinc 6 1, 3) := by decide +kernel
theorem dX12_wrongRow_91 : decode cX12_wrongRow 91 = .ok (.goto (-35), 3) := by decide +kernel
theorem dX12_wrongRow_94 : decode cX12_wrongRow 94 = .ok (.iconst 0, 1) := by decide +kernel
theorem dX12_wrongRow_95 : decode cX12_wrongRow 95 = .ok (.ireturn, 1) := by decide +kernel
set_option maxRecDepth 100000 in
def f_X12_wrongRow_27  (μ : dtM) : Option (Int32 × dtM) :=
  some ((1 : Int32), μ)
set_option maxRecDepth 100000 in
def f_X12_wrongRow_56 : Nat → Nat → Int32 → Int32 → Int32 → Int32 → dtM → Option (Int32 × dtM)
  | 0, _, _, _, _, _, _ => none
  | n + 1, l0, l2, l3, l5, l6, μ =>
    if l3 ≤ l6 then (some ((0 : Int32), μ)) else ((opGR 12 7 μ l0).bind fun x4 => (opLJ 3 μ x4 (((60 : Int32) * l2) + l6)).bind fun x6 => opCall (f_X12_isFrom x6 (0 : Int64) ((l5.toInt64) - (1 : Int64)) μ) fun x10 μ8 => if x10 = 0 then (some ((5 : Int32), μ8)) else (f_X12_wrongRow_56 n l0 l2 l3 l5 (l6 + 1) μ8))
set_option maxRecDepth 100000 in
def f_X12_wrongRow (p0 : Nat) (p1 : Int32) (p2 : Int32) (p3 : Int32) (p4 : Int32) (p5 : Int32) (μ : dtM) : Option (Int32 × dtM) :=
  (opRv 12 μ p0).bind fun _ => opCall (f_X12_isPerson p0 p1 μ) fun x4 μ2 => if x4 = 0 then (f_X12_wrongRow_27 μ2) else (opCall (f_X12_isTray p2 μ2) fun x10 μ8 => if x10 = 0 then (f_X12_wrongRow_27 μ8) else (opCall (f_X12_isFrom (p3.toInt64) (0 : Int64) (p4.toInt64) μ8) fun x16 μ14 => if x16 = 0 then (f_X12_wrongRow_27 μ14) else ((opGR 12 6 μ14 p0).bind fun x20 => (opLI 1 μ14 x20 p2).bind fun x22 => if x22 = (-1 : Int32) then (some ((2 : Int32), μ14)) else ((opGR 12 6 μ14 p0).bind fun x27 => (opLI 1 μ14 x27 p2).bind fun x29 => if p3 ≤ x29 then (f_X12_wrongRow_56 dtFuel p0 p2 p3 p5 (0 : Int32) μ14) else (some ((3 : Int32), μ14))))))
set_option maxRecDepth 100000 in
theorem c_X12_wrongRow_27 {r : Int32} {F : dtM}  (μ : dtM) (h : f_X12_wrongRow_27  μ = some (r, F)) : dtW yX12_wrongRow cX12_wrongRow 7 (some .int) 2 (some (.int r)) F 27 [] [] μ := by
  rw [f_X12_wrongRow_27] at h
  refine dr_iconst (1 : Int32) dX12_wrongRow_27 (by decide) ?_
  cases h
  exact dr_ireturn dX12_wrongRow_28 rfl
set_option maxRecDepth 100000 in
theorem c_X12_wrongRow_56 {r : Int32} {F : dtM} : ∀ (n : Nat) (l0 : Nat) (l2 : Int32) (l3 : Int32) (l5 : Int32) (l6 : Int32) (μ : dtM), f_X12_wrongRow_56 n l0 l2 l3 l5 l6 μ = some (r, F) → dtW yX12_wrongRow cX12_wrongRow 7 (some .int) 2 (some (.int r)) F 56 [some (.ref l0), none, some (.int l2), some (.int l3), none, some (.int l5), some (.int l6)] [] μ := by
  intro n
  induction n with
  | zero => intro l0 l2 l3 l5 l6 μ h; cases h
  | succ n ih =>
    intro l0 l2 l3 l5 l6 μ h
    have h := (show f_X12_wrongRow_56 (n + 1) l0 l2 l3 l5 l6 μ = some _ from h)
    rw [f_X12_wrongRow_56] at h
    refine dr_iload l6 dX12_wrongRow_56 rfl ?_
    refine dr_iload_n l3 dX12_wrongRow_58 rfl ?_
    obtain ⟨ht2, hf3⟩ := dtIte h
    refine dr_icmp_ge 94 dX12_wrongRow_59 (by decide) (fun hc1 => ?_) (fun hc1 => ?_)
    · have h := ht2 hc1
      refine dr_iconst (0 : Int32) dX12_wrongRow_94 (by decide) ?_
      cases h
      exact dr_ireturn dX12_wrongRow_95 rfl
    · have h := hf3 hc1
      refine dr_aload_n l0 dX12_wrongRow_62 rfl ?_
      obtain ⟨x4, e5, h⟩ := dtBind h
      refine dr_getR x4 dX12_wrongRow_63 fl_RX12_27 e5 ?_
      refine dr_bipush (60 : Int32) dX12_wrongRow_66 (by decide) ?_
      refine dr_iload_n l2 dX12_wrongRow_68 rfl ?_
      refine dr_imul dX12_wrongRow_69 ?_
      refine dr_iload l6 dX12_wrongRow_70 rfl ?_
      refine dr_iadd dX12_wrongRow_72 ?_
      obtain ⟨x6, e7, h⟩ := dtBind h
      refine dr_laload x6 dX12_wrongRow_73 e7 ?_
      refine dr_lconst (0 : Int64) dX12_wrongRow_74 (by decide) ?_
      refine dr_iload l5 dX12_wrongRow_75 rfl ?_
      refine dr_i2l dX12_wrongRow_77 ?_
      refine dr_lconst (1 : Int64) dX12_wrongRow_78 (by decide) ?_
      refine dr_lsub dX12_wrongRow_79 ?_
      obtain ⟨x10, μ8, e9, h⟩ := dtCall h
      refine dr_callS_i (S0 := []) [.long x6, .long (0 : Int64), .long ((l5.toInt64) - (1 : Int64))] x10 μ8 dX12_wrongRow_80 (c_X12_isFrom x6 (0 : Int64) ((l5.toInt64) - (1 : Int64)) μ e9) mf_X12_isFrom wt_1854 wt_1853 rfl (Nat.le_of_ble_eq_true rfl) (Nat.le_of_ble_eq_true rfl) rfl ?_
      obtain ⟨ht12, hf13⟩ := dtIte h
      refine dr_if_ne 88 dX12_wrongRow_83 (by decide) (fun hc11 => ?_) (fun hc11 => ?_)
      · have h := hf13 hc11
        refine dr_iinc l6 (l6 + 1) [some (.ref l0), none, some (.int l2), some (.int l3), none, some (.int l5), some (.int (l6 + 1))] dX12_wrongRow_88 rfl rfl rfl rfl rfl ?_
        refine dr_goto 56 dX12_wrongRow_91 (by decide) ?_
        exact ih l0 l2 l3 l5 (l6 + 1) μ8 h
      · have h := ht12 hc11
        refine dr_iconst (5 : Int32) dX12_wrongRow_86 (by decide) ?_
        cases h
        exact dr_ireturn dX12_wrongRow_87 rfl
set_option maxRecDepth 100000 in
theorem c_X12_wrongRow {r : Int32} {F : dtM} (p0 : Nat) (p1 : Int32) (p2 : Int32) (p3 : Int32) (p4 : Int32) (p5 : Int32) (μ : dtM) (h : f_X12_wrongRow p0 p1 p2 p3 p4 p5 μ = some (r, F)) : dtMet yX12_wrongRow cX12_wrongRow 7 (some .int) 2 [.ref p0, .int p1, .int p2, .int p3, .int p4, .int p5] μ (some (.int r)) F := by
  refine dtMet.of (by decide +kernel) (Nat.le_of_ble_eq_true rfl) (show dtW yX12_wrongRow cX12_wrongRow 7 (some .int) 2 (some (.int r)) F 0 [some (.ref p0), some (.int p1), some (.int p2), some (.int p3), some (.int p4), some (.int p5)] [] μ from ?_)
  rw [f_X12_wrongRow] at h
  refine dr_aload_n p0 dX12_wrongRow_0 rfl ?_
  refine dr_iload_n p1 dX12_wrongRow_1 rfl ?_
  obtain ⟨_, hb1, h⟩ := dtBind h
  obtain ⟨x4, μ2, e3, h⟩ := dtCall h
  refine dr_callV_i (S0 := []) [.int p1] x4 μ2 dX12_wrongRow_2 (c_X12_isPerson p0 p1 μ e3) mf_X12_isPerson wt_1732 ws_95 wt_1730 rfl (dtRv hb1) (by decide) rfl (Nat.le_of_ble_eq_true rfl) (Nat.le_of_ble_eq_true rfl) rfl ?_
  obtain ⟨ht6, hf7⟩ := dtIte h
  refine dr_if_eq 27 dX12_wrongRow_5 (by decide) (fun hc5 => ?_) (fun hc5 => ?_)
  · have h := ht6 hc5
    refine dr_mask [] [] rfl ?_
    exact c_X12_wrongRow_27 μ2 h
  · have h := hf7 hc5
    refine dr_iload_n p2 dX12_wrongRow_8 rfl ?_
    obtain ⟨x10, μ8, e9, h⟩ := dtCall h
    refine dr_callS_i (S0 := []) [.int p2] x10 μ8 dX12_wrongRow_9 (c_X12_isTray p2 μ2 e9) mf_X12_isTray wt_1488 wt_1487 rfl (Nat.le_of_ble_eq_true rfl) (Nat.le_of_ble_eq_true rfl) rfl ?_
    obtain ⟨ht12, hf13⟩ := dtIte h
    refine dr_if_eq 27 dX12_wrongRow_12 (by decide) (fun hc11 => ?_) (fun hc11 => ?_)
    · have h := ht12 hc11
      refine dr_mask [] [] rfl ?_
      exact c_X12_wrongRow_27 μ8 h
    · have h := hf13 hc11
      refine dr_iload_n p3 dX12_wrongRow_15 rfl ?_
      refine dr_i2l dX12_wrongRow_16 ?_
      refine dr_lconst (0 : Int64) dX12_wrongRow_17 (by decide) ?_
      refine dr_iload p4 dX12_wrongRow_18 rfl ?_
      refine dr_i2l dX12_wrongRow_20 ?_
      obtain ⟨x16, μ14, e15, h⟩ := dtCall h
      refine dr_callS_i (S0 := []) [.long (p3.toInt64), .long (0 : Int64), .long (p4.toInt64)] x16 μ14 dX12_wrongRow_21 (c_X12_isFrom (p3.toInt64) (0 : Int64) (p4.toInt64) μ8 e15) mf_X12_isFrom wt_1854 wt_1853 rfl (Nat.le_of_ble_eq_true rfl) (Nat.le_of_ble_eq_true rfl) rfl ?_
      obtain ⟨ht18, hf19⟩ := dtIte h
      refine dr_if_ne 29 dX12_wrongRow_24 (by decide) (fun hc17 => ?_) (fun hc17 => ?_)
      · have h := hf19 hc17
        refine dr_aload_n p0 dX12_wrongRow_29 rfl ?_
        obtain ⟨x20, e21, h⟩ := dtBind h
        refine dr_getR x20 dX12_wrongRow_30 fl_RX12_24 e21 ?_
        refine dr_iload_n p2 dX12_wrongRow_33 rfl ?_
        obtain ⟨x22, e23, h⟩ := dtBind h
        refine dr_iaload x22 dX12_wrongRow_34 e23 ?_
        refine dr_iconst (-1 : Int32) dX12_wrongRow_35 (by decide) ?_
        obtain ⟨ht25, hf26⟩ := dtIte h
        refine dr_icmp_ne 41 dX12_wrongRow_36 (by decide) (fun hc24 => ?_) (fun hc24 => ?_)
        · have h := hf26 hc24
          refine dr_aload_n p0 dX12_wrongRow_41 rfl ?_
          obtain ⟨x27, e28, h⟩ := dtBind h
          refine dr_getR x27 dX12_wrongRow_42 fl_RX12_24 e28 ?_
          refine dr_iload_n p2 dX12_wrongRow_45 rfl ?_
          obtain ⟨x29, e30, h⟩ := dtBind h
          refine dr_iaload x29 dX12_wrongRow_46 e30 ?_
          refine dr_iload_n p3 dX12_wrongRow_47 rfl ?_
          obtain ⟨ht32, hf33⟩ := dtIte h
          refine dr_icmp_ge 53 dX12_wrongRow_48 (by decide) (fun hc31 => ?_) (fun hc31 => ?_)
          · have h := ht32 hc31
            refine dr_iconst (0 : Int32) dX12_wrongRow_53 (by decide) ?_
            refine dr_istore [some (.ref p0), some (.int p1), some (.int p2), some (.int p3), some (.int p4), some (.int p5), some (.int (0 : Int32))] dX12_wrongRow_54 rfl rfl rfl ?_
            refine dr_mask [true, false, true, true, false, true, true] [some (.ref p0), none, some (.int p2), some (.int p3), none, some (.int p5), some (.int (0 : Int32))] rfl ?_
            exact c_X12_wrongRow_56 dtFuel p0 p2 p3 p5 (0 : Int32) μ14 h
          · have h := hf33 hc31
            refine dr_iconst (3 : Int32) dX12_wrongRow_51 (by decide) ?_
            cases h
            exact dr_ireturn dX12_wrongRow_52 rfl
        · have h := ht25 hc24
          refine dr_iconst (2 : Int32) dX12_wrongRow_39 (by decide) ?_
          cases h
          exact dr_ireturn dX12_wrongRow_40 rfl
      · have h := ht18 hc17
        refine dr_mask [] [] rfl ?_
        exact c_X12_wrongRow_27 μ14 h
/-! X12_means -/
theorem dX12_means_0 : decode cX12_means 0 = .ok (.aload_n 0, 1) := by decide +kernel
theorem dX12_means_1 : decode cX12_means 1 = .ok (.iload_n 1, 1) := by decide +kernel
theorem dX12_means_2 : decode cX12_means 2 = .ok (.iload_n 2, 1) := by decide +kernel
theorem dX12_means_3 : decode cX12_means 3 = .ok (.iload_n 3, 1) := by decide +kernel
theorem dX12_means_4 : decode cX12_means 4 = .ok (.bipush 20, 2) := by decide +kernel
theorem dX12_means_6 : decode cX12_means 6 = .ok (.iconst 4, 1) := by decide +kernel
theorem dX12_means_7 : decode cX12_means 7 = .ok (.invokevirtual 391, 3) := by decide +kernel
theorem dX12_means_10 : decode cX12_means 10 = .ok (.istore 4, 2) := by decide +kernel
theorem dX12_means_12 : decode cX12_means 12 = .ok (.iload 4, 2) := by decide +kernel
theorem dX12_means_14 : decode cX12_means 14 = .ok (.ifCond .le 10, 3) := by decide +kernel
theorem dX12_means_17 : decode cX12_means 17 = .ok (.aload_n 0, 1) := by decide +kernel
theorem dX12_means_18 : decode cX12_means 18 = .ok (.iload 4, 2) := by decide +kernel
theorem dX12_means_20 : decode cX12_means 20 = .ok (.invokevirtual 93, 3) := by decide +kernel
theorem dX12_means_23 : decode cX12_means 23 = .ok (.ireturn, 1) := by decide +kernel
theorem dX12_means_24 : decode cX12_means 24 = .ok (.aload_n 0, 1) := by decide +kernel
theorem dX12_means_25 : decode cX12_means 25 = .ok (.iload_n 3, 1) := by decide +kernel
theorem dX12_means_26 : decode cX12_means 26 = .ok (.putfield 376, 3) := by decide +kernel
theorem dX12_means_29 : decode cX12_means 29 = .ok (.iconst 0, 1) := by decide +kernel
theorem dX12_means_30 : decode cX12_means 30 = .ok (.istore 5, 2) := by decide +kernel
theorem dX12_means_32 : decode cX12_means 32 = .ok (.iload 5, 2) := by decide +kernel
theorem dX12_means_34 : decode cX12_means 34 = .ok (.iload_n 3, 1) := by decide +kernel
theorem dX12_means_35 : decode cX12_means 35 = .ok (.if_icmp .ge 29, 3) := by decide +kernel
theorem dX12_means_38 : decode cX12_means 38 = .ok (.aload_n 0, 1) := by decide +kernel
theorem dX12_means_39 : decode cX12_means 39 = .ok (.getfield 50, 3) := by decide +kernel
theorem dX12_means_42 : decode cX12_means 42 = .ok (.iload 5, 2) := by decide +kernel
theorem dX12_means_44 : decode cX12_means 44 = .ok (.aload_n 0, 1) := by decide +kernel
theorem dX12_means_45 : decode cX12_means 45 = .ok (.getfield 27, 3) := by decide +kernel
theorem dX12_means_48 : decode cX12_means 48 = .ok (.bipush 60, 2) := by decide +kernel
theorem dX12_means_50 : decode cX12_means 50 = .ok (.iload_n 2, 1) := by decide +kernel
theorem dX12_means_51 : decode cX12_means 51 = .ok (.imul, 1) := by decide +kernel
theorem dX12_means_52 : decode cX12_means 52 = .ok (.iload 5, 2) := by decide +kernel
theorem dX12_means_54 : decode cX12_means 54 = .ok (.iadd, 1) := by decide +kernel
theorem dX12_means_55 : decode cX12_means 55 = .ok (.laload, 1) := by decide +kernel
theorem dX12_means_56 : decode cX12_means 56 = .ok (.l2i, 1) := by decide +kernel
theorem dX12_means_57 : decode cX12_means 57 = .ok (.iastore, 1) := by decide +kernel
theorem dX12_means_58 : decode cX12_means 58 = .ok (.iinc 5 1, 3) := by decide +kernel
theorem dX12_means_61 : decode cX12_means 61 = .ok (.goto (-29), 3) := by decide +kernel
theorem dX12_means_64 : decode cX12_means 64 = .ok (.aload_n 0, 1) := by decide +kernel
theorem dX12_means_65 : decode cX12_means 65 = .ok (.aload_n 0, 1) := by decide +kernel
theorem dX12_means_66 : decode cX12_means 66 = .ok (.aload_n 0, 1) := by decide +kernel
theorem dX12_means_67 : decode cX12_means 67 = .ok (.iload_n 1, 1) := by decide +kernel
theorem dX12_means_68 : decode cX12_means 68 = .ok (.iconst 2, 1) := by decide +kernel
theorem dX12_means_69 : decode cX12_means 69 = .ok (.invokevirtual 295, 3) := by decide +kernel
theorem dX12_means_72 : decode cX12_means 72 = .ok (.invokevirtual 382, 3) := by decide +kernel
theorem dX12_means_75 : decode cX12_means 75 = .ok (.invokevirtual 97, 3) := by decide +kernel
theorem dX12_means_78 : decode cX12_means 78 = .ok (.ireturn, 1) := by decide +kernel
set_option maxRecDepth 100000 in
def f_X12_means_32 : Nat → Nat → Int32 → Int32 → Int32 → Int32 → dtM → Option (Int32 × dtM)
  | 0, _, _, _, _, _, _ => none
  | n + 1, l0, l1, l2, l3, l5, μ =>
    if l3 ≤ l5 then ((opRv 12 μ l0).bind fun _ => opCall (f_X12_personOf l0 l1 (2 : Int32) μ) fun x7 μ5 => (opRv 12 μ5 l0).bind fun _ => opCall (f_X12_laysReadings l0 x7 μ5) fun x11 μ9 => (opRv 12 μ9 l0).bind fun _ => opCall (f_X12_gives l0 x11 μ9) fun x15 μ13 => some (x15, μ13)) else ((opGR 12 25 μ l0).bind fun x16 => (opGR 12 7 μ l0).bind fun x18 => (opLJ 3 μ x18 (((60 : Int32) * l2) + l5)).bind fun x20 => (opSI μ x16 l5 (x20.toInt32)).bind fun μ22 => f_X12_means_32 n l0 l1 l2 l3 (l5 + 1) μ22)
set_option maxRecDepth 100000 in
def f_X12_means (p0 : Nat) (p1 : Int32) (p2 : Int32) (p3 : Int32) (μ : dtM) : Option (Int32 × dtM) :=
  (opRv 12 μ p0).bind fun _ => opCall (f_X12_wrongRow p0 p1 p2 p3 (20 : Int32) (4 : Int32) μ) fun x4 μ2 => if x4 ≤ 0 then ((opPI 12 27 μ2 p0 p3).bind fun μ8 => f_X12_means_32 dtFuel p0 p1 p2 p3 (0 : Int32) μ8) else ((opRv 12 μ2 p0).bind fun _ => opCall (f_X12_refuse p0 x4 μ2) fun x13 μ11 => some (x13, μ11))
set_option maxRecDepth 100000 in
theorem c_X12_means_32 {r : Int32} {F : dtM} : ∀ (n : Nat) (l0 : Nat) (l1 : Int32) (l2 : Int32) (l3 : Int32) (l5 : Int32) (μ : dtM), f_X12_means_32 n l0 l1 l2 l3 l5 μ = some (r, F) → dtW yX12_means cX12_means 6 (some .int) 4 (some (.int r)) F 32 [some (.ref l0), some (.int l1), some (.int l2), some (.int l3), none, some (.int l5)] [] μ := by
  intro n
  induction n with
  | zero => intro l0 l1 l2 l3 l5 μ h; cases h
  | succ n ih =>
    intro l0 l1 l2 l3 l5 μ h
    have h := (show f_X12_means_32 (n + 1) l0 l1 l2 l3 l5 μ = some _ from h)
    rw [f_X12_means_32] at h
    refine dr_iload l5 dX12_means_32 rfl ?_
    refine dr_iload_n l3 dX12_means_34 rfl ?_
    obtain ⟨ht2, hf3⟩ := dtIte h
    refine dr_icmp_ge 64 dX12_means_35 (by decide) (fun hc1 => ?_) (fun hc1 => ?_)
    · have h := ht2 hc1
      refine dr_aload_n l0 dX12_means_64 rfl ?_
      refine dr_aload_n l0 dX12_means_65 rfl ?_
      refine dr_aload_n l0 dX12_means_66 rfl ?_
      refine dr_iload_n l1 dX12_means_67 rfl ?_
      refine dr_iconst (2 : Int32) dX12_means_68 (by decide) ?_
      obtain ⟨_, hb4, h⟩ := dtBind h
      obtain ⟨x7, μ5, e6, h⟩ := dtCall h
      refine dr_callV_i (S0 := [.ref l0, .ref l0]) [.int l1, .int (2 : Int32)] x7 μ5 dX12_means_69 (c_X12_personOf l0 l1 (2 : Int32) μ e6) mf_X12_personOf wt_1736 ws_96 wt_1734 rfl (dtRv hb4) (by decide) rfl (Nat.le_of_ble_eq_true rfl) (Nat.le_of_ble_eq_true rfl) rfl ?_
      obtain ⟨_, hb8, h⟩ := dtBind h
      obtain ⟨x11, μ9, e10, h⟩ := dtCall h
      refine dr_callV_i (S0 := [.ref l0]) [.int x7] x11 μ9 dX12_means_72 (c_X12_laysReadings l0 x7 μ5 e10) mf_X12_laysReadings wt_1885 ws_112 wt_1883 rfl (dtRv hb8) (by decide) rfl (Nat.le_of_ble_eq_true rfl) (Nat.le_of_ble_eq_true rfl) rfl ?_
      obtain ⟨_, hb12, h⟩ := dtBind h
      obtain ⟨x15, μ13, e14, h⟩ := dtCall h
      refine dr_callV_i (S0 := []) [.int x11] x15 μ13 dX12_means_75 (c_X12_gives l0 x11 μ9 e14) mf_X12_gives wt_1668 ws_85 wt_1666 rfl (dtRv hb12) (by decide) rfl (Nat.le_of_ble_eq_true rfl) (Nat.le_of_ble_eq_true rfl) rfl ?_
      cases h
      exact dr_ireturn dX12_means_78 rfl
    · have h := hf3 hc1
      refine dr_aload_n l0 dX12_means_38 rfl ?_
      obtain ⟨x16, e17, h⟩ := dtBind h
      refine dr_getR x16 dX12_means_39 fl_RX12_50 e17 ?_
      refine dr_iload l5 dX12_means_42 rfl ?_
      refine dr_aload_n l0 dX12_means_44 rfl ?_
      obtain ⟨x18, e19, h⟩ := dtBind h
      refine dr_getR x18 dX12_means_45 fl_RX12_27 e19 ?_
      refine dr_bipush (60 : Int32) dX12_means_48 (by decide) ?_
      refine dr_iload_n l2 dX12_means_50 rfl ?_
      refine dr_imul dX12_means_51 ?_
      refine dr_iload l5 dX12_means_52 rfl ?_
      refine dr_iadd dX12_means_54 ?_
      obtain ⟨x20, e21, h⟩ := dtBind h
      refine dr_laload x20 dX12_means_55 e21 ?_
      refine dr_l2i dX12_means_56 ?_
      obtain ⟨μ22, e23, h⟩ := dtBind h
      refine dr_iastore μ22 dX12_means_57 e23 ?_
      refine dr_iinc l5 (l5 + 1) [some (.ref l0), some (.int l1), some (.int l2), some (.int l3), none, some (.int (l5 + 1))] dX12_means_58 rfl rfl rfl rfl rfl ?_
      refine dr_goto 32 dX12_means_61 (by decide) ?_
      exact ih l0 l1 l2 l3 (l5 + 1) μ22 h
set_option maxRecDepth 100000 in
theorem c_X12_means {r : Int32} {F : dtM} (p0 : Nat) (p1 : Int32) (p2 : Int32) (p3 : Int32) (μ : dtM) (h : f_X12_means p0 p1 p2 p3 μ = some (r, F)) : dtMet yX12_means cX12_means 6 (some .int) 4 [.ref p0, .int p1, .int p2, .int p3] μ (some (.int r)) F := by
  refine dtMet.of (by decide +kernel) (Nat.le_of_ble_eq_true rfl) (show dtW yX12_means cX12_means 6 (some .int) 4 (some (.int r)) F 0 [some (.ref p0), some (.int p1), some (.int p2), some (.int p3)] [] μ from ?_)
  rw [f_X12_means] at h
  refine dr_aload_n p0 dX12_means_0 rfl ?_
  refine dr_iload_n p1 dX12_means_1 rfl ?_
  refine dr_iload_n p2 dX12_means_2 rfl ?_
  refine dr_iload_n p3 dX12_means_3 rfl ?_
  refine dr_bipush (20 : Int32) dX12_means_4 (by decide) ?_
  refine dr_iconst (4 : Int32) dX12_means_6 (by decide) ?_
  obtain ⟨_, hb1, h⟩ := dtBind h
  obtain ⟨x4, μ2, e3, h⟩ := dtCall h
  refine dr_callV_i (S0 := []) [.int p1, .int p2, .int p3, .int (20 : Int32), .int (4 : Int32)] x4 μ2 dX12_means_7 (c_X12_wrongRow p0 p1 p2 p3 (20 : Int32) (4 : Int32) μ e3) mf_X12_wrongRow wt_1909 ws_115 wt_1907 rfl (dtRv hb1) (by decide) rfl (Nat.le_of_ble_eq_true rfl) (Nat.le_of_ble_eq_true rfl) rfl ?_
  refine dr_istore [some (.ref p0), some (.int p1), some (.int p2), some (.int p3), some (.int x4)] dX12_means_10 rfl rfl rfl ?_
  refine dr_iload x4 dX12_means_12 rfl ?_
  obtain ⟨ht6, hf7⟩ := dtIte h
  refine dr_if_le 24 dX12_means_14 (by decide) (fun hc5 => ?_) (fun hc5 => ?_)
  · have h := ht6 hc5
    refine dr_aload_n p0 dX12_means_24 rfl ?_
    refine dr_iload_n p3 dX12_means_25 rfl ?_
    obtain ⟨μ8, e9, h⟩ := dtBind h
    refine dr_putI μ8 dX12_means_26 fl_RX12_376 rfl e9 ?_
    refine dr_iconst (0 : Int32) dX12_means_29 (by decide) ?_
    refine dr_istore [some (.ref p0), some (.int p1), some (.int p2), some (.int p3), some (.int x4), some (.int (0 : Int32))] dX12_means_30 rfl rfl rfl ?_
    refine dr_mask [true, true, true, true, false, true] [some (.ref p0), some (.int p1), some (.int p2), some (.int p3), none, some (.int (0 : Int32))] rfl ?_
    exact c_X12_means_32 dtFuel p0 p1 p2 p3 (0 : Int32) μ8 h
  · have h := hf7 hc5
    refine dr_aload_n p0 dX12_means_17 rfl ?_
    refine dr_iload x4 dX12_means_18 rfl ?_
    obtain ⟨_, hb10, h⟩ := dtBind h
    obtain ⟨x13, μ11, e12, h⟩ := dtCall h
    refine dr_callV_i (S0 := []) [.int x4] x13 μ11 dX12_means_20 (c_X12_refuse p0 x4 μ2 e12) mf_X12_refuse wt_1552 ws_59 wt_1550 rfl (dtRv hb10) (by decide) rfl (Nat.le_of_ble_eq_true rfl) (Nat.le_of_ble_eq_true rfl) rfl ?_
    cases h
    exact dr_ireturn dX12_means_23 rfl
/-! X12_utters -/
theorem dX12_utters_0 : decode cX12_utters 0 = .ok (.iconst 0, 1) := by decide +kernel
theorem dX12_utters_1 : decode cX12_utters 1 = .ok (.istore_n 2, 1) := by decide +kernel
theorem dX12_utters_2 : decode cX12_utters 2 = .ok (.iload_n 2, 1) := by decide +kernel
theorem dX12_utters_3 : decode cX12_utters 3 = .ok (.aload_n 0, 1) := by decide +kernel
theorem dX12_utters_4 : decode cX12_utters 4 = .ok (.getfield 7, 3) := by decide +kernel
theorem dX12_utters_7 : decode cX12_utters 7 = .ok (.iload_n 1, 1) := by decide +kernel
theorem dX12_utters_8 : decode cX12_utters 8 = .ok (.invokestatic 222, 3) := by decide +kernel
theorem dX12_utters_11 : decode cX12_utters 11 = .ok (.iaload, 1) := by decide +kernel
theorem dX12_utters_12 : decode cX12_utters 12 = .ok (.if_icmp .ge 41, 3) := by decide +kernel
theorem dX12_utters_15 : decode cX12_utters 15 = .ok (.aload_n 0, 1) := by decide +kernel
theorem dX12_utters_16 : decode cX12_utters 16 = .ok (.getfield 50, 3) := by decide +kernel
theorem dX12_utters_19 : decode cX12_utters 19 = .ok (.aload_n 0, 1) := by decide +kernel
theorem dX12_utters_20 : decode cX12_utters 20 = .ok (.getfield 376, 3) := by decide +kernel
theorem dX12_utters_23 : decode cX12_utters 23 = .ok (.aload_n 0, 1) := by decide +kernel
theorem dX12_utters_24 : decode cX12_utters 24 = .ok (.getfield 7, 3) := by decide +kernel
theorem dX12_utters_27 : decode cX12_utters 27 = .ok (.iload_n 1, 1) := by decide +kernel
theorem dX12_utters_28 : decode cX12_utters 28 = .ok (.invokestatic 222, 3) := by decide +kernel
theorem dX12_utters_31 : decode cX12_utters 31 = .ok (.iconst 1, 1) := by decide +kernel
theorem dX12_utters_32 : decode cX12_utters 32 = .ok (.iadd, 1) := by decide +kernel
theorem dX12_utters_33 : decode cX12_utters 33 = .ok (.iload_n 2, 1) := by decide +kernel
theorem dX12_utters_34 : decode cX12_utters 34 = .ok (.iadd, 1) := by decide +kernel
theorem dX12_utters_35 : decode cX12_utters 35 = .ok (.iaload, 1) := by decide +kernel
theorem dX12_utters_36 : decode cX12_utters 36 = .ok (.iastore, 1) := by decide +kernel
theorem dX12_utters_37 : decode cX12_utters 37 = .ok (.aload_n 0, 1) := by decide +kernel
theorem dX12_utters_38 : decode cX12_utters 38 = .ok (.dup, 1) := by decide +kernel
theorem dX12_utters_39 : decode cX12_utters 39 = .ok (.getfield 376, 3) := by decide +kernel
theorem dX12_utters_42 : decode cX12_utters 42 = .ok (.iconst 1, 1) := by decide +kernel
theorem dX12_utters_43 : decode cX12_utters 43 = .ok (.iadd, 1) := by decide +kernel
theorem dX12_utters_44 : decode cX12_utters 44 = .ok (.putfield 376, 3) := by decide +kernel
theorem dX12_utters_47 : decode cX12_utters 47 = .ok (.iinc 2 1, 3) := by decide +kernel
theorem dX12_utters_50 : decode cX12_utters 50 = .ok (.goto (-48), 3) := by decide +kernel
theorem dX12_utters_53 : decode cX12_utters 53 = .ok (.return_, 1) := by decide +kernel
set_option maxRecDepth 100000 in
def f_X12_utters_2 : Nat → Nat → Int32 → Int32 → dtM → Option dtM
  | 0, _, _, _, _ => none
  | n + 1, l0, l1, l2, μ =>
    (opGR 12 0 μ l0).bind fun x1 => opCall (f_X12_wordRow l1 μ) fun x5 μ3 => (opLI 1 μ3 x1 x5).bind fun x6 => if x6 ≤ l2 then (some μ3) else ((opGR 12 25 μ3 l0).bind fun x11 => (opGI 12 27 μ3 l0).bind fun x13 => (opGR 12 0 μ3 l0).bind fun x15 => opCall (f_X12_wordRow l1 μ3) fun x19 μ17 => (opLI 1 μ17 x15 ((x19 + (1 : Int32)) + l2)).bind fun x20 => (opSI μ17 x11 x13 x20).bind fun μ22 => (opGI 12 27 μ22 l0).bind fun x24 => (opPI 12 27 μ22 l0 (x24 + (1 : Int32))).bind fun μ26 => f_X12_utters_2 n l0 l1 (l2 + 1) μ26)
set_option maxRecDepth 100000 in
def f_X12_utters (p0 : Nat) (p1 : Int32) (μ : dtM) : Option dtM :=
  f_X12_utters_2 dtFuel p0 p1 (0 : Int32) μ
set_option maxRecDepth 100000 in
theorem c_X12_utters_2 {F : dtM} : ∀ (n : Nat) (l0 : Nat) (l1 : Int32) (l2 : Int32) (μ : dtM), f_X12_utters_2 n l0 l1 l2 μ = some F → dtW yX12_utters cX12_utters 3 (none) 2 (none) F 2 [some (.ref l0), some (.int l1), some (.int l2)] [] μ := by
  intro n
  induction n with
  | zero => intro l0 l1 l2 μ h; cases h
  | succ n ih =>
    intro l0 l1 l2 μ h
    have h := (show f_X12_utters_2 (n + 1) l0 l1 l2 μ = some _ from h)
    rw [f_X12_utters_2] at h
    refine dr_iload_n l2 dX12_utters_2 rfl ?_
    refine dr_aload_n l0 dX12_utters_3 rfl ?_
    obtain ⟨x1, e2, h⟩ := dtBind h
    refine dr_getR x1 dX12_utters_4 fl_RX12_7 e2 ?_
    refine dr_iload_n l1 dX12_utters_7 rfl ?_
    obtain ⟨x5, μ3, e4, h⟩ := dtCall h
    refine dr_callS_i (S0 := [.ref x1, .int l2]) [.int l1] x5 μ3 dX12_utters_8 (c_X12_wordRow l1 μ e4) mf_X12_wordRow wt_1625 wt_1624 rfl (Nat.le_of_ble_eq_true rfl) (Nat.le_of_ble_eq_true rfl) rfl ?_
    obtain ⟨x6, e7, h⟩ := dtBind h
    refine dr_iaload x6 dX12_utters_11 e7 ?_
    obtain ⟨ht9, hf10⟩ := dtIte h
    refine dr_icmp_ge 53 dX12_utters_12 (by decide) (fun hc8 => ?_) (fun hc8 => ?_)
    · have h := ht9 hc8
      cases h
      exact dr_return dX12_utters_53
    · have h := hf10 hc8
      refine dr_aload_n l0 dX12_utters_15 rfl ?_
      obtain ⟨x11, e12, h⟩ := dtBind h
      refine dr_getR x11 dX12_utters_16 fl_RX12_50 e12 ?_
      refine dr_aload_n l0 dX12_utters_19 rfl ?_
      obtain ⟨x13, e14, h⟩ := dtBind h
      refine dr_getI x13 dX12_utters_20 fl_RX12_376 e14 ?_
      refine dr_aload_n l0 dX12_utters_23 rfl ?_
      obtain ⟨x15, e16, h⟩ := dtBind h
      refine dr_getR x15 dX12_utters_24 fl_RX12_7 e16 ?_
      refine dr_iload_n l1 dX12_utters_27 rfl ?_
      obtain ⟨x19, μ17, e18, h⟩ := dtCall h
      refine dr_callS_i (S0 := [.ref x15, .int x13, .ref x11]) [.int l1] x19 μ17 dX12_utters_28 (c_X12_wordRow l1 μ3 e18) mf_X12_wordRow wt_1625 wt_1624 rfl (Nat.le_of_ble_eq_true rfl) (Nat.le_of_ble_eq_true rfl) rfl ?_
      refine dr_iconst (1 : Int32) dX12_utters_31 (by decide) ?_
      refine dr_iadd dX12_utters_32 ?_
      refine dr_iload_n l2 dX12_utters_33 rfl ?_
      refine dr_iadd dX12_utters_34 ?_
      obtain ⟨x20, e21, h⟩ := dtBind h
      refine dr_iaload x20 dX12_utters_35 e21 ?_
      obtain ⟨μ22, e23, h⟩ := dtBind h
      refine dr_iastore μ22 dX12_utters_36 e23 ?_
      refine dr_aload_n l0 dX12_utters_37 rfl ?_
      refine dr_dup dX12_utters_38 rfl ?_
      obtain ⟨x24, e25, h⟩ := dtBind h
      refine dr_getI x24 dX12_utters_39 fl_RX12_376 e25 ?_
      refine dr_iconst (1 : Int32) dX12_utters_42 (by decide) ?_
      refine dr_iadd dX12_utters_43 ?_
      obtain ⟨μ26, e27, h⟩ := dtBind h
      refine dr_putI μ26 dX12_utters_44 fl_RX12_376 rfl e27 ?_
      refine dr_iinc l2 (l2 + 1) [some (.ref l0), some (.int l1), some (.int (l2 + 1))] dX12_utters_47 rfl rfl rfl rfl rfl ?_
      refine dr_goto 2 dX12_utters_50 (by decide) ?_
      exact ih l0 l1 (l2 + 1) μ26 h
set_option maxRecDepth 100000 in
theorem c_X12_utters {F : dtM} (p0 : Nat) (p1 : Int32) (μ : dtM) (h : f_X12_utters p0 p1 μ = some F) : dtMet yX12_utters cX12_utters 3 (none) 2 [.ref p0, .int p1] μ (none) F := by
  refine dtMet.of (by decide +kernel) (Nat.le_of_ble_eq_true rfl) (show dtW yX12_utters cX12_utters 3 (none) 2 (none) F 0 [some (.ref p0), some (.int p1)] [] μ from ?_)
  rw [f_X12_utters] at h
  refine dr_iconst (0 : Int32) dX12_utters_0 (by decide) ?_
  refine dr_istore_n 2 [some (.ref p0), some (.int p1), some (.int (0 : Int32))] dX12_utters_1 rfl rfl rfl rfl ?_
  exact c_X12_utters_2 dtFuel p0 p1 (0 : Int32) μ h
/-! X12_unsaid -/
theorem dX12_unsaid_0 : decode cX12_unsaid 0 = .ok (.aload_n 0, 1) := by decide +kernel
theorem dX12_unsaid_1 : decode cX12_unsaid 1 = .ok (.iload_n 1, 1) := by decide +kernel
theorem dX12_unsaid_2 : decode cX12_unsaid 2 = .ok (.iload_n 2, 1) := by decide +kernel
theorem dX12_unsaid_3 : decode cX12_unsaid 3 = .ok (.iload_n 3, 1) := by decide +kernel
theorem dX12_unsaid_4 : decode cX12_unsaid 4 = .ok (.bipush 6, 2) := by decide +kernel
theorem dX12_unsaid_6 : decode cX12_unsaid 6 = .ok (.aload_n 0, 1) := by decide +kernel
theorem dX12_unsaid_7 : decode cX12_unsaid 7 = .ok (.getfield 7, 3) := by decide +kernel
theorem dX12_unsaid_10 : decode cX12_unsaid 10 = .ok (.iconst 2, 1) := by decide +kernel
theorem dX12_unsaid_11 : decode cX12_unsaid 11 = .ok (.iaload, 1) := by decide +kernel
theorem dX12_unsaid_12 : decode cX12_unsaid 12 = .ok (.invokevirtual 391, 3) := by decide +kernel
theorem dX12_unsaid_15 : decode cX12_unsaid 15 = .ok (.istore 4, 2) := by decide +kernel
theorem dX12_unsaid_17 : decode cX12_unsaid 17 = .ok (.iload 4, 2) := by decide +kernel
theorem dX12_unsaid_19 : decode cX12_unsaid 19 = .ok (.ifCond .le 10, 3) := by decide +kernel
theorem dX12_unsaid_22 : decode cX12_unsaid 22 = .ok (.aload_n 0, 1) := by decide +kernel
theorem dX12_unsaid_23 : decode cX12_unsaid 23 = .ok (.iload 4, 2) := by decide +kernel
theorem dX12_unsaid_25 : decode cX12_unsaid 25 = .ok (.invokevirtual 93, 3) := by decide +kernel
theorem dX12_unsaid_28 : decode cX12_unsaid 28 = .ok (.ireturn, 1) := by decide +kernel
theorem dX12_unsaid_29 : decode cX12_unsaid 29 = .ok (.aload_n 0, 1) := by decide +kernel
theorem dX12_unsaid_30 : decode cX12_unsaid 30 = .ok (.iconst 0, 1) := by decide +kernel
theorem dX12_unsaid_31 : decode cX12_unsaid 31 = .ok (.putfield 376, 3) := by decide +kernel
theorem dX12_unsaid_34 : decode cX12_unsaid 34 = .ok (.iconst 0, 1) := by decide +kernel
theorem dX12_unsaid_35 : decode cX12_unsaid 35 = .ok (.istore 5, 2) := by decide +kernel
theorem dX12_unsaid_37 : decode cX12_unsaid 37 = .ok (.iload 5, 2) := by decide +kernel
theorem dX12_unsaid_39 : decode cX12_unsaid 39 = .ok (.iload_n 3, 1) := by decide +kernel
theorem dX12_unsaid_40 : decode cX12_unsaid 40 = .ok (.if_icmp .ge 26, 3) := by decide +kernel
theorem dX12_unsaid_43 : decode cX12_unsaid 43 = .ok (.aload_n 0, 1) := by decide +kernel
theorem dX12_unsaid_44 : decode cX12_unsaid 44 = .ok (.aload_n 0, 1) := by decide +kernel
theorem dX12_unsaid_45 : decode cX12_unsaid 45 = .ok (.getfield 27, 3) := by decide +kernel
theorem dX12_unsaid_48 : decode cX12_unsaid 48 = .ok (.bipush 60, 2) := by decide +kernel
theorem dX12_unsaid_50 : decode cX12_unsaid 50 = .ok (.iload_n 2, 1) := by decide +kernel
theorem dX12_unsaid_51 : decode cX12_unsaid 51 = .ok (.imul, 1) := by decide +kernel
theorem dX12_unsaid_52 : decode cX12_unsaid 52 = .ok (.iload 5, 2) := by decide +kernel
theorem dX12_unsaid_54 : decode cX12_unsaid 54 = .ok (.iadd, 1) := by decide +kernel
theorem dX12_unsaid_55 : decode cX12_unsaid 55 = .ok (.laload, 1) := by decide +kernel
theorem dX12_unsaid_56 : decode cX12_unsaid 56 = .ok (.l2i, 1) := by decide +kernel
theorem dX12_unsaid_57 : decode cX12_unsaid 57 = .ok (.invokevirtual 395, 3) := by decide +kernel
theorem dX12_unsaid_60 : decode cX12_unsaid 60 = .ok (.iinc 5 1, 3) := by decide +kernel
theorem dX12_unsaid_63 : decode cX12_unsaid 63 = .ok (.goto (-26), 3) := by decide +kernel
theorem dX12_unsaid_66 : decode cX12_unsaid 66 = .ok (.aload_n 0, 1) := by decide +kernel
theorem dX12_unsaid_67 : decode cX12_unsaid 67 = .ok (.aload_n 0, 1) := by decide +kernel
theorem dX12_unsaid_68 : decode cX12_unsaid 68 = .ok (.aload_n 0, 1) := by decide +kernel
theorem dX12_unsaid_69 : decode cX12_unsaid 69 = .ok (.iload_n 1, 1) := by decide +kernel
theorem dX12_unsaid_70 : decode cX12_unsaid 70 = .ok (.iconst 2, 1) := by decide +kernel
theorem dX12_unsaid_71 : decode cX12_unsaid 71 = .ok (.invokevirtual 295, 3) := by decide +kernel
theorem dX12_unsaid_74 : decode cX12_unsaid 74 = .ok (.invokevirtual 382, 3) := by decide +kernel
theorem dX12_unsaid_77 : decode cX12_unsaid 77 = .ok (.invokevirtual 97, 3) := by decide +kernel
theorem dX12_unsaid_80 : decode cX12_unsaid 80 = .ok (.ireturn, 1) := by decide +kernel
set_option maxRecDepth 100000 in
def f_X12_unsaid_37 : Nat → Nat → Int32 → Int32 → Int32 → Int32 → dtM → Option (Int32 × dtM)
  | 0, _, _, _, _, _, _ => none
  | n + 1, l0, l1, l2, l3, l5, μ =>
    if l3 ≤ l5 then ((opRv 12 μ l0).bind fun _ => opCall (f_X12_personOf l0 l1 (2 : Int32) μ) fun x7 μ5 => (opRv 12 μ5 l0).bind fun _ => opCall (f_X12_laysReadings l0 x7 μ5) fun x11 μ9 => (opRv 12 μ9 l0).bind fun _ => opCall (f_X12_gives l0 x11 μ9) fun x15 μ13 => some (x15, μ13)) else ((opGR 12 7 μ l0).bind fun x16 => (opLJ 3 μ x16 (((60 : Int32) * l2) + l5)).bind fun x18 => (opRv 12 μ l0).bind fun _ => (f_X12_utters l0 (x18.toInt32) μ).bind fun μ21 => f_X12_unsaid_37 n l0 l1 l2 l3 (l5 + 1) μ21)
set_option maxRecDepth 100000 in
def f_X12_unsaid (p0 : Nat) (p1 : Int32) (p2 : Int32) (p3 : Int32) (μ : dtM) : Option (Int32 × dtM) :=
  (opGR 12 0 μ p0).bind fun x1 => (opLI 1 μ x1 (2 : Int32)).bind fun x3 => (opRv 12 μ p0).bind fun _ => opCall (f_X12_wrongRow p0 p1 p2 p3 (6 : Int32) x3 μ) fun x8 μ6 => if x8 ≤ 0 then ((opPI 12 27 μ6 p0 (0 : Int32)).bind fun μ12 => f_X12_unsaid_37 dtFuel p0 p1 p2 p3 (0 : Int32) μ12) else ((opRv 12 μ6 p0).bind fun _ => opCall (f_X12_refuse p0 x8 μ6) fun x17 μ15 => some (x17, μ15))
set_option maxRecDepth 100000 in
theorem c_X12_unsaid_37 {r : Int32} {F : dtM} : ∀ (n : Nat) (l0 : Nat) (l1 : Int32) (l2 : Int32) (l3 : Int32) (l5 : Int32) (μ : dtM), f_X12_unsaid_37 n l0 l1 l2 l3 l5 μ = some (r, F) → dtW yX12_unsaid cX12_unsaid 6 (some .int) 4 (some (.int r)) F 37 [some (.ref l0), some (.int l1), some (.int l2), some (.int l3), none, some (.int l5)] [] μ := by
  intro n
  induction n with
  | zero => intro l0 l1 l2 l3 l5 μ h; cases h
  | succ n ih =>
    intro l0 l1 l2 l3 l5 μ h
    have h := (show f_X12_unsaid_37 (n + 1) l0 l1 l2 l3 l5 μ = some _ from h)
    rw [f_X12_unsaid_37] at h
    refine dr_iload l5 dX12_unsaid_37 rfl ?_
    refine dr_iload_n l3 dX12_unsaid_39 rfl ?_
    obtain ⟨ht2, hf3⟩ := dtIte h
    refine dr_icmp_ge 66 dX12_unsaid_40 (by decide) (fun hc1 => ?_) (fun hc1 => ?_)
    · have h := ht2 hc1
      refine dr_aload_n l0 dX12_unsaid_66 rfl ?_
      refine dr_aload_n l0 dX12_unsaid_67 rfl ?_
      refine dr_aload_n l0 dX12_unsaid_68 rfl ?_
      refine dr_iload_n l1 dX12_unsaid_69 rfl ?_
      refine dr_iconst (2 : Int32) dX12_unsaid_70 (by decide) ?_
      obtain ⟨_, hb4, h⟩ := dtBind h
      obtain ⟨x7, μ5, e6, h⟩ := dtCall h
      refine dr_callV_i (S0 := [.ref l0, .ref l0]) [.int l1, .int (2 : Int32)] x7 μ5 dX12_unsaid_71 (c_X12_personOf l0 l1 (2 : Int32) μ e6) mf_X12_personOf wt_1736 ws_96 wt_1734 rfl (dtRv hb4) (by decide) rfl (Nat.le_of_ble_eq_true rfl) (Nat.le_of_ble_eq_true rfl) rfl ?_
      obtain ⟨_, hb8, h⟩ := dtBind h
      obtain ⟨x11, μ9, e10, h⟩ := dtCall h
      refine dr_callV_i (S0 := [.ref l0]) [.int x7] x11 μ9 dX12_unsaid_74 (c_X12_laysReadings l0 x7 μ5 e10) mf_X12_laysReadings wt_1885 ws_112 wt_1883 rfl (dtRv hb8) (by decide) rfl (Nat.le_of_ble_eq_true rfl) (Nat.le_of_ble_eq_true rfl) rfl ?_
      obtain ⟨_, hb12, h⟩ := dtBind h
      obtain ⟨x15, μ13, e14, h⟩ := dtCall h
      refine dr_callV_i (S0 := []) [.int x11] x15 μ13 dX12_unsaid_77 (c_X12_gives l0 x11 μ9 e14) mf_X12_gives wt_1668 ws_85 wt_1666 rfl (dtRv hb12) (by decide) rfl (Nat.le_of_ble_eq_true rfl) (Nat.le_of_ble_eq_true rfl) rfl ?_
      cases h
      exact dr_ireturn dX12_unsaid_80 rfl
    · have h := hf3 hc1
      refine dr_aload_n l0 dX12_unsaid_43 rfl ?_
      refine dr_aload_n l0 dX12_unsaid_44 rfl ?_
      obtain ⟨x16, e17, h⟩ := dtBind h
      refine dr_getR x16 dX12_unsaid_45 fl_RX12_27 e17 ?_
      refine dr_bipush (60 : Int32) dX12_unsaid_48 (by decide) ?_
      refine dr_iload_n l2 dX12_unsaid_50 rfl ?_
      refine dr_imul dX12_unsaid_51 ?_
      refine dr_iload l5 dX12_unsaid_52 rfl ?_
      refine dr_iadd dX12_unsaid_54 ?_
      obtain ⟨x18, e19, h⟩ := dtBind h
      refine dr_laload x18 dX12_unsaid_55 e19 ?_
      refine dr_l2i dX12_unsaid_56 ?_
      obtain ⟨_, hb20, h⟩ := dtBind h
      obtain ⟨μ21, e22, h⟩ := dtBind h
      refine dr_callV_v (S0 := []) [.int (x18.toInt32)] μ21 dX12_unsaid_57 (c_X12_utters l0 (x18.toInt32) μ e22) mf_X12_utters wt_1917 ws_116 wt_1915 rfl (dtRv hb20) (by decide) rfl (Nat.le_of_ble_eq_true rfl) (Nat.le_of_ble_eq_true rfl) rfl ?_
      refine dr_iinc l5 (l5 + 1) [some (.ref l0), some (.int l1), some (.int l2), some (.int l3), none, some (.int (l5 + 1))] dX12_unsaid_60 rfl rfl rfl rfl rfl ?_
      refine dr_goto 37 dX12_unsaid_63 (by decide) ?_
      exact ih l0 l1 l2 l3 (l5 + 1) μ21 h
set_option maxRecDepth 100000 in
theorem c_X12_unsaid {r : Int32} {F : dtM} (p0 : Nat) (p1 : Int32) (p2 : Int32) (p3 : Int32) (μ : dtM) (h : f_X12_unsaid p0 p1 p2 p3 μ = some (r, F)) : dtMet yX12_unsaid cX12_unsaid 6 (some .int) 4 [.ref p0, .int p1, .int p2, .int p3] μ (some (.int r)) F := by
  refine dtMet.of (by decide +kernel) (Nat.le_of_ble_eq_true rfl) (show dtW yX12_unsaid cX12_unsaid 6 (some .int) 4 (some (.int r)) F 0 [some (.ref p0), some (.int p1), some (.int p2), some (.int p3)] [] μ from ?_)
  rw [f_X12_unsaid] at h
  refine dr_aload_n p0 dX12_unsaid_0 rfl ?_
  refine dr_iload_n p1 dX12_unsaid_1 rfl ?_
  refine dr_iload_n p2 dX12_unsaid_2 rfl ?_
  refine dr_iload_n p3 dX12_unsaid_3 rfl ?_
  refine dr_bipush (6 : Int32) dX12_unsaid_4 (by decide) ?_
  refine dr_aload_n p0 dX12_unsaid_6 rfl ?_
  obtain ⟨x1, e2, h⟩ := dtBind h
  refine dr_getR x1 dX12_unsaid_7 fl_RX12_7 e2 ?_
  refine dr_iconst (2 : Int32) dX12_unsaid_10 (by decide) ?_
  obtain ⟨x3, e4, h⟩ := dtBind h
  refine dr_iaload x3 dX12_unsaid_11 e4 ?_
  obtain ⟨_, hb5, h⟩ := dtBind h
  obtain ⟨x8, μ6, e7, h⟩ := dtCall h
  refine dr_callV_i (S0 := []) [.int p1, .int p2, .int p3, .int (6 : Int32), .int x3] x8 μ6 dX12_unsaid_12 (c_X12_wrongRow p0 p1 p2 p3 (6 : Int32) x3 μ e7) mf_X12_wrongRow wt_1909 ws_115 wt_1907 rfl (dtRv hb5) (by decide) rfl (Nat.le_of_ble_eq_true rfl) (Nat.le_of_ble_eq_true rfl) rfl ?_
  refine dr_istore [some (.ref p0), some (.int p1), some (.int p2), some (.int p3), some (.int x8)] dX12_unsaid_15 rfl rfl rfl ?_
  refine dr_iload x8 dX12_unsaid_17 rfl ?_
  obtain ⟨ht10, hf11⟩ := dtIte h
  refine dr_if_le 29 dX12_unsaid_19 (by decide) (fun hc9 => ?_) (fun hc9 => ?_)
  · have h := ht10 hc9
    refine dr_aload_n p0 dX12_unsaid_29 rfl ?_
    refine dr_iconst (0 : Int32) dX12_unsaid_30 (by decide) ?_
    obtain ⟨μ12, e13, h⟩ := dtBind h
    refine dr_putI μ12 dX12_unsaid_31 fl_RX12_376 rfl e13 ?_
    refine dr_iconst (0 : Int32) dX12_unsaid_34 (by decide) ?_
    refine dr_istore [some (.ref p0), some (.int p1), some (.int p2), some (.int p3), some (.int x8), some (.int (0 : Int32))] dX12_unsaid_35 rfl rfl rfl ?_
    refine dr_mask [true, true, true, true, false, true] [some (.ref p0), some (.int p1), some (.int p2), some (.int p3), none, some (.int (0 : Int32))] rfl ?_
    exact c_X12_unsaid_37 dtFuel p0 p1 p2 p3 (0 : Int32) μ12 h
  · have h := hf11 hc9
    refine dr_aload_n p0 dX12_unsaid_22 rfl ?_
    refine dr_iload x8 dX12_unsaid_23 rfl ?_
    obtain ⟨_, hb14, h⟩ := dtBind h
    obtain ⟨x17, μ15, e16, h⟩ := dtCall h
    refine dr_callV_i (S0 := []) [.int x8] x17 μ15 dX12_unsaid_25 (c_X12_refuse p0 x8 μ6 e16) mf_X12_refuse wt_1552 ws_59 wt_1550 rfl (dtRv hb14) (by decide) rfl (Nat.le_of_ble_eq_true rfl) (Nat.le_of_ble_eq_true rfl) rfl ?_
    cases h
    exact dr_ireturn dX12_unsaid_28 rfl
/-! X12_laysDoubt -/
theorem dX12_laysDoubt_0 : decode cX12_laysDoubt 0 = .ok (.iconst 1, 1) := by decide +kernel
theorem dX12_laysDoubt_1 : decode cX12_laysDoubt 1 = .ok (.istore_n 2, 1) := by decide +kernel
theorem dX12_laysDoubt_2 : decode cX12_laysDoubt 2 = .ok (.iconst 1, 1) := by decide +kernel
theorem dX12_laysDoubt_3 : decode cX12_laysDoubt 3 = .ok (.istore_n 3, 1) := by decide +kernel
theorem dX12_laysDoubt_4 : decode cX12_laysDoubt 4 = .ok (.iload_n 3, 1) := by decide +kernel
theorem dX12_laysDoubt_5 : decode cX12_laysDoubt 5 = .ok (.bipush 7, 2) := by decide +kernel
theorem dX12_laysDoubt_7 : decode cX12_laysDoubt 7 = .ok (.if_icmp .gt 86, 3) := by decide +kernel
theorem dX12_laysDoubt_10 : decode cX12_laysDoubt 10 = .ok (.iload_n 2, 1) := by decide +kernel
theorem dX12_laysDoubt_11 : decode cX12_laysDoubt 11 = .ok (.iconst 4, 1) := by decide +kernel
theorem dX12_laysDoubt_12 : decode cX12_laysDoubt 12 = .ok (.imul, 1) := by decide +kernel
theorem dX12_laysDoubt_13 : decode cX12_laysDoubt 13 = .ok (.istore_n 2, 1) := by decide +kernel
theorem dX12_laysDoubt_14 : decode cX12_laysDoubt 14 = .ok (.aload_n 0, 1) := by decide +kernel
theorem dX12_laysDoubt_15 : decode cX12_laysDoubt 15 = .ok (.iload_n 3, 1) := by decide +kernel
theorem dX12_laysDoubt_16 : decode cX12_laysDoubt 16 = .ok (.putfield 376, 3) := by decide +kernel
theorem dX12_laysDoubt_19 : decode cX12_laysDoubt 19 = .ok (.iconst 0, 1) := by decide +kernel
theorem dX12_laysDoubt_20 : decode cX12_laysDoubt 20 = .ok (.istore 4, 2) := by decide +kernel
theorem dX12_laysDoubt_22 : decode cX12_laysDoubt 22 = .ok (.iload 4, 2) := by decide +kernel
theorem dX12_laysDoubt_24 : decode cX12_laysDoubt 24 = .ok (.iload_n 2, 1) := by decide +kernel
theorem dX12_laysDoubt_25 : decode cX12_laysDoubt 25 = .ok (.if_icmp .ge 62, 3) := by decide +kernel
theorem dX12_laysDoubt_28 : decode cX12_laysDoubt 28 = .ok (.iload 4, 2) := by decide +kernel
theorem dX12_laysDoubt_30 : decode cX12_laysDoubt 30 = .ok (.istore 5, 2) := by decide +kernel
theorem dX12_laysDoubt_32 : decode cX12_laysDoubt 32 = .ok (.iload_n 3, 1) := by decide +kernel
theorem dX12_laysDoubt_33 : decode cX12_laysDoubt 33 = .ok (.iconst 1, 1) := by decide +kernel
theorem dX12_laysDoubt_34 : decode cX12_laysDoubt 34 = .ok (.isub, 1) := by decide +kernel
theorem dX12_laysDoubt_35 : decode cX12_laysDoubt 35 = .ok (.istore 6, 2) := by decide +kernel
theorem dX12_laysDoubt_37 : decode cX12_laysDoubt 37 = .ok (.iload 6, 2) := by decide +kernel
theorem dX12_laysDoubt_39 : decode cX12_laysDoubt 39 = .ok (.ifCond .lt 26, 3) := by decide +kernel
theorem dX12_laysDoubt_42 : decode cX12_laysDoubt 42 = .ok (.aload_n 0, 1) := by decide +kernel
theorem dX12_laysDoubt_43 : decode cX12_laysDoubt 43 = .ok (.getfield 50, 3) := by decide +kernel
theorem dX12_laysDoubt_46 : decode cX12_laysDoubt 46 = .ok (.iload 6, 2) := by decide +kernel
theorem dX12_laysDoubt_48 : decode cX12_laysDoubt 48 = .ok (.iload 5, 2) := by decide +kernel
theorem dX12_laysDoubt_50 : decode cX12_laysDoubt 50 = .ok (.iconst 4, 1) := by decide +kernel
theorem dX12_laysDoubt_51 : decode cX12_laysDoubt 51 = .ok (.irem, 1) := by decide +kernel
theorem dX12_laysDoubt_52 : decode cX12_laysDoubt 52 = .ok (.iastore, 1) := by decide +kernel
theorem dX12_laysDoubt_53 : decode cX12_laysDoubt 53 = .ok (.iload 5, 2) := by decide +kernel
theorem dX12_laysDoubt_55 : decode cX12_laysDoubt 55 = .ok (.iconst 4, 1) := by decide +kernel
theorem dX12_laysDoubt_56 : decode cX12_laysDoubt 56 = .ok (.idiv, 1) := by decide +kernel
theorem dX12_laysDoubt_57 : decode cX12_laysDoubt 57 = .ok (.istore 5, 2) := by decide +kernel
theorem dX12_laysDoubt_59 : decode cX12_laysDoubt 59 = .ok (.iinc 6 (-1), 3) := by decide +kernel
theorem dX12_laysDoubt_62 : decode cX12_laysDoubt 62 = .ok (.goto (-25), 3) := by decide +kernel
theorem dX12_laysDoubt_65 : decode cX12_laysDoubt 65 = .ok (.aload_n 0, 1) := by decide +kernel
theorem dX12_laysDoubt_66 : decode cX12_laysDoubt 66 = .ok (.aload_n 0, 1) := by decide +kernel
theorem dX12_laysDoubt_67 : decode cX12_laysDoubt 67 = .ok (.iload_n 1, 1) := by decide +kernel
theorem dX12_laysDoubt_68 : decode cX12_laysDoubt 68 = .ok (.iconst 2, 1) := by decide +kernel
theorem dX12_laysDoubt_69 : decode cX12_laysDoubt 69 = .ok (.invokevirtual 295, 3) := by decide +kernel
theorem dX12_laysDoubt_72 : decode cX12_laysDoubt 72 = .ok (.invokevirtual 382, 3) := by decide +kernel
theorem dX12_laysDoubt_75 : decode cX12_laysDoubt 75 = .ok (.iconst 1, 1) := by decide +kernel
theorem dX12_laysDoubt_76 : decode cX12_laysDoubt 76 = .ok (.if_icmp .le 5, 3) := by decide +kernel
theorem dX12_laysDoubt_79 : decode cX12_laysDoubt 79 = .ok (.iconst 1, 1) := by decide +kernel
theorem dX12_laysDoubt_80 : decode cX12_laysDoubt 80 = .ok (.ireturn, 1) := by decide +kernel
theorem dX12_laysDoubt_81 : decode cX12_laysDoubt 81 = .ok (.iinc 4 1, 3) := by decide +kernel
theorem dX12_laysDoubt_84 : decode cX12_laysDoubt 84 = .ok (.goto (-62), 3) := by decide +kernel
theorem dX12_laysDoubt_87 : decode cX12_laysDoubt 87 = .ok (.iinc 3 1, 3) := by decide +kernel
theorem dX12_laysDoubt_90 : decode cX12_laysDoubt 90 = .ok (.goto (-86), 3) := by decide +kernel
theorem dX12_laysDoubt_93 : decode cX12_laysDoubt 93 = .ok (.iconst 0, 1) := by decide +kernel
theorem dX12_laysDoubt_94 : decode cX12_laysDoubt 94 = .ok (.ireturn, 1) := by decide +kernel
set_option maxRecDepth 100000 in
def f_X12_laysDoubt_37 (k4 : Nat → Int32 → Int32 → Int32 → dtM → Option (Int32 × dtM)) (k22 : Nat → Int32 → Int32 → Int32 → Int32 → dtM → Option (Int32 × dtM)) : Nat → Nat → Int32 → Int32 → Int32 → Int32 → Int32 → Int32 → dtM → Option (Int32 × dtM)
  | 0, _, _, _, _, _, _, _, _ => none
  | n + 1, l0, l1, l2, l3, l4, l5, l6, μ =>
    if l6 < 0 then ((opRv 12 μ l0).bind fun _ => opCall (f_X12_personOf l0 l1 (2 : Int32) μ) fun x7 μ5 => (opRv 12 μ5 l0).bind fun _ => opCall (f_X12_laysReadings l0 x7 μ5) fun x11 μ9 => if x11 ≤ (1 : Int32) then (k22 l0 l1 l2 l3 (l4 + 1) μ9) else (opRet (1 : Int32) μ9)) else ((opGR 12 25 μ l0).bind fun x15 => (opRem l5 (4 : Int32)).bind fun x17 => (opSI μ x15 l6 x17).bind fun μ19 => (opDiv l5 (4 : Int32)).bind fun x21 => f_X12_laysDoubt_37 k4 k22 n l0 l1 l2 l3 l4 x21 (l6 + (-1)) μ19)
set_option maxRecDepth 100000 in
def f_X12_laysDoubt_22 (k4 : Nat → Int32 → Int32 → Int32 → dtM → Option (Int32 × dtM)) : Nat → Nat → Int32 → Int32 → Int32 → Int32 → dtM → Option (Int32 × dtM)
  | 0, _, _, _, _, _, _ => none
  | n + 1, l0, l1, l2, l3, l4, μ =>
    if l2 ≤ l4 then (k4 l0 l1 l2 (l3 + 1) μ) else ((some (l3 - (1 : Int32))).bind fun x4 => f_X12_laysDoubt_37 k4 (f_X12_laysDoubt_22 k4 n) dtFuel l0 l1 l2 l3 l4 l4 x4 μ)
set_option maxRecDepth 100000 in
def f_X12_laysDoubt_4 : Nat → Nat → Int32 → Int32 → Int32 → dtM → Option (Int32 × dtM)
  | 0, _, _, _, _, _ => none
  | n + 1, l0, l1, l2, l3, μ =>
    if (7 : Int32) < l3 then (opRet (0 : Int32) μ) else ((some (l2 * (4 : Int32))).bind fun x4 => (opPI 12 27 μ l0 l3).bind fun μ6 => f_X12_laysDoubt_22 (f_X12_laysDoubt_4 n) dtFuel l0 l1 x4 l3 (0 : Int32) μ6)
set_option maxRecDepth 100000 in
def f_X12_laysDoubt (p0 : Nat) (p1 : Int32) (μ : dtM) : Option (Int32 × dtM) :=
  f_X12_laysDoubt_4 dtFuel p0 p1 (1 : Int32) (1 : Int32) μ
set_option maxRecDepth 100000 in
theorem c_X12_laysDoubt_37 {r : Int32} {F : dtM} (k4 : Nat → Int32 → Int32 → Int32 → dtM → Option (Int32 × dtM)) (k22 : Nat → Int32 → Int32 → Int32 → Int32 → dtM → Option (Int32 × dtM)) (hk4 : ∀ (l0 : Nat) (l1 : Int32) (l2 : Int32) (l3 : Int32) (μ : dtM), k4 l0 l1 l2 l3 μ = some (r, F) → dtW yX12_laysDoubt cX12_laysDoubt 7 (some .boolean) 4 (some (.int r)) F 4 [some (.ref l0), some (.int l1), some (.int l2), some (.int l3)] [] μ) (hk22 : ∀ (l0 : Nat) (l1 : Int32) (l2 : Int32) (l3 : Int32) (l4 : Int32) (μ : dtM), k22 l0 l1 l2 l3 l4 μ = some (r, F) → dtW yX12_laysDoubt cX12_laysDoubt 7 (some .boolean) 4 (some (.int r)) F 22 [some (.ref l0), some (.int l1), some (.int l2), some (.int l3), some (.int l4)] [] μ) : ∀ (n : Nat) (l0 : Nat) (l1 : Int32) (l2 : Int32) (l3 : Int32) (l4 : Int32) (l5 : Int32) (l6 : Int32) (μ : dtM), f_X12_laysDoubt_37 k4 k22 n l0 l1 l2 l3 l4 l5 l6 μ = some (r, F) → dtW yX12_laysDoubt cX12_laysDoubt 7 (some .boolean) 4 (some (.int r)) F 37 [some (.ref l0), some (.int l1), some (.int l2), some (.int l3), some (.int l4), some (.int l5), some (.int l6)] [] μ := by
  intro n
  induction n with
  | zero => intro l0 l1 l2 l3 l4 l5 l6 μ h; cases h
  | succ n ih =>
    intro l0 l1 l2 l3 l4 l5 l6 μ h
    have h := (show f_X12_laysDoubt_37 k4 k22 (n + 1) l0 l1 l2 l3 l4 l5 l6 μ = some _ from h)
    rw [f_X12_laysDoubt_37] at h
    refine dr_iload l6 dX12_laysDoubt_37 rfl ?_
    obtain ⟨ht2, hf3⟩ := dtIte h
    refine dr_if_lt 65 dX12_laysDoubt_39 (by decide) (fun hc1 => ?_) (fun hc1 => ?_)
    · have h := ht2 hc1
      refine dr_aload_n l0 dX12_laysDoubt_65 rfl ?_
      refine dr_aload_n l0 dX12_laysDoubt_66 rfl ?_
      refine dr_iload_n l1 dX12_laysDoubt_67 rfl ?_
      refine dr_iconst (2 : Int32) dX12_laysDoubt_68 (by decide) ?_
      obtain ⟨_, hb4, h⟩ := dtBind h
      obtain ⟨x7, μ5, e6, h⟩ := dtCall h
      refine dr_callV_i (S0 := [.ref l0]) [.int l1, .int (2 : Int32)] x7 μ5 dX12_laysDoubt_69 (c_X12_personOf l0 l1 (2 : Int32) μ e6) mf_X12_personOf wt_1736 ws_96 wt_1734 rfl (dtRv hb4) (by decide) rfl (Nat.le_of_ble_eq_true rfl) (Nat.le_of_ble_eq_true rfl) rfl ?_
      obtain ⟨_, hb8, h⟩ := dtBind h
      obtain ⟨x11, μ9, e10, h⟩ := dtCall h
      refine dr_callV_i (S0 := []) [.int x7] x11 μ9 dX12_laysDoubt_72 (c_X12_laysReadings l0 x7 μ5 e10) mf_X12_laysReadings wt_1885 ws_112 wt_1883 rfl (dtRv hb8) (by decide) rfl (Nat.le_of_ble_eq_true rfl) (Nat.le_of_ble_eq_true rfl) rfl ?_
      refine dr_iconst (1 : Int32) dX12_laysDoubt_75 (by decide) ?_
      obtain ⟨ht13, hf14⟩ := dtIte h
      refine dr_icmp_le 81 dX12_laysDoubt_76 (by decide) (fun hc12 => ?_) (fun hc12 => ?_)
      · have h := ht13 hc12
        refine dr_iinc l4 (l4 + 1) [some (.ref l0), some (.int l1), some (.int l2), some (.int l3), some (.int (l4 + 1)), some (.int l5), some (.int l6)] dX12_laysDoubt_81 rfl rfl rfl rfl rfl ?_
        refine dr_goto 22 dX12_laysDoubt_84 (by decide) ?_
        refine dr_mask [true, true, true, true, true] [some (.ref l0), some (.int l1), some (.int l2), some (.int l3), some (.int (l4 + 1))] rfl ?_
        exact hk22 l0 l1 l2 l3 (l4 + 1) μ9 h
      · have h := hf14 hc12
        refine dr_iconst (1 : Int32) dX12_laysDoubt_79 (by decide) ?_
        obtain ⟨hz, rfl, rfl⟩ := dtRet h
        exact dr_ireturn dX12_laysDoubt_80 (dtNz hz)
    · have h := hf3 hc1
      refine dr_aload_n l0 dX12_laysDoubt_42 rfl ?_
      obtain ⟨x15, e16, h⟩ := dtBind h
      refine dr_getR x15 dX12_laysDoubt_43 fl_RX12_50 e16 ?_
      refine dr_iload l6 dX12_laysDoubt_46 rfl ?_
      refine dr_iload l5 dX12_laysDoubt_48 rfl ?_
      refine dr_iconst (4 : Int32) dX12_laysDoubt_50 (by decide) ?_
      obtain ⟨x17, e18, h⟩ := dtBind h
      refine dr_irem_n x17 dX12_laysDoubt_51 e18 ?_
      obtain ⟨μ19, e20, h⟩ := dtBind h
      refine dr_iastore μ19 dX12_laysDoubt_52 e20 ?_
      refine dr_iload l5 dX12_laysDoubt_53 rfl ?_
      refine dr_iconst (4 : Int32) dX12_laysDoubt_55 (by decide) ?_
      obtain ⟨x21, e22, h⟩ := dtBind h
      refine dr_idiv_n x21 dX12_laysDoubt_56 e22 ?_
      refine dr_istore [some (.ref l0), some (.int l1), some (.int l2), some (.int l3), some (.int l4), some (.int x21), some (.int l6)] dX12_laysDoubt_57 rfl rfl rfl ?_
      refine dr_iinc l6 (l6 + (-1)) [some (.ref l0), some (.int l1), some (.int l2), some (.int l3), some (.int l4), some (.int x21), some (.int (l6 + (-1)))] dX12_laysDoubt_59 rfl rfl rfl rfl rfl ?_
      refine dr_goto 37 dX12_laysDoubt_62 (by decide) ?_
      exact ih l0 l1 l2 l3 l4 x21 (l6 + (-1)) μ19 h
set_option maxRecDepth 100000 in
theorem c_X12_laysDoubt_22 {r : Int32} {F : dtM} (k4 : Nat → Int32 → Int32 → Int32 → dtM → Option (Int32 × dtM)) (hk4 : ∀ (l0 : Nat) (l1 : Int32) (l2 : Int32) (l3 : Int32) (μ : dtM), k4 l0 l1 l2 l3 μ = some (r, F) → dtW yX12_laysDoubt cX12_laysDoubt 7 (some .boolean) 4 (some (.int r)) F 4 [some (.ref l0), some (.int l1), some (.int l2), some (.int l3)] [] μ) : ∀ (n : Nat) (l0 : Nat) (l1 : Int32) (l2 : Int32) (l3 : Int32) (l4 : Int32) (μ : dtM), f_X12_laysDoubt_22 k4 n l0 l1 l2 l3 l4 μ = some (r, F) → dtW yX12_laysDoubt cX12_laysDoubt 7 (some .boolean) 4 (some (.int r)) F 22 [some (.ref l0), some (.int l1), some (.int l2), some (.int l3), some (.int l4)] [] μ := by
  intro n
  induction n with
  | zero => intro l0 l1 l2 l3 l4 μ h; cases h
  | succ n ih =>
    intro l0 l1 l2 l3 l4 μ h
    have h := (show f_X12_laysDoubt_22 k4 (n + 1) l0 l1 l2 l3 l4 μ = some _ from h)
    rw [f_X12_laysDoubt_22] at h
    refine dr_iload l4 dX12_laysDoubt_22 rfl ?_
    refine dr_iload_n l2 dX12_laysDoubt_24 rfl ?_
    obtain ⟨ht2, hf3⟩ := dtIte h
    refine dr_icmp_ge 87 dX12_laysDoubt_25 (by decide) (fun hc1 => ?_) (fun hc1 => ?_)
    · have h := ht2 hc1
      refine dr_iinc l3 (l3 + 1) [some (.ref l0), some (.int l1), some (.int l2), some (.int (l3 + 1)), some (.int l4)] dX12_laysDoubt_87 rfl rfl rfl rfl rfl ?_
      refine dr_goto 4 dX12_laysDoubt_90 (by decide) ?_
      refine dr_mask [true, true, true, true] [some (.ref l0), some (.int l1), some (.int l2), some (.int (l3 + 1))] rfl ?_
      exact hk4 l0 l1 l2 (l3 + 1) μ h
    · have h := hf3 hc1
      refine dr_iload l4 dX12_laysDoubt_28 rfl ?_
      refine dr_istore [some (.ref l0), some (.int l1), some (.int l2), some (.int l3), some (.int l4), some (.int l4)] dX12_laysDoubt_30 rfl rfl rfl ?_
      refine dr_iload_n l3 dX12_laysDoubt_32 rfl ?_
      refine dr_iconst (1 : Int32) dX12_laysDoubt_33 (by decide) ?_
      refine dr_isub dX12_laysDoubt_34 ?_
      obtain ⟨x4, e5, h⟩ := dtBind h
      refine dr_nmi e5 ?_
      refine dr_istore [some (.ref l0), some (.int l1), some (.int l2), some (.int l3), some (.int l4), some (.int l4), some (.int x4)] dX12_laysDoubt_35 rfl rfl rfl ?_
      exact c_X12_laysDoubt_37 k4 (f_X12_laysDoubt_22 k4 n) hk4 ih dtFuel l0 l1 l2 l3 l4 l4 x4 μ h
set_option maxRecDepth 100000 in
theorem c_X12_laysDoubt_4 {r : Int32} {F : dtM} : ∀ (n : Nat) (l0 : Nat) (l1 : Int32) (l2 : Int32) (l3 : Int32) (μ : dtM), f_X12_laysDoubt_4 n l0 l1 l2 l3 μ = some (r, F) → dtW yX12_laysDoubt cX12_laysDoubt 7 (some .boolean) 4 (some (.int r)) F 4 [some (.ref l0), some (.int l1), some (.int l2), some (.int l3)] [] μ := by
  intro n
  induction n with
  | zero => intro l0 l1 l2 l3 μ h; cases h
  | succ n ih =>
    intro l0 l1 l2 l3 μ h
    have h := (show f_X12_laysDoubt_4 (n + 1) l0 l1 l2 l3 μ = some _ from h)
    rw [f_X12_laysDoubt_4] at h
    refine dr_iload_n l3 dX12_laysDoubt_4 rfl ?_
    refine dr_bipush (7 : Int32) dX12_laysDoubt_5 (by decide) ?_
    obtain ⟨ht2, hf3⟩ := dtIte h
    refine dr_icmp_gt 93 dX12_laysDoubt_7 (by decide) (fun hc1 => ?_) (fun hc1 => ?_)
    · have h := ht2 hc1
      refine dr_iconst (0 : Int32) dX12_laysDoubt_93 (by decide) ?_
      obtain ⟨hz, rfl, rfl⟩ := dtRet h
      exact dr_ireturn dX12_laysDoubt_94 (dtNz hz)
    · have h := hf3 hc1
      refine dr_iload_n l2 dX12_laysDoubt_10 rfl ?_
      refine dr_iconst (4 : Int32) dX12_laysDoubt_11 (by decide) ?_
      refine dr_imul dX12_laysDoubt_12 ?_
      obtain ⟨x4, e5, h⟩ := dtBind h
      refine dr_nmi e5 ?_
      refine dr_istore_n 2 [some (.ref l0), some (.int l1), some (.int x4), some (.int l3)] dX12_laysDoubt_13 rfl rfl rfl rfl ?_
      refine dr_aload_n l0 dX12_laysDoubt_14 rfl ?_
      refine dr_iload_n l3 dX12_laysDoubt_15 rfl ?_
      obtain ⟨μ6, e7, h⟩ := dtBind h
      refine dr_putI μ6 dX12_laysDoubt_16 fl_RX12_376 rfl e7 ?_
      refine dr_iconst (0 : Int32) dX12_laysDoubt_19 (by decide) ?_
      refine dr_istore [some (.ref l0), some (.int l1), some (.int x4), some (.int l3), some (.int (0 : Int32))] dX12_laysDoubt_20 rfl rfl rfl ?_
      exact c_X12_laysDoubt_22 (f_X12_laysDoubt_4 n) ih dtFuel l0 l1 x4 l3 (0 : Int32) μ6 h
set_option maxRecDepth 100000 in
theorem c_X12_laysDoubt {r : Int32} {F : dtM} (p0 : Nat) (p1 : Int32) (μ : dtM) (h : f_X12_laysDoubt p0 p1 μ = some (r, F)) : dtMet yX12_laysDoubt cX12_laysDoubt 7 (some .boolean) 4 [.ref p0, .int p1] μ (some (.int r)) F := by
  refine dtMet.of (by decide +kernel) (Nat.le_of_ble_eq_true rfl) (show dtW yX12_laysDoubt cX12_laysDoubt 7 (some .boolean) 4 (some (.int r)) F 0 [some (.ref p0), some (.int p1)] [] μ from ?_)
  rw [f_X12_laysDoubt] at h
  refine dr_iconst (1 : Int32) dX12_laysDoubt_0 (by decide) ?_
  refine dr_istore_n 2 [some (.ref p0), some (.int p1), some (.int (1 : Int32))] dX12_laysDoubt_1 rfl rfl rfl rfl ?_
  refine dr_iconst (1 : Int32) dX12_laysDoubt_2 (by decide) ?_
  refine dr_istore_n 3 [some (.ref p0), some (.int p1), some (.int (1 : Int32)), some (.int (1 : Int32))] dX12_laysDoubt_3 rfl rfl rfl rfl ?_
  exact c_X12_laysDoubt_4 dtFuel p0 p1 (1 : Int32) (1 : Int32) μ h
