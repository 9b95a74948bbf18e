/-! X12_doubt -/
theorem dX12_doubt_0 : decode cX12_doubt 0 = .ok (.aload_n 0, 1) := by decide +kernel
theorem dX12_doubt_1 : decode cX12_doubt 1 = .ok (.iload_n 1, 1) := by decide +kernel
theorem dX12_doubt_2 : decode cX12_doubt 2 = .ok (.invokevirtual 307, 3) := by decide +kernel
theorem dX12_doubt_5 : decode cX12_doubt 5 = .ok (.ifCond .ne 9, 3) := by decide +kernel
theorem dX12_doubt_8 : decode cX12_doubt 8 = .ok (.aload_n 0, 1) := by decide +kernel
theorem dX12_doubt_9 : decode cX12_doubt 9 = .ok (.iconst 1, 1) := by decide +kernel
theorem dX12_doubt_10 : decode cX12_doubt 10 = .ok (.invokevirtual 93, 3) := by decide +kernel
theorem dX12_doubt_13 : decode cX12_doubt 13 = .ok (.ireturn, 1) := by decide +kernel
theorem dX12_doubt_14 : decode cX12_doubt 14 = .ok (.aload_n 0, 1) := by decide +kernel
theorem dX12_doubt_15 : decode cX12_doubt 15 = .ok (.iload_n 1, 1) := by decide +kernel
theorem dX12_doubt_16 : decode cX12_doubt 16 = .ok (.invokevirtual 398, 3) := by decide +kernel
theorem dX12_doubt_19 : decode cX12_doubt 19 = .ok (.ifCond .eq 14, 3) := by decide +kernel
theorem dX12_doubt_22 : decode cX12_doubt 22 = .ok (.aload_n 0, 1) := by decide +kernel
theorem dX12_doubt_23 : decode cX12_doubt 23 = .ok (.aload_n 0, 1) := by decide +kernel
theorem dX12_doubt_24 : decode cX12_doubt 24 = .ok (.getfield 376, 3) := by decide +kernel
theorem dX12_doubt_27 : decode cX12_doubt 27 = .ok (.invokevirtual 97, 3) := by decide +kernel
theorem dX12_doubt_30 : decode cX12_doubt 30 = .ok (.goto 9, 3) := by decide +kernel
theorem dX12_doubt_33 : decode cX12_doubt 33 = .ok (.aload_n 0, 1) := by decide +kernel
theorem dX12_doubt_34 : decode cX12_doubt 34 = .ok (.bipush 6, 2) := by decide +kernel
theorem dX12_doubt_36 : decode cX12_doubt 36 = .ok (.invokevirtual 93, 3) := by decide +kernel
theorem dX12_doubt_39 : decode cX12_doubt 39 = .ok (.ireturn, 1) := by decide +kernel
set_option maxRecDepth 100000 in
def f_X12_doubt_39 (s0 : Int32) (μ : dtM) : Option (Int32 × dtM) :=
  some (s0, μ)
set_option maxRecDepth 100000 in
def f_X12_doubt (p0 : Nat) (p1 : Int32) (μ : dtM) : Option (Int32 × dtM) :=
  (opRv 12 μ p0).bind fun _ => opCall (f_X12_isPerson p0 p1 μ) fun x4 μ2 => if x4 = 0 then ((opRv 12 μ2 p0).bind fun _ => opCall (f_X12_refuse p0 (1 : Int32) μ2) fun x28 μ26 => some (x28, μ26)) else ((opRv 12 μ2 p0).bind fun _ => opCall (f_X12_laysDoubt p0 p1 μ2) fun x11 μ9 => if x11 = 0 then ((opRv 12 μ9 p0).bind fun _ => opCall (f_X12_refuse p0 (6 : Int32) μ9) fun x18 μ16 => f_X12_doubt_39 x18 μ16) else ((opGI 12 27 μ9 p0).bind fun x19 => (opRv 12 μ9 p0).bind fun _ => opCall (f_X12_gives p0 x19 μ9) fun x24 μ22 => f_X12_doubt_39 x24 μ22))
set_option maxRecDepth 100000 in
theorem c_X12_doubt_39 {r : Int32} {F : dtM} (s0 : Int32) (μ : dtM) (h : f_X12_doubt_39 s0 μ = some (r, F)) : dtW yX12_doubt cX12_doubt 2 (some .int) 5 (some (.int r)) F 39 [] [.int s0] μ := by
  rw [f_X12_doubt_39] at h
  cases h
  exact dr_ireturn dX12_doubt_39 rfl
set_option maxRecDepth 100000 in
theorem c_X12_doubt {r : Int32} {F : dtM} (p0 : Nat) (p1 : Int32) (μ : dtM) (h : f_X12_doubt p0 p1 μ = some (r, F)) : dtMet yX12_doubt cX12_doubt 2 (some .int) 5 [.ref p0, .int p1] μ (some (.int r)) F := by
  refine dtMet.of (by decide +kernel) (Nat.le_of_ble_eq_true rfl) (show dtW yX12_doubt cX12_doubt 2 (some .int) 5 (some (.int r)) F 0 [some (.ref p0), some (.int p1)] [] μ from ?_)
  rw [f_X12_doubt] at h
  refine dr_aload_n p0 dX12_doubt_0 rfl ?_
  refine dr_iload_n p1 dX12_doubt_1 rfl ?_
  obtain ⟨_, hb1, h⟩ := dtBind h
  obtain ⟨x4, μ2, e3, h⟩ := dtCall h
  refine dr_callV_i (S0 := []) [.int p1] x4 μ2 dX12_doubt_2 (c_X12_isPerson p0 p1 μ e3) mf_X12_isPerson wt_1732 ws_95 wt_1730 rfl (dtRv hb1) (by decide) rfl (Nat.le_of_ble_eq_true rfl) (Nat.le_of_ble_eq_true rfl) rfl ?_
  obtain ⟨ht6, hf7⟩ := dtIte h
  refine dr_if_ne 14 dX12_doubt_5 (by decide) (fun hc5 => ?_) (fun hc5 => ?_)
  · have h := hf7 hc5
    refine dr_aload_n p0 dX12_doubt_14 rfl ?_
    refine dr_iload_n p1 dX12_doubt_15 rfl ?_
    obtain ⟨_, hb8, h⟩ := dtBind h
    obtain ⟨x11, μ9, e10, h⟩ := dtCall h
    refine dr_callV_i (S0 := []) [.int p1] x11 μ9 dX12_doubt_16 (c_X12_laysDoubt p0 p1 μ2 e10) mf_X12_laysDoubt wt_1925 ws_117 wt_1923 rfl (dtRv hb8) (by decide) rfl (Nat.le_of_ble_eq_true rfl) (Nat.le_of_ble_eq_true rfl) rfl ?_
    obtain ⟨ht13, hf14⟩ := dtIte h
    refine dr_if_eq 33 dX12_doubt_19 (by decide) (fun hc12 => ?_) (fun hc12 => ?_)
    · have h := ht13 hc12
      refine dr_aload_n p0 dX12_doubt_33 rfl ?_
      refine dr_bipush (6 : Int32) dX12_doubt_34 (by decide) ?_
      obtain ⟨_, hb15, h⟩ := dtBind h
      obtain ⟨x18, μ16, e17, h⟩ := dtCall h
      refine dr_callV_i (S0 := []) [.int (6 : Int32)] x18 μ16 dX12_doubt_36 (c_X12_refuse p0 (6 : Int32) μ9 e17) mf_X12_refuse wt_1552 ws_59 wt_1550 rfl (dtRv hb15) (by decide) rfl (Nat.le_of_ble_eq_true rfl) (Nat.le_of_ble_eq_true rfl) rfl ?_
      refine dr_mask [] [] rfl ?_
      exact c_X12_doubt_39 x18 μ16 h
    · have h := hf14 hc12
      refine dr_aload_n p0 dX12_doubt_22 rfl ?_
      refine dr_aload_n p0 dX12_doubt_23 rfl ?_
      obtain ⟨x19, e20, h⟩ := dtBind h
      refine dr_getI x19 dX12_doubt_24 fl_RX12_376 e20 ?_
      obtain ⟨_, hb21, h⟩ := dtBind h
      obtain ⟨x24, μ22, e23, h⟩ := dtCall h
      refine dr_callV_i (S0 := []) [.int x19] x24 μ22 dX12_doubt_27 (c_X12_gives p0 x19 μ9 e23) mf_X12_gives wt_1668 ws_85 wt_1666 rfl (dtRv hb21) (by decide) rfl (Nat.le_of_ble_eq_true rfl) (Nat.le_of_ble_eq_true rfl) rfl ?_
      refine dr_goto 39 dX12_doubt_30 (by decide) ?_
      refine dr_mask [] [] rfl ?_
      exact c_X12_doubt_39 x24 μ22 h
  · have h := ht6 hc5
    refine dr_aload_n p0 dX12_doubt_8 rfl ?_
    refine dr_iconst (1 : Int32) dX12_doubt_9 (by decide) ?_
    obtain ⟨_, hb25, h⟩ := dtBind h
    obtain ⟨x28, μ26, e27, h⟩ := dtCall h
    refine dr_callV_i (S0 := []) [.int (1 : Int32)] x28 μ26 dX12_doubt_10 (c_X12_refuse p0 (1 : Int32) μ2 e27) mf_X12_refuse wt_1552 ws_59 wt_1550 rfl (dtRv hb25) (by decide) rfl (Nat.le_of_ble_eq_true rfl) (Nat.le_of_ble_eq_true rfl) rfl ?_
    cases h
    exact dr_ireturn dX12_doubt_13 rfl
/-! X12_doubtAt -/
theorem dX12_doubtAt_0 : decode cX12_doubtAt 0 = .ok (.aload_n 0, 1) := by decide +kernel
theorem dX12_doubtAt_1 : decode cX12_doubtAt 1 = .ok (.iload_n 1, 1) := by decide +kernel
theorem dX12_doubtAt_2 : decode cX12_doubtAt 2 = .ok (.invokevirtual 307, 3) := by decide +kernel
theorem dX12_doubtAt_5 : decode cX12_doubtAt 5 = .ok (.ifCond .eq 7, 3) := by decide +kernel
theorem dX12_doubtAt_8 : decode cX12_doubtAt 8 = .ok (.iload_n 2, 1) := by decide +kernel
theorem dX12_doubtAt_9 : decode cX12_doubtAt 9 = .ok (.ifCond .ge 9, 3) := by decide +kernel
theorem dX12_doubtAt_12 : decode cX12_doubtAt 12 = .ok (.aload_n 0, 1) := by decide +kernel
theorem dX12_doubtAt_13 : decode cX12_doubtAt 13 = .ok (.iconst 1, 1) := by decide +kernel
theorem dX12_doubtAt_14 : decode cX12_doubtAt 14 = .ok (.invokevirtual 93, 3) := by decide +kernel
theorem dX12_doubtAt_17 : decode cX12_doubtAt 17 = .ok (.ireturn, 1) := by decide +kernel
theorem dX12_doubtAt_18 : decode cX12_doubtAt 18 = .ok (.aload_n 0, 1) := by decide +kernel
theorem dX12_doubtAt_19 : decode cX12_doubtAt 19 = .ok (.iload_n 1, 1) := by decide +kernel
theorem dX12_doubtAt_20 : decode cX12_doubtAt 20 = .ok (.invokevirtual 398, 3) := by decide +kernel
theorem dX12_doubtAt_23 : decode cX12_doubtAt 23 = .ok (.ifCond .eq 24, 3) := by decide +kernel
theorem dX12_doubtAt_26 : decode cX12_doubtAt 26 = .ok (.iload_n 2, 1) := by decide +kernel
theorem dX12_doubtAt_27 : decode cX12_doubtAt 27 = .ok (.aload_n 0, 1) := by decide +kernel
theorem dX12_doubtAt_28 : decode cX12_doubtAt 28 = .ok (.getfield 376, 3) := by decide +kernel
theorem dX12_doubtAt_31 : decode cX12_doubtAt 31 = .ok (.if_icmp .ge 16, 3) := by decide +kernel
theorem dX12_doubtAt_34 : decode cX12_doubtAt 34 = .ok (.aload_n 0, 1) := by decide +kernel
theorem dX12_doubtAt_35 : decode cX12_doubtAt 35 = .ok (.aload_n 0, 1) := by decide +kernel
theorem dX12_doubtAt_36 : decode cX12_doubtAt 36 = .ok (.getfield 50, 3) := by decide +kernel
theorem dX12_doubtAt_39 : decode cX12_doubtAt 39 = .ok (.iload_n 2, 1) := by decide +kernel
theorem dX12_doubtAt_40 : decode cX12_doubtAt 40 = .ok (.iaload, 1) := by decide +kernel
theorem dX12_doubtAt_41 : decode cX12_doubtAt 41 = .ok (.invokevirtual 97, 3) := by decide +kernel
theorem dX12_doubtAt_44 : decode cX12_doubtAt 44 = .ok (.goto 9, 3) := by decide +kernel
theorem dX12_doubtAt_47 : decode cX12_doubtAt 47 = .ok (.aload_n 0, 1) := by decide +kernel
theorem dX12_doubtAt_48 : decode cX12_doubtAt 48 = .ok (.bipush 6, 2) := by decide +kernel
theorem dX12_doubtAt_50 : decode cX12_doubtAt 50 = .ok (.invokevirtual 93, 3) := by decide +kernel
theorem dX12_doubtAt_53 : decode cX12_doubtAt 53 = .ok (.ireturn, 1) := by decide +kernel
set_option maxRecDepth 100000 in
def f_X12_doubtAt_12 (l0 : Nat) (μ : dtM) : Option (Int32 × dtM) :=
  (opRv 12 μ l0).bind fun _ => opCall (f_X12_refuse l0 (1 : Int32) μ) fun x4 μ2 => some (x4, μ2)
set_option maxRecDepth 100000 in
def f_X12_doubtAt_53 (s0 : Int32) (μ : dtM) : Option (Int32 × dtM) :=
  some (s0, μ)
set_option maxRecDepth 100000 in
def f_X12_doubtAt_47 (l0 : Nat) (μ : dtM) : Option (Int32 × dtM) :=
  (opRv 12 μ l0).bind fun _ => opCall (f_X12_refuse l0 (6 : Int32) μ) fun x4 μ2 => f_X12_doubtAt_53 x4 μ2
set_option maxRecDepth 100000 in
def f_X12_doubtAt (p0 : Nat) (p1 : Int32) (p2 : Int32) (μ : dtM) : Option (Int32 × dtM) :=
  (opRv 12 μ p0).bind fun _ => opCall (f_X12_isPerson p0 p1 μ) fun x4 μ2 => if x4 = 0 then (f_X12_doubtAt_12 p0 μ2) else (if 0 ≤ p2 then ((opRv 12 μ2 p0).bind fun _ => opCall (f_X12_laysDoubt p0 p1 μ2) fun x14 μ12 => if x14 = 0 then (f_X12_doubtAt_47 p0 μ12) else ((opGI 12 27 μ12 p0).bind fun x18 => if x18 ≤ p2 then (f_X12_doubtAt_47 p0 μ12) else ((opGR 12 25 μ12 p0).bind fun x23 => (opLI 1 μ12 x23 p2).bind fun x25 => (opRv 12 μ12 p0).bind fun _ => opCall (f_X12_gives p0 x25 μ12) fun x30 μ28 => f_X12_doubtAt_53 x30 μ28))) else (f_X12_doubtAt_12 p0 μ2))
set_option maxRecDepth 100000 in
theorem c_X12_doubtAt_12 {r : Int32} {F : dtM} (l0 : Nat) (μ : dtM) (h : f_X12_doubtAt_12 l0 μ = some (r, F)) : dtW yX12_doubtAt cX12_doubtAt 3 (some .int) 5 (some (.int r)) F 12 [some (.ref l0)] [] μ := by
  rw [f_X12_doubtAt_12] at h
  refine dr_aload_n l0 dX12_doubtAt_12 rfl ?_
  refine dr_iconst (1 : Int32) dX12_doubtAt_13 (by decide) ?_
  obtain ⟨_, hb1, h⟩ := dtBind h
  obtain ⟨x4, μ2, e3, h⟩ := dtCall h
  refine dr_callV_i (S0 := []) [.int (1 : Int32)] x4 μ2 dX12_doubtAt_14 (c_X12_refuse l0 (1 : Int32) μ e3) mf_X12_refuse wt_1552 ws_59 wt_1550 rfl (dtRv hb1) (by decide) rfl (Nat.le_of_ble_eq_true rfl) (Nat.le_of_ble_eq_true rfl) rfl ?_
  cases h
  exact dr_ireturn dX12_doubtAt_17 rfl
set_option maxRecDepth 100000 in
theorem c_X12_doubtAt_53 {r : Int32} {F : dtM} (s0 : Int32) (μ : dtM) (h : f_X12_doubtAt_53 s0 μ = some (r, F)) : dtW yX12_doubtAt cX12_doubtAt 3 (some .int) 5 (some (.int r)) F 53 [] [.int s0] μ := by
  rw [f_X12_doubtAt_53] at h
  cases h
  exact dr_ireturn dX12_doubtAt_53 rfl
set_option maxRecDepth 100000 in
theorem c_X12_doubtAt_47 {r : Int32} {F : dtM} (l0 : Nat) (μ : dtM) (h : f_X12_doubtAt_47 l0 μ = some (r, F)) : dtW yX12_doubtAt cX12_doubtAt 3 (some .int) 5 (some (.int r)) F 47 [some (.ref l0)] [] μ := by
  rw [f_X12_doubtAt_47] at h
  refine dr_aload_n l0 dX12_doubtAt_47 rfl ?_
  refine dr_bipush (6 : Int32) dX12_doubtAt_48 (by decide) ?_
  obtain ⟨_, hb1, h⟩ := dtBind h
  obtain ⟨x4, μ2, e3, h⟩ := dtCall h
  refine dr_callV_i (S0 := []) [.int (6 : Int32)] x4 μ2 dX12_doubtAt_50 (c_X12_refuse l0 (6 : Int32) μ e3) mf_X12_refuse wt_1552 ws_59 wt_1550 rfl (dtRv hb1) (by decide) rfl (Nat.le_of_ble_eq_true rfl) (Nat.le_of_ble_eq_true rfl) rfl ?_
  refine dr_mask [] [] rfl ?_
  exact c_X12_doubtAt_53 x4 μ2 h
set_option maxRecDepth 100000 in
theorem c_X12_doubtAt {r : Int32} {F : dtM} (p0 : Nat) (p1 : Int32) (p2 : Int32) (μ : dtM) (h : f_X12_doubtAt p0 p1 p2 μ = some (r, F)) : dtMet yX12_doubtAt cX12_doubtAt 3 (some .int) 5 [.ref p0, .int p1, .int p2] μ (some (.int r)) F := by
  refine dtMet.of (by decide +kernel) (Nat.le_of_ble_eq_true rfl) (show dtW yX12_doubtAt cX12_doubtAt 3 (some .int) 5 (some (.int r)) F 0 [some (.ref p0), some (.int p1), some (.int p2)] [] μ from ?_)
  rw [f_X12_doubtAt] at h
  refine dr_aload_n p0 dX12_doubtAt_0 rfl ?_
  refine dr_iload_n p1 dX12_doubtAt_1 rfl ?_
  obtain ⟨_, hb1, h⟩ := dtBind h
  obtain ⟨x4, μ2, e3, h⟩ := dtCall h
  refine dr_callV_i (S0 := []) [.int p1] x4 μ2 dX12_doubtAt_2 (c_X12_isPerson p0 p1 μ e3) mf_X12_isPerson wt_1732 ws_95 wt_1730 rfl (dtRv hb1) (by decide) rfl (Nat.le_of_ble_eq_true rfl) (Nat.le_of_ble_eq_true rfl) rfl ?_
  obtain ⟨ht6, hf7⟩ := dtIte h
  refine dr_if_eq 12 dX12_doubtAt_5 (by decide) (fun hc5 => ?_) (fun hc5 => ?_)
  · have h := ht6 hc5
    refine dr_mask [true] [some (.ref p0)] rfl ?_
    exact c_X12_doubtAt_12 p0 μ2 h
  · have h := hf7 hc5
    refine dr_iload_n p2 dX12_doubtAt_8 rfl ?_
    obtain ⟨ht9, hf10⟩ := dtIte h
    refine dr_if_ge 18 dX12_doubtAt_9 (by decide) (fun hc8 => ?_) (fun hc8 => ?_)
    · have h := ht9 hc8
      refine dr_aload_n p0 dX12_doubtAt_18 rfl ?_
      refine dr_iload_n p1 dX12_doubtAt_19 rfl ?_
      obtain ⟨_, hb11, h⟩ := dtBind h
      obtain ⟨x14, μ12, e13, h⟩ := dtCall h
      refine dr_callV_i (S0 := []) [.int p1] x14 μ12 dX12_doubtAt_20 (c_X12_laysDoubt p0 p1 μ2 e13) mf_X12_laysDoubt wt_1925 ws_117 wt_1923 rfl (dtRv hb11) (by decide) rfl (Nat.le_of_ble_eq_true rfl) (Nat.le_of_ble_eq_true rfl) rfl ?_
      obtain ⟨ht16, hf17⟩ := dtIte h
      refine dr_if_eq 47 dX12_doubtAt_23 (by decide) (fun hc15 => ?_) (fun hc15 => ?_)
      · have h := ht16 hc15
        refine dr_mask [true] [some (.ref p0)] rfl ?_
        exact c_X12_doubtAt_47 p0 μ12 h
      · have h := hf17 hc15
        refine dr_iload_n p2 dX12_doubtAt_26 rfl ?_
        refine dr_aload_n p0 dX12_doubtAt_27 rfl ?_
        obtain ⟨x18, e19, h⟩ := dtBind h
        refine dr_getI x18 dX12_doubtAt_28 fl_RX12_376 e19 ?_
        obtain ⟨ht21, hf22⟩ := dtIte h
        refine dr_icmp_ge 47 dX12_doubtAt_31 (by decide) (fun hc20 => ?_) (fun hc20 => ?_)
        · have h := ht21 hc20
          refine dr_mask [true] [some (.ref p0)] rfl ?_
          exact c_X12_doubtAt_47 p0 μ12 h
        · have h := hf22 hc20
          refine dr_aload_n p0 dX12_doubtAt_34 rfl ?_
          refine dr_aload_n p0 dX12_doubtAt_35 rfl ?_
          obtain ⟨x23, e24, h⟩ := dtBind h
          refine dr_getR x23 dX12_doubtAt_36 fl_RX12_50 e24 ?_
          refine dr_iload_n p2 dX12_doubtAt_39 rfl ?_
          obtain ⟨x25, e26, h⟩ := dtBind h
          refine dr_iaload x25 dX12_doubtAt_40 e26 ?_
          obtain ⟨_, hb27, h⟩ := dtBind h
          obtain ⟨x30, μ28, e29, h⟩ := dtCall h
          refine dr_callV_i (S0 := []) [.int x25] x30 μ28 dX12_doubtAt_41 (c_X12_gives p0 x25 μ12 e29) mf_X12_gives wt_1668 ws_85 wt_1666 rfl (dtRv hb27) (by decide) rfl (Nat.le_of_ble_eq_true rfl) (Nat.le_of_ble_eq_true rfl) rfl ?_
          refine dr_goto 53 dX12_doubtAt_44 (by decide) ?_
          refine dr_mask [] [] rfl ?_
          exact c_X12_doubtAt_53 x30 μ28 h
    · have h := hf10 hc8
      refine dr_mask [true] [some (.ref p0)] rfl ?_
      exact c_X12_doubtAt_12 p0 μ2 h
/-! X12_shared -/
theorem dX12_shared_0 : decode cX12_shared 0 = .ok (.aload_n 0, 1) := by decide +kernel
theorem dX12_shared_1 : decode cX12_shared 1 = .ok (.iload_n 1, 1) := by decide +kernel
theorem dX12_shared_2 : decode cX12_shared 2 = .ok (.invokevirtual 307, 3) := by decide +kernel
theorem dX12_shared_5 : decode cX12_shared 5 = .ok (.ifCond .eq 16, 3) := by decide +kernel
theorem dX12_shared_8 : decode cX12_shared 8 = .ok (.aload_n 0, 1) := by decide +kernel
theorem dX12_shared_9 : decode cX12_shared 9 = .ok (.iload_n 2, 1) := by decide +kernel
theorem dX12_shared_10 : decode cX12_shared 10 = .ok (.invokevirtual 307, 3) := by decide +kernel
theorem dX12_shared_13 : decode cX12_shared 13 = .ok (.ifCond .eq 8, 3) := by decide +kernel
theorem dX12_shared_16 : decode cX12_shared 16 = .ok (.iload_n 1, 1) := by decide +kernel
theorem dX12_shared_17 : decode cX12_shared 17 = .ok (.iload_n 2, 1) := by decide +kernel
theorem dX12_shared_18 : decode cX12_shared 18 = .ok (.if_icmp .ne 9, 3) := by decide +kernel
theorem dX12_shared_21 : decode cX12_shared 21 = .ok (.aload_n 0, 1) := by decide +kernel
theorem dX12_shared_22 : decode cX12_shared 22 = .ok (.iconst 1, 1) := by decide +kernel
theorem dX12_shared_23 : decode cX12_shared 23 = .ok (.invokevirtual 93, 3) := by decide +kernel
theorem dX12_shared_26 : decode cX12_shared 26 = .ok (.ireturn, 1) := by decide +kernel
theorem dX12_shared_27 : decode cX12_shared 27 = .ok (.iconst 0, 1) := by decide +kernel
theorem dX12_shared_28 : decode cX12_shared 28 = .ok (.istore_n 3, 1) := by decide +kernel
theorem dX12_shared_29 : decode cX12_shared 29 = .ok (.iconst 0, 1) := by decide +kernel
theorem dX12_shared_30 : decode cX12_shared 30 = .ok (.istore 4, 2) := by decide +kernel
theorem dX12_shared_32 : decode cX12_shared 32 = .ok (.iload 4, 2) := by decide +kernel
theorem dX12_shared_34 : decode cX12_shared 34 = .ok (.aload_n 0, 1) := by decide +kernel
theorem dX12_shared_35 : decode cX12_shared 35 = .ok (.getfield 7, 3) := by decide +kernel
theorem dX12_shared_38 : decode cX12_shared 38 = .ok (.iconst 2, 1) := by decide +kernel
theorem dX12_shared_39 : decode cX12_shared 39 = .ok (.iaload, 1) := by decide +kernel
theorem dX12_shared_40 : decode cX12_shared 40 = .ok (.if_icmp .ge 62, 3) := by decide +kernel
theorem dX12_shared_43 : decode cX12_shared 43 = .ok (.aload_n 0, 1) := by decide +kernel
theorem dX12_shared_44 : decode cX12_shared 44 = .ok (.aload_n 0, 1) := by decide +kernel
theorem dX12_shared_45 : decode cX12_shared 45 = .ok (.iload_n 1, 1) := by decide +kernel
theorem dX12_shared_46 : decode cX12_shared 46 = .ok (.iconst 2, 1) := by decide +kernel
theorem dX12_shared_47 : decode cX12_shared 47 = .ok (.invokevirtual 295, 3) := by decide +kernel
theorem dX12_shared_50 : decode cX12_shared 50 = .ok (.iload 4, 2) := by decide +kernel
theorem dX12_shared_52 : decode cX12_shared 52 = .ok (.invokevirtual 241, 3) := by decide +kernel
theorem dX12_shared_55 : decode cX12_shared 55 = .ok (.ifCond .ne 6, 3) := by decide +kernel
theorem dX12_shared_58 : decode cX12_shared 58 = .ok (.goto 38, 3) := by decide +kernel
theorem dX12_shared_61 : decode cX12_shared 61 = .ok (.aload_n 0, 1) := by decide +kernel
theorem dX12_shared_62 : decode cX12_shared 62 = .ok (.iconst 0, 1) := by decide +kernel
theorem dX12_shared_63 : decode cX12_shared 63 = .ok (.putfield 376, 3) := by decide +kernel
theorem dX12_shared_66 : decode cX12_shared 66 = .ok (.aload_n 0, 1) := by decide +kernel
theorem dX12_shared_67 : decode cX12_shared 67 = .ok (.iload 4, 2) := by decide +kernel
theorem dX12_shared_69 : decode cX12_shared 69 = .ok (.invokevirtual 395, 3) := by decide +kernel
theorem dX12_shared_72 : decode cX12_shared 72 = .ok (.iload_n 3, 1) := by decide +kernel
theorem dX12_shared_73 : decode cX12_shared 73 = .ok (.aload_n 0, 1) := by decide +kernel
theorem dX12_shared_74 : decode cX12_shared 74 = .ok (.aload_n 0, 1) := by decide +kernel
theorem dX12_shared_75 : decode cX12_shared 75 = .ok (.iload_n 2, 1) := by decide +kernel
theorem dX12_shared_76 : decode cX12_shared 76 = .ok (.iconst 2, 1) := by decide +kernel
theorem dX12_shared_77 : decode cX12_shared 77 = .ok (.invokevirtual 295, 3) := by decide +kernel
theorem dX12_shared_80 : decode cX12_shared 80 = .ok (.invokevirtual 382, 3) := by decide +kernel
theorem dX12_shared_83 : decode cX12_shared 83 = .ok (.ifCond .le 10, 3) := by decide +kernel
theorem dX12_shared_86 : decode cX12_shared 86 = .ok (.iconst 1, 1) := by decide +kernel
theorem dX12_shared_87 : decode cX12_shared 87 = .ok (.iload 4, 2) := by decide +kernel
theorem dX12_shared_89 : decode cX12_shared 89 = .ok (.ishl, 1) := by decide +kernel
theorem dX12_shared_90 : decode cX12_shared 90 = .ok (.goto 4, 3) := by decide +kernel
theorem dX12_shared_93 : decode cX12_shared 93 = .ok (.iconst 0, 1) := by decide +kernel
theorem dX12_shared_94 : decode cX12_shared 94 = .ok (.ior, 1) := by decide +kernel
theorem dX12_shared_95 : decode cX12_shared 95 = .ok (.istore_n 3, 1) := by decide +kernel
theorem dX12_shared_96 : decode cX12_shared 96 = .ok (.iinc 4 1, 3) := by decide +kernel
theorem dX12_shared_99 : decode cX12_shared 99 = .ok (.goto (-67), 3) := by decide +kernel
theorem dX12_shared_102 : decode cX12_shared 102 = .ok (.aload_n 0, 1) := by decide +kernel
theorem dX12_shared_103 : decode cX12_shared 103 = .ok (.iload_n 3, 1) := by decide +kernel
theorem dX12_shared_104 : decode cX12_shared 104 = .ok (.invokevirtual 97, 3) := by decide +kernel
theorem dX12_shared_107 : decode cX12_shared 107 = .ok (.ireturn, 1) := by decide +kernel
set_option maxRecDepth 100000 in
def f_X12_shared_21 (l0 : Nat) (μ : dtM) : Option (Int32 × dtM) :=
  (opRv 12 μ l0).bind fun _ => opCall (f_X12_refuse l0 (1 : Int32) μ) fun x4 μ2 => some (x4, μ2)
set_option maxRecDepth 100000 in
def f_X12_shared_96 (k32 : Nat → Int32 → Int32 → Int32 → Int32 → dtM → Option (Int32 × dtM)) (l0 : Nat) (l1 : Int32) (l2 : Int32) (l3 : Int32) (l4 : Int32) (μ : dtM) : Option (Int32 × dtM) :=
  k32 l0 l1 l2 l3 (l4 + 1) μ
set_option maxRecDepth 100000 in
def f_X12_shared_94 (k32 : Nat → Int32 → Int32 → Int32 → Int32 → dtM → Option (Int32 × dtM)) (l0 : Nat) (l1 : Int32) (l2 : Int32) (l4 : Int32) (s0 : Int32) (s1 : Int32) (μ : dtM) : Option (Int32 × dtM) :=
  (some (s0 ||| s1)).bind fun x1 => f_X12_shared_96 k32 l0 l1 l2 x1 l4 μ
set_option maxRecDepth 100000 in
def f_X12_shared_32 : Nat → Nat → Int32 → Int32 → Int32 → Int32 → dtM → Option (Int32 × dtM)
  | 0, _, _, _, _, _, _ => none
  | n + 1, l0, l1, l2, l3, l4, μ =>
    (opGR 12 0 μ l0).bind fun x1 => (opLI 1 μ x1 (2 : Int32)).bind fun x3 => if x3 ≤ l4 then ((opRv 12 μ l0).bind fun _ => opCall (f_X12_gives l0 l3 μ) fun x11 μ9 => some (x11, μ9)) else ((opRv 12 μ l0).bind fun _ => opCall (f_X12_personOf l0 l1 (2 : Int32) μ) fun x15 μ13 => (opRv 12 μ13 l0).bind fun _ => opCall (f_X12_isIn l0 x15 l4 μ13) fun x19 μ17 => if x19 = 0 then (f_X12_shared_96 (f_X12_shared_32 n) l0 l1 l2 l3 l4 μ17) else ((opPI 12 27 μ17 l0 (0 : Int32)).bind fun μ23 => (opRv 12 μ23 l0).bind fun _ => (f_X12_utters l0 l4 μ23).bind fun μ26 => (opRv 12 μ26 l0).bind fun _ => opCall (f_X12_personOf l0 l2 (2 : Int32) μ26) fun x31 μ29 => (opRv 12 μ29 l0).bind fun _ => opCall (f_X12_laysReadings l0 x31 μ29) fun x35 μ33 => if x35 ≤ 0 then (f_X12_shared_94 (f_X12_shared_32 n) l0 l1 l2 l4 l3 (0 : Int32) μ33) else (f_X12_shared_94 (f_X12_shared_32 n) l0 l1 l2 l4 l3 ((1 : Int32) <<< (l4 &&& 31)) μ33)))
set_option maxRecDepth 100000 in
def f_X12_shared (p0 : Nat) (p1 : Int32) (p2 : Int32) (μ : dtM) : Option (Int32 × dtM) :=
  (opRv 12 μ p0).bind fun _ => opCall (f_X12_isPerson p0 p1 μ) fun x4 μ2 => if x4 = 0 then (f_X12_shared_21 p0 μ2) else ((opRv 12 μ2 p0).bind fun _ => opCall (f_X12_isPerson p0 p2 μ2) fun x11 μ9 => if x11 = 0 then (f_X12_shared_21 p0 μ9) else (if p1 = p2 then (f_X12_shared_21 p0 μ9) else (f_X12_shared_32 dtFuel p0 p1 p2 (0 : Int32) (0 : Int32) μ9)))
set_option maxRecDepth 100000 in
theorem c_X12_shared_21 {r : Int32} {F : dtM} (l0 : Nat) (μ : dtM) (h : f_X12_shared_21 l0 μ = some (r, F)) : dtW yX12_shared cX12_shared 5 (some .int) 4 (some (.int r)) F 21 [some (.ref l0)] [] μ := by
  rw [f_X12_shared_21] at h
  refine dr_aload_n l0 dX12_shared_21 rfl ?_
  refine dr_iconst (1 : Int32) dX12_shared_22 (by decide) ?_
  obtain ⟨_, hb1, h⟩ := dtBind h
  obtain ⟨x4, μ2, e3, h⟩ := dtCall h
  refine dr_callV_i (S0 := []) [.int (1 : Int32)] x4 μ2 dX12_shared_23 (c_X12_refuse l0 (1 : Int32) μ e3) mf_X12_refuse wt_1552 ws_59 wt_1550 rfl (dtRv hb1) (by decide) rfl (Nat.le_of_ble_eq_true rfl) (Nat.le_of_ble_eq_true rfl) rfl ?_
  cases h
  exact dr_ireturn dX12_shared_26 rfl
set_option maxRecDepth 100000 in
theorem c_X12_shared_96 {r : Int32} {F : dtM} (k32 : Nat → Int32 → Int32 → Int32 → Int32 → dtM → Option (Int32 × dtM)) (hk32 : ∀ (l0 : Nat) (l1 : Int32) (l2 : Int32) (l3 : Int32) (l4 : Int32) (μ : dtM), k32 l0 l1 l2 l3 l4 μ = some (r, F) → dtW yX12_shared cX12_shared 5 (some .int) 4 (some (.int r)) F 32 [some (.ref l0), some (.int l1), some (.int l2), some (.int l3), some (.int l4)] [] μ) (l0 : Nat) (l1 : Int32) (l2 : Int32) (l3 : Int32) (l4 : Int32) (μ : dtM) (h : f_X12_shared_96 k32 l0 l1 l2 l3 l4 μ = some (r, F)) : dtW yX12_shared cX12_shared 5 (some .int) 4 (some (.int r)) F 96 [some (.ref l0), some (.int l1), some (.int l2), some (.int l3), some (.int l4)] [] μ := by
  rw [f_X12_shared_96] at h
  refine dr_iinc l4 (l4 + 1) [some (.ref l0), some (.int l1), some (.int l2), some (.int l3), some (.int (l4 + 1))] dX12_shared_96 rfl rfl rfl rfl rfl ?_
  refine dr_goto 32 dX12_shared_99 (by decide) ?_
  exact hk32 l0 l1 l2 l3 (l4 + 1) μ h
set_option maxRecDepth 100000 in
theorem c_X12_shared_94 {r : Int32} {F : dtM} (k32 : Nat → Int32 → Int32 → Int32 → Int32 → dtM → Option (Int32 × dtM)) (hk32 : ∀ (l0 : Nat) (l1 : Int32) (l2 : Int32) (l3 : Int32) (l4 : Int32) (μ : dtM), k32 l0 l1 l2 l3 l4 μ = some (r, F) → dtW yX12_shared cX12_shared 5 (some .int) 4 (some (.int r)) F 32 [some (.ref l0), some (.int l1), some (.int l2), some (.int l3), some (.int l4)] [] μ) (l0 : Nat) (l1 : Int32) (l2 : Int32) (l4 : Int32) (s0 : Int32) (s1 : Int32) (μ : dtM) (h : f_X12_shared_94 k32 l0 l1 l2 l4 s0 s1 μ = some (r, F)) : dtW yX12_shared cX12_shared 5 (some .int) 4 (some (.int r)) F 94 [some (.ref l0), some (.int l1), some (.int l2), none, some (.int l4)] [.int s1, .int s0] μ := by
  rw [f_X12_shared_94] at h
  refine dr_ior dX12_shared_94 ?_
  obtain ⟨x1, e2, h⟩ := dtBind h
  refine dr_nmi e2 ?_
  refine dr_istore_n 3 [some (.ref l0), some (.int l1), some (.int l2), some (.int x1), some (.int l4)] dX12_shared_95 rfl rfl rfl rfl ?_
  exact c_X12_shared_96 k32 hk32 l0 l1 l2 x1 l4 μ h
set_option maxRecDepth 100000 in
theorem c_X12_shared_32 {r : Int32} {F : dtM} : ∀ (n : Nat) (l0 : Nat) (l1 : Int32) (l2 : Int32) (l3 : Int32) (l4 : Int32) (μ : dtM), f_X12_shared_32 n l0 l1 l2 l3 l4 μ = some (r, F) → dtW yX12_shared cX12_shared 5 (some .int) 4 (some (.int r)) F 32 [some (.ref l0), some (.int l1), some (.int l2), some (.int l3), some (.int l4)] [] μ := by
  intro n
  induction n with
  | zero => intro l0 l1 l2 l3 l4 μ h; cases h
  | succ n ih =>
    intro l0 l1 l2 l3 l4 μ h
    have h := (show f_X12_shared_32 (n + 1) l0 l1 l2 l3 l4 μ = some _ from h)
    rw [f_X12_shared_32] at h
    refine dr_iload l4 dX12_shared_32 rfl ?_
    refine dr_aload_n l0 dX12_shared_34 rfl ?_
    obtain ⟨x1, e2, h⟩ := dtBind h
    refine dr_getR x1 dX12_shared_35 fl_RX12_7 e2 ?_
    refine dr_iconst (2 : Int32) dX12_shared_38 (by decide) ?_
    obtain ⟨x3, e4, h⟩ := dtBind h
    refine dr_iaload x3 dX12_shared_39 e4 ?_
    obtain ⟨ht6, hf7⟩ := dtIte h
    refine dr_icmp_ge 102 dX12_shared_40 (by decide) (fun hc5 => ?_) (fun hc5 => ?_)
    · have h := ht6 hc5
      refine dr_aload_n l0 dX12_shared_102 rfl ?_
      refine dr_iload_n l3 dX12_shared_103 rfl ?_
      obtain ⟨_, hb8, h⟩ := dtBind h
      obtain ⟨x11, μ9, e10, h⟩ := dtCall h
      refine dr_callV_i (S0 := []) [.int l3] x11 μ9 dX12_shared_104 (c_X12_gives l0 l3 μ e10) mf_X12_gives wt_1668 ws_85 wt_1666 rfl (dtRv hb8) (by decide) rfl (Nat.le_of_ble_eq_true rfl) (Nat.le_of_ble_eq_true rfl) rfl ?_
      cases h
      exact dr_ireturn dX12_shared_107 rfl
    · have h := hf7 hc5
      refine dr_aload_n l0 dX12_shared_43 rfl ?_
      refine dr_aload_n l0 dX12_shared_44 rfl ?_
      refine dr_iload_n l1 dX12_shared_45 rfl ?_
      refine dr_iconst (2 : Int32) dX12_shared_46 (by decide) ?_
      obtain ⟨_, hb12, h⟩ := dtBind h
      obtain ⟨x15, μ13, e14, h⟩ := dtCall h
      refine dr_callV_i (S0 := [.ref l0]) [.int l1, .int (2 : Int32)] x15 μ13 dX12_shared_47 (c_X12_personOf l0 l1 (2 : Int32) μ e14) mf_X12_personOf wt_1736 ws_96 wt_1734 rfl (dtRv hb12) (by decide) rfl (Nat.le_of_ble_eq_true rfl) (Nat.le_of_ble_eq_true rfl) rfl ?_
      refine dr_iload l4 dX12_shared_50 rfl ?_
      obtain ⟨_, hb16, h⟩ := dtBind h
      obtain ⟨x19, μ17, e18, h⟩ := dtCall h
      refine dr_callV_i (S0 := []) [.int x15, .int l4] x19 μ17 dX12_shared_52 (c_X12_isIn l0 x15 l4 μ13 e18) mf_X12_isIn wt_1656 ws_82 wt_1654 rfl (dtRv hb16) (by decide) rfl (Nat.le_of_ble_eq_true rfl) (Nat.le_of_ble_eq_true rfl) rfl ?_
      obtain ⟨ht21, hf22⟩ := dtIte h
      refine dr_if_ne 61 dX12_shared_55 (by decide) (fun hc20 => ?_) (fun hc20 => ?_)
      · have h := hf22 hc20
        refine dr_aload_n l0 dX12_shared_61 rfl ?_
        refine dr_iconst (0 : Int32) dX12_shared_62 (by decide) ?_
        obtain ⟨μ23, e24, h⟩ := dtBind h
        refine dr_putI μ23 dX12_shared_63 fl_RX12_376 rfl e24 ?_
        refine dr_aload_n l0 dX12_shared_66 rfl ?_
        refine dr_iload l4 dX12_shared_67 rfl ?_
        obtain ⟨_, hb25, h⟩ := dtBind h
        obtain ⟨μ26, e27, h⟩ := dtBind h
        refine dr_callV_v (S0 := []) [.int l4] μ26 dX12_shared_69 (c_X12_utters l0 l4 μ23 e27) mf_X12_utters wt_1917 ws_116 wt_1915 rfl (dtRv hb25) (by decide) rfl (Nat.le_of_ble_eq_true rfl) (Nat.le_of_ble_eq_true rfl) rfl ?_
        refine dr_iload_n l3 dX12_shared_72 rfl ?_
        refine dr_aload_n l0 dX12_shared_73 rfl ?_
        refine dr_aload_n l0 dX12_shared_74 rfl ?_
        refine dr_iload_n l2 dX12_shared_75 rfl ?_
        refine dr_iconst (2 : Int32) dX12_shared_76 (by decide) ?_
        obtain ⟨_, hb28, h⟩ := dtBind h
        obtain ⟨x31, μ29, e30, h⟩ := dtCall h
        refine dr_callV_i (S0 := [.ref l0, .int l3]) [.int l2, .int (2 : Int32)] x31 μ29 dX12_shared_77 (c_X12_personOf l0 l2 (2 : Int32) μ26 e30) mf_X12_personOf wt_1736 ws_96 wt_1734 rfl (dtRv hb28) (by decide) rfl (Nat.le_of_ble_eq_true rfl) (Nat.le_of_ble_eq_true rfl) rfl ?_
        obtain ⟨_, hb32, h⟩ := dtBind h
        obtain ⟨x35, μ33, e34, h⟩ := dtCall h
        refine dr_callV_i (S0 := [.int l3]) [.int x31] x35 μ33 dX12_shared_80 (c_X12_laysReadings l0 x31 μ29 e34) mf_X12_laysReadings wt_1885 ws_112 wt_1883 rfl (dtRv hb32) (by decide) rfl (Nat.le_of_ble_eq_true rfl) (Nat.le_of_ble_eq_true rfl) rfl ?_
        obtain ⟨ht37, hf38⟩ := dtIte h
        refine dr_if_le 93 dX12_shared_83 (by decide) (fun hc36 => ?_) (fun hc36 => ?_)
        · have h := ht37 hc36
          refine dr_iconst (0 : Int32) dX12_shared_93 (by decide) ?_
          refine dr_mask [true, true, true, false, true] [some (.ref l0), some (.int l1), some (.int l2), none, some (.int l4)] rfl ?_
          exact c_X12_shared_94 (f_X12_shared_32 n) ih l0 l1 l2 l4 l3 (0 : Int32) μ33 h
        · have h := hf38 hc36
          refine dr_iconst (1 : Int32) dX12_shared_86 (by decide) ?_
          refine dr_iload l4 dX12_shared_87 rfl ?_
          refine dr_ishl dX12_shared_89 ?_
          refine dr_goto 94 dX12_shared_90 (by decide) ?_
          refine dr_mask [true, true, true, false, true] [some (.ref l0), some (.int l1), some (.int l2), none, some (.int l4)] rfl ?_
          exact c_X12_shared_94 (f_X12_shared_32 n) ih l0 l1 l2 l4 l3 ((1 : Int32) <<< (l4 &&& 31)) μ33 h
      · have h := ht21 hc20
        refine dr_goto 96 dX12_shared_58 (by decide) ?_
        exact c_X12_shared_96 (f_X12_shared_32 n) ih l0 l1 l2 l3 l4 μ17 h
set_option maxRecDepth 100000 in
theorem c_X12_shared {r : Int32} {F : dtM} (p0 : Nat) (p1 : Int32) (p2 : Int32) (μ : dtM) (h : f_X12_shared p0 p1 p2 μ = some (r, F)) : dtMet yX12_shared cX12_shared 5 (some .int) 4 [.ref p0, .int p1, .int p2] μ (some (.int r)) F := by
  refine dtMet.of (by decide +kernel) (Nat.le_of_ble_eq_true rfl) (show dtW yX12_shared cX12_shared 5 (some .int) 4 (some (.int r)) F 0 [some (.ref p0), some (.int p1), some (.int p2)] [] μ from ?_)
  rw [f_X12_shared] at h
  refine dr_aload_n p0 dX12_shared_0 rfl ?_
  refine dr_iload_n p1 dX12_shared_1 rfl ?_
  obtain ⟨_, hb1, h⟩ := dtBind h
  obtain ⟨x4, μ2, e3, h⟩ := dtCall h
  refine dr_callV_i (S0 := []) [.int p1] x4 μ2 dX12_shared_2 (c_X12_isPerson p0 p1 μ e3) mf_X12_isPerson wt_1732 ws_95 wt_1730 rfl (dtRv hb1) (by decide) rfl (Nat.le_of_ble_eq_true rfl) (Nat.le_of_ble_eq_true rfl) rfl ?_
  obtain ⟨ht6, hf7⟩ := dtIte h
  refine dr_if_eq 21 dX12_shared_5 (by decide) (fun hc5 => ?_) (fun hc5 => ?_)
  · have h := ht6 hc5
    refine dr_mask [true] [some (.ref p0)] rfl ?_
    exact c_X12_shared_21 p0 μ2 h
  · have h := hf7 hc5
    refine dr_aload_n p0 dX12_shared_8 rfl ?_
    refine dr_iload_n p2 dX12_shared_9 rfl ?_
    obtain ⟨_, hb8, h⟩ := dtBind h
    obtain ⟨x11, μ9, e10, h⟩ := dtCall h
    refine dr_callV_i (S0 := []) [.int p2] x11 μ9 dX12_shared_10 (c_X12_isPerson p0 p2 μ2 e10) mf_X12_isPerson wt_1732 ws_95 wt_1730 rfl (dtRv hb8) (by decide) rfl (Nat.le_of_ble_eq_true rfl) (Nat.le_of_ble_eq_true rfl) rfl ?_
    obtain ⟨ht13, hf14⟩ := dtIte h
    refine dr_if_eq 21 dX12_shared_13 (by decide) (fun hc12 => ?_) (fun hc12 => ?_)
    · have h := ht13 hc12
      refine dr_mask [true] [some (.ref p0)] rfl ?_
      exact c_X12_shared_21 p0 μ9 h
    · have h := hf14 hc12
      refine dr_iload_n p1 dX12_shared_16 rfl ?_
      refine dr_iload_n p2 dX12_shared_17 rfl ?_
      obtain ⟨ht16, hf17⟩ := dtIte h
      refine dr_icmp_ne 27 dX12_shared_18 (by decide) (fun hc15 => ?_) (fun hc15 => ?_)
      · have h := hf17 hc15
        refine dr_iconst (0 : Int32) dX12_shared_27 (by decide) ?_
        refine dr_istore_n 3 [some (.ref p0), some (.int p1), some (.int p2), some (.int (0 : Int32))] dX12_shared_28 rfl rfl rfl rfl ?_
        refine dr_iconst (0 : Int32) dX12_shared_29 (by decide) ?_
        refine dr_istore [some (.ref p0), some (.int p1), some (.int p2), some (.int (0 : Int32)), some (.int (0 : Int32))] dX12_shared_30 rfl rfl rfl ?_
        exact c_X12_shared_32 dtFuel p0 p1 p2 (0 : Int32) (0 : Int32) μ9 h
      · have h := ht16 hc15
        refine dr_mask [true] [some (.ref p0)] rfl ?_
        exact c_X12_shared_21 p0 μ9 h
/-! X12_laysFar -/
theorem dX12_laysFar_0 : decode cX12_laysFar 0 = .ok (.iconst 0, 1) := by decide +kernel
theorem dX12_laysFar_1 : decode cX12_laysFar 1 = .ok (.istore_n 2, 1) := by decide +kernel
theorem dX12_laysFar_2 : decode cX12_laysFar 2 = .ok (.iload_n 2, 1) := by decide +kernel
theorem dX12_laysFar_3 : decode cX12_laysFar 3 = .ok (.bipush 7, 2) := by decide +kernel
theorem dX12_laysFar_5 : decode cX12_laysFar 5 = .ok (.if_icmp .ge 27, 3) := by decide +kernel
theorem dX12_laysFar_8 : decode cX12_laysFar 8 = .ok (.aload_n 0, 1) := by decide +kernel
theorem dX12_laysFar_9 : decode cX12_laysFar 9 = .ok (.getfield 56, 3) := by decide +kernel
theorem dX12_laysFar_12 : decode cX12_laysFar 12 = .ok (.iload_n 2, 1) := by decide +kernel
theorem dX12_laysFar_13 : decode cX12_laysFar 13 = .ok (.iload_n 2, 1) := by decide +kernel
theorem dX12_laysFar_14 : decode cX12_laysFar 14 = .ok (.iload_n 1, 1) := by decide +kernel
theorem dX12_laysFar_15 : decode cX12_laysFar 15 = .ok (.if_icmp .ne 7, 3) := by decide +kernel
theorem dX12_laysFar_18 : decode cX12_laysFar 18 = .ok (.iconst 0, 1) := by decide +kernel
theorem dX12_laysFar_19 : decode cX12_laysFar 19 = .ok (.goto 6, 3) := by decide +kernel
theorem dX12_laysFar_22 : decode cX12_laysFar 22 = .ok (.ldc_w 310, 3) := by decide +kernel
theorem dX12_laysFar_25 : decode cX12_laysFar 25 = .ok (.iastore, 1) := by decide +kernel
theorem dX12_laysFar_26 : decode cX12_laysFar 26 = .ok (.iinc 2 1, 3) := by decide +kernel
theorem dX12_laysFar_29 : decode cX12_laysFar 29 = .ok (.goto (-27), 3) := by decide +kernel
theorem dX12_laysFar_32 : decode cX12_laysFar 32 = .ok (.iconst 0, 1) := by decide +kernel
theorem dX12_laysFar_33 : decode cX12_laysFar 33 = .ok (.istore_n 2, 1) := by decide +kernel
theorem dX12_laysFar_34 : decode cX12_laysFar 34 = .ok (.iload_n 2, 1) := by decide +kernel
theorem dX12_laysFar_35 : decode cX12_laysFar 35 = .ok (.bipush 7, 2) := by decide +kernel
theorem dX12_laysFar_37 : decode cX12_laysFar 37 = .ok (.if_icmp .ge 106, 3) := by decide +kernel
theorem dX12_laysFar_40 : decode cX12_laysFar 40 = .ok (.iconst 0, 1) := by decide +kernel
theorem dX12_laysFar_41 : decode cX12_laysFar 41 = .ok (.istore_n 3, 1) := by decide +kernel
theorem dX12_laysFar_42 : decode cX12_laysFar 42 = .ok (.iload_n 3, 1) := by decide +kernel
theorem dX12_laysFar_43 : decode cX12_laysFar 43 = .ok (.aload_n 0, 1) := by decide +kernel
theorem dX12_laysFar_44 : decode cX12_laysFar 44 = .ok (.getfield 7, 3) := by decide +kernel
theorem dX12_laysFar_47 : decode cX12_laysFar 47 = .ok (.iconst 1, 1) := by decide +kernel
theorem dX12_laysFar_48 : decode cX12_laysFar 48 = .ok (.iaload, 1) := by decide +kernel
theorem dX12_laysFar_49 : decode cX12_laysFar 49 = .ok (.if_icmp .ge 88, 3) := by decide +kernel
theorem dX12_laysFar_52 : decode cX12_laysFar 52 = .ok (.aload_n 0, 1) := by decide +kernel
theorem dX12_laysFar_53 : decode cX12_laysFar 53 = .ok (.iload_n 3, 1) := by decide +kernel
theorem dX12_laysFar_54 : decode cX12_laysFar 54 = .ok (.invokevirtual 311, 3) := by decide +kernel
theorem dX12_laysFar_57 : decode cX12_laysFar 57 = .ok (.ifCond .ne 6, 3) := by decide +kernel
theorem dX12_laysFar_60 : decode cX12_laysFar 60 = .ok (.goto 71, 3) := by decide +kernel
theorem dX12_laysFar_63 : decode cX12_laysFar 63 = .ok (.aload_n 0, 1) := by decide +kernel
theorem dX12_laysFar_64 : decode cX12_laysFar 64 = .ok (.iload_n 3, 1) := by decide +kernel
theorem dX12_laysFar_65 : decode cX12_laysFar 65 = .ok (.iconst 0, 1) := by decide +kernel
theorem dX12_laysFar_66 : decode cX12_laysFar 66 = .ok (.invokevirtual 298, 3) := by decide +kernel
theorem dX12_laysFar_69 : decode cX12_laysFar 69 = .ok (.istore 4, 2) := by decide +kernel
theorem dX12_laysFar_71 : decode cX12_laysFar 71 = .ok (.aload_n 0, 1) := by decide +kernel
theorem dX12_laysFar_72 : decode cX12_laysFar 72 = .ok (.iload_n 3, 1) := by decide +kernel
theorem dX12_laysFar_73 : decode cX12_laysFar 73 = .ok (.iconst 1, 1) := by decide +kernel
theorem dX12_laysFar_74 : decode cX12_laysFar 74 = .ok (.invokevirtual 298, 3) := by decide +kernel
theorem dX12_laysFar_77 : decode cX12_laysFar 77 = .ok (.istore 5, 2) := by decide +kernel
theorem dX12_laysFar_79 : decode cX12_laysFar 79 = .ok (.aload_n 0, 1) := by decide +kernel
theorem dX12_laysFar_80 : decode cX12_laysFar 80 = .ok (.getfield 56, 3) := by decide +kernel
theorem dX12_laysFar_83 : decode cX12_laysFar 83 = .ok (.iload 4, 2) := by decide +kernel
theorem dX12_laysFar_85 : decode cX12_laysFar 85 = .ok (.aload_n 0, 1) := by decide +kernel
theorem dX12_laysFar_86 : decode cX12_laysFar 86 = .ok (.getfield 56, 3) := by decide +kernel
theorem dX12_laysFar_89 : decode cX12_laysFar 89 = .ok (.iload 4, 2) := by decide +kernel
theorem dX12_laysFar_91 : decode cX12_laysFar 91 = .ok (.iaload, 1) := by decide +kernel
theorem dX12_laysFar_92 : decode cX12_laysFar 92 = .ok (.aload_n 0, 1) := by decide +kernel
theorem dX12_laysFar_93 : decode cX12_laysFar 93 = .ok (.getfield 56, 3) := by decide +kernel
theorem dX12_laysFar_96 : decode cX12_laysFar 96 = .ok (.iload 5, 2) := by decide +kernel
theorem dX12_laysFar_98 : decode cX12_laysFar 98 = .ok (.iaload, 1) := by decide +kernel
theorem dX12_laysFar_99 : decode cX12_laysFar 99 = .ok (.iconst 1, 1) := by decide +kernel
theorem dX12_laysFar_100 : decode cX12_laysFar 100 = .ok (.iadd, 1) := by decide +kernel
theorem dX12_laysFar_101 : decode cX12_laysFar 101 = .ok (.invokestatic 148, 3) := by decide +kernel
theorem dX12_laysFar_104 : decode cX12_laysFar 104 = .ok (.iastore, 1) := by decide +kernel
theorem dX12_laysFar_105 : decode cX12_laysFar 105 = .ok (.aload_n 0, 1) := by decide +kernel
theorem dX12_laysFar_106 : decode cX12_laysFar 106 = .ok (.getfield 56, 3) := by decide +kernel
theorem dX12_laysFar_109 : decode cX12_laysFar 109 = .ok (.iload 5, 2) := by decide +kernel
theorem dX12_laysFar_111 : decode cX12_laysFar 111 = .ok (.aload_n 0, 1) := by decide +kernel
theorem dX12_laysFar_112 : decode cX12_laysFar 112 = .ok (.getfield 56, 3) := by decide +kernel
theorem dX12_laysFar_115 : decode cX12_laysFar 115 = .ok (.iload 5, 2) := by decide +kernel
theorem dX12_laysFar_117 : decode cX12_laysFar 117 = .ok (.iaload, 1) := by decide +kernel
theorem dX12_laysFar_118 : decode cX12_laysFar 118 = .ok (.aload_n 0, 1) := by decide +kernel
theorem dX12_laysFar_119 : decode cX12_laysFar 119 = .ok (.getfield 56, 3) := by decide +kernel
theorem dX12_laysFar_122 : decode cX12_laysFar 122 = .ok (.iload 4, 2) := by decide +kernel
theorem dX12_laysFar_124 : decode cX12_laysFar 124 = .ok (.iaload, 1) := by decide +kernel
theorem dX12_laysFar_125 : decode cX12_laysFar 125 = .ok (.iconst 1, 1) := by decide +kernel
theorem dX12_laysFar_126 : decode cX12_laysFar 126 = .ok (.iadd, 1) := by decide +kernel
theorem dX12_laysFar_127 : decode cX12_laysFar 127 = .ok (.invokestatic 148, 3) := by decide +kernel
theorem dX12_laysFar_130 : decode cX12_laysFar 130 = .ok (.iastore, 1) := by decide +kernel
theorem dX12_laysFar_131 : decode cX12_laysFar 131 = .ok (.iinc 3 1, 3) := by decide +kernel
theorem dX12_laysFar_134 : decode cX12_laysFar 134 = .ok (.goto (-92), 3) := by decide +kernel
theorem dX12_laysFar_137 : decode cX12_laysFar 137 = .ok (.iinc 2 1, 3) := by decide +kernel
theorem dX12_laysFar_140 : decode cX12_laysFar 140 = .ok (.goto (-106), 3) := by decide +kernel
theorem dX12_laysFar_143 : decode cX12_laysFar 143 = .ok (.return_, 1) := by decide +kernel
set_option maxRecDepth 100000 in
def f_X12_laysFar_131 (k34 : Nat → Int32 → dtM → Option dtM) (k42 : Nat → Int32 → Int32 → dtM → Option dtM) (l0 : Nat) (l2 : Int32) (l3 : Int32) (μ : dtM) : Option dtM :=
  k42 l0 l2 (l3 + 1) μ
set_option maxRecDepth 100000 in
def f_X12_laysFar_42 (k34 : Nat → Int32 → dtM → Option dtM) : Nat → Nat → Int32 → Int32 → dtM → Option dtM
  | 0, _, _, _, _ => none
  | n + 1, l0, l2, l3, μ =>
    (opGR 12 0 μ l0).bind fun x1 => (opLI 1 μ x1 (1 : Int32)).bind fun x3 => if x3 ≤ l3 then (k34 l0 (l2 + 1) μ) else ((opRv 12 μ l0).bind fun _ => opCall (f_X12_isOpen l0 l3 μ) fun x11 μ9 => if x11 = 0 then (f_X12_laysFar_131 k34 (f_X12_laysFar_42 k34 n) l0 l2 l3 μ9) else ((opRv 12 μ9 l0).bind fun _ => opCall (f_X12_doorOf l0 l3 (0 : Int32) μ9) fun x18 μ16 => (opRv 12 μ16 l0).bind fun _ => opCall (f_X12_doorOf l0 l3 (1 : Int32) μ16) fun x22 μ20 => (opGR 12 28 μ20 l0).bind fun x23 => (opGR 12 28 μ20 l0).bind fun x25 => (opLI 1 μ20 x25 x18).bind fun x27 => (opGR 12 28 μ20 l0).bind fun x29 => (opLI 1 μ20 x29 x22).bind fun x31 => (some (if (x31 + (1 : Int32)) < x27 then (x31 + (1 : Int32)) else x27)).bind fun x33 => (opSI μ20 x23 x18 x33).bind fun μ35 => (opGR 12 28 μ35 l0).bind fun x37 => (opGR 12 28 μ35 l0).bind fun x39 => (opLI 1 μ35 x39 x22).bind fun x41 => (opGR 12 28 μ35 l0).bind fun x43 => (opLI 1 μ35 x43 x18).bind fun x45 => (some (if (x45 + (1 : Int32)) < x41 then (x45 + (1 : Int32)) else x41)).bind fun x47 => (opSI μ35 x37 x22 x47).bind fun μ49 => f_X12_laysFar_131 k34 (f_X12_laysFar_42 k34 n) l0 l2 l3 μ49))
set_option maxRecDepth 100000 in
def f_X12_laysFar_34 : Nat → Nat → Int32 → dtM → Option dtM
  | 0, _, _, _ => none
  | n + 1, l0, l2, μ =>
    if (7 : Int32) ≤ l2 then (some μ) else (f_X12_laysFar_42 (f_X12_laysFar_34 n) dtFuel l0 l2 (0 : Int32) μ)
set_option maxRecDepth 100000 in
def f_X12_laysFar_25 (k2 : Nat → Int32 → Int32 → dtM → Option dtM) (l0 : Nat) (l1 : Int32) (l2 : Int32) (s0 : Nat) (s1 : Int32) (s2 : Int32) (μ : dtM) : Option dtM :=
  (opSI μ s0 s1 s2).bind fun μ1 => k2 l0 l1 (l2 + 1) μ1
set_option maxRecDepth 100000 in
def f_X12_laysFar_2 : Nat → Nat → Int32 → Int32 → dtM → Option dtM
  | 0, _, _, _, _ => none
  | n + 1, l0, l1, l2, μ =>
    if (7 : Int32) ≤ l2 then (f_X12_laysFar_34 dtFuel l0 (0 : Int32) μ) else ((opGR 12 28 μ l0).bind fun x4 => if l2 = l1 then (f_X12_laysFar_25 (f_X12_laysFar_2 n) l0 l1 l2 x4 l2 (0 : Int32) μ) else (f_X12_laysFar_25 (f_X12_laysFar_2 n) l0 l1 l2 x4 l2 (1000000 : Int32) μ))
set_option maxRecDepth 100000 in
def f_X12_laysFar (p0 : Nat) (p1 : Int32) (μ : dtM) : Option dtM :=
  f_X12_laysFar_2 dtFuel p0 p1 (0 : Int32) μ
set_option maxRecDepth 100000 in
theorem c_X12_laysFar_131 {F : dtM} (k34 : Nat → Int32 → dtM → Option dtM) (k42 : Nat → Int32 → Int32 → dtM → Option dtM) (hk34 : ∀ (l0 : Nat) (l2 : Int32) (μ : dtM), k34 l0 l2 μ = some F → dtW yX12_laysFar cX12_laysFar 6 (none) 3 (none) F 34 [some (.ref l0), none, some (.int l2)] [] μ) (hk42 : ∀ (l0 : Nat) (l2 : Int32) (l3 : Int32) (μ : dtM), k42 l0 l2 l3 μ = some F → dtW yX12_laysFar cX12_laysFar 6 (none) 3 (none) F 42 [some (.ref l0), none, some (.int l2), some (.int l3)] [] μ) (l0 : Nat) (l2 : Int32) (l3 : Int32) (μ : dtM) (h : f_X12_laysFar_131 k34 k42 l0 l2 l3 μ = some F) : dtW yX12_laysFar cX12_laysFar 6 (none) 3 (none) F 131 [some (.ref l0), none, some (.int l2), some (.int l3)] [] μ := by
  rw [f_X12_laysFar_131] at h
  refine dr_iinc l3 (l3 + 1) [some (.ref l0), none, some (.int l2), some (.int (l3 + 1))] dX12_laysFar_131 rfl rfl rfl rfl rfl ?_
  refine dr_goto 42 dX12_laysFar_134 (by decide) ?_
  exact hk42 l0 l2 (l3 + 1) μ h
set_option maxRecDepth 100000 in
theorem c_X12_laysFar_42 {F : dtM} (k34 : Nat → Int32 → dtM → Option dtM) (hk34 : ∀ (l0 : Nat) (l2 : Int32) (μ : dtM), k34 l0 l2 μ = some F → dtW yX12_laysFar cX12_laysFar 6 (none) 3 (none) F 34 [some (.ref l0), none, some (.int l2)] [] μ) : ∀ (n : Nat) (l0 : Nat) (l2 : Int32) (l3 : Int32) (μ : dtM), f_X12_laysFar_42 k34 n l0 l2 l3 μ = some F → dtW yX12_laysFar cX12_laysFar 6 (none) 3 (none) F 42 [some (.ref l0), none, some (.int l2), some (.int l3)] [] μ := by
  intro n
  induction n with
  | zero => intro l0 l2 l3 μ h; cases h
  | succ n ih =>
    intro l0 l2 l3 μ h
    have h := (show f_X12_laysFar_42 k34 (n + 1) l0 l2 l3 μ = some _ from h)
    rw [f_X12_laysFar_42] at h
    refine dr_iload_n l3 dX12_laysFar_42 rfl ?_
    refine dr_aload_n l0 dX12_laysFar_43 rfl ?_
    obtain ⟨x1, e2, h⟩ := dtBind h
    refine dr_getR x1 dX12_laysFar_44 fl_RX12_7 e2 ?_
    refine dr_iconst (1 : Int32) dX12_laysFar_47 (by decide) ?_
    obtain ⟨x3, e4, h⟩ := dtBind h
    refine dr_iaload x3 dX12_laysFar_48 e4 ?_
    obtain ⟨ht6, hf7⟩ := dtIte h
    refine dr_icmp_ge 137 dX12_laysFar_49 (by decide) (fun hc5 => ?_) (fun hc5 => ?_)
    · have h := ht6 hc5
      refine dr_iinc l2 (l2 + 1) [some (.ref l0), none, some (.int (l2 + 1)), some (.int l3)] dX12_laysFar_137 rfl rfl rfl rfl rfl ?_
      refine dr_goto 34 dX12_laysFar_140 (by decide) ?_
      refine dr_mask [true, false, true] [some (.ref l0), none, some (.int (l2 + 1))] rfl ?_
      exact hk34 l0 (l2 + 1) μ h
    · have h := hf7 hc5
      refine dr_aload_n l0 dX12_laysFar_52 rfl ?_
      refine dr_iload_n l3 dX12_laysFar_53 rfl ?_
      obtain ⟨_, hb8, h⟩ := dtBind h
      obtain ⟨x11, μ9, e10, h⟩ := dtCall h
      refine dr_callV_i (S0 := []) [.int l3] x11 μ9 dX12_laysFar_54 (c_X12_isOpen l0 l3 μ e10) mf_X12_isOpen wt_1757 ws_99 wt_1755 rfl (dtRv hb8) (by decide) rfl (Nat.le_of_ble_eq_true rfl) (Nat.le_of_ble_eq_true rfl) rfl ?_
      obtain ⟨ht13, hf14⟩ := dtIte h
      refine dr_if_ne 63 dX12_laysFar_57 (by decide) (fun hc12 => ?_) (fun hc12 => ?_)
      · have h := hf14 hc12
        refine dr_aload_n l0 dX12_laysFar_63 rfl ?_
        refine dr_iload_n l3 dX12_laysFar_64 rfl ?_
        refine dr_iconst (0 : Int32) dX12_laysFar_65 (by decide) ?_
        obtain ⟨_, hb15, h⟩ := dtBind h
        obtain ⟨x18, μ16, e17, h⟩ := dtCall h
        refine dr_callV_i (S0 := []) [.int l3, .int (0 : Int32)] x18 μ16 dX12_laysFar_66 (c_X12_doorOf l0 l3 (0 : Int32) μ9 e17) mf_X12_doorOf wt_1712 ws_93 wt_1710 rfl (dtRv hb15) (by decide) rfl (Nat.le_of_ble_eq_true rfl) (Nat.le_of_ble_eq_true rfl) rfl ?_
        refine dr_istore [some (.ref l0), none, some (.int l2), some (.int l3), some (.int x18)] dX12_laysFar_69 rfl rfl rfl ?_
        refine dr_aload_n l0 dX12_laysFar_71 rfl ?_
        refine dr_iload_n l3 dX12_laysFar_72 rfl ?_
        refine dr_iconst (1 : Int32) dX12_laysFar_73 (by decide) ?_
        obtain ⟨_, hb19, h⟩ := dtBind h
        obtain ⟨x22, μ20, e21, h⟩ := dtCall h
        refine dr_callV_i (S0 := []) [.int l3, .int (1 : Int32)] x22 μ20 dX12_laysFar_74 (c_X12_doorOf l0 l3 (1 : Int32) μ16 e21) mf_X12_doorOf wt_1712 ws_93 wt_1710 rfl (dtRv hb19) (by decide) rfl (Nat.le_of_ble_eq_true rfl) (Nat.le_of_ble_eq_true rfl) rfl ?_
        refine dr_istore [some (.ref l0), none, some (.int l2), some (.int l3), some (.int x18), some (.int x22)] dX12_laysFar_77 rfl rfl rfl ?_
        refine dr_aload_n l0 dX12_laysFar_79 rfl ?_
        obtain ⟨x23, e24, h⟩ := dtBind h
        refine dr_getR x23 dX12_laysFar_80 fl_RX12_56 e24 ?_
        refine dr_iload x18 dX12_laysFar_83 rfl ?_
        refine dr_aload_n l0 dX12_laysFar_85 rfl ?_
        obtain ⟨x25, e26, h⟩ := dtBind h
        refine dr_getR x25 dX12_laysFar_86 fl_RX12_56 e26 ?_
        refine dr_iload x18 dX12_laysFar_89 rfl ?_
        obtain ⟨x27, e28, h⟩ := dtBind h
        refine dr_iaload x27 dX12_laysFar_91 e28 ?_
        refine dr_aload_n l0 dX12_laysFar_92 rfl ?_
        obtain ⟨x29, e30, h⟩ := dtBind h
        refine dr_getR x29 dX12_laysFar_93 fl_RX12_56 e30 ?_
        refine dr_iload x22 dX12_laysFar_96 rfl ?_
        obtain ⟨x31, e32, h⟩ := dtBind h
        refine dr_iaload x31 dX12_laysFar_98 e32 ?_
        refine dr_iconst (1 : Int32) dX12_laysFar_99 (by decide) ?_
        refine dr_iadd dX12_laysFar_100 ?_
        refine dr_min dX12_laysFar_101 wt_1549 wt_548 wt_15 wt_549 (Nat.le_of_ble_eq_true rfl) rfl ?_
        obtain ⟨x33, e34, h⟩ := dtBind h
        refine dr_nmi e34 ?_
        obtain ⟨μ35, e36, h⟩ := dtBind h
        refine dr_iastore μ35 dX12_laysFar_104 e36 ?_
        refine dr_aload_n l0 dX12_laysFar_105 rfl ?_
        obtain ⟨x37, e38, h⟩ := dtBind h
        refine dr_getR x37 dX12_laysFar_106 fl_RX12_56 e38 ?_
        refine dr_iload x22 dX12_laysFar_109 rfl ?_
        refine dr_aload_n l0 dX12_laysFar_111 rfl ?_
        obtain ⟨x39, e40, h⟩ := dtBind h
        refine dr_getR x39 dX12_laysFar_112 fl_RX12_56 e40 ?_
        refine dr_iload x22 dX12_laysFar_115 rfl ?_
        obtain ⟨x41, e42, h⟩ := dtBind h
        refine dr_iaload x41 dX12_laysFar_117 e42 ?_
        refine dr_aload_n l0 dX12_laysFar_118 rfl ?_
        obtain ⟨x43, e44, h⟩ := dtBind h
        refine dr_getR x43 dX12_laysFar_119 fl_RX12_56 e44 ?_
        refine dr_iload x18 dX12_laysFar_122 rfl ?_
        obtain ⟨x45, e46, h⟩ := dtBind h
        refine dr_iaload x45 dX12_laysFar_124 e46 ?_
        refine dr_iconst (1 : Int32) dX12_laysFar_125 (by decide) ?_
        refine dr_iadd dX12_laysFar_126 ?_
        refine dr_min dX12_laysFar_127 wt_1549 wt_548 wt_15 wt_549 (Nat.le_of_ble_eq_true rfl) rfl ?_
        obtain ⟨x47, e48, h⟩ := dtBind h
        refine dr_nmi e48 ?_
        obtain ⟨μ49, e50, h⟩ := dtBind h
        refine dr_iastore μ49 dX12_laysFar_130 e50 ?_
        refine dr_mask [true, false, true, true] [some (.ref l0), none, some (.int l2), some (.int l3)] rfl ?_
        exact c_X12_laysFar_131 k34 (f_X12_laysFar_42 k34 n) hk34 ih l0 l2 l3 μ49 h
      · have h := ht13 hc12
        refine dr_goto 131 dX12_laysFar_60 (by decide) ?_
        exact c_X12_laysFar_131 k34 (f_X12_laysFar_42 k34 n) hk34 ih l0 l2 l3 μ9 h
set_option maxRecDepth 100000 in
theorem c_X12_laysFar_34 {F : dtM} : ∀ (n : Nat) (l0 : Nat) (l2 : Int32) (μ : dtM), f_X12_laysFar_34 n l0 l2 μ = some F → dtW yX12_laysFar cX12_laysFar 6 (none) 3 (none) F 34 [some (.ref l0), none, some (.int l2)] [] μ := by
  intro n
  induction n with
  | zero => intro l0 l2 μ h; cases h
  | succ n ih =>
    intro l0 l2 μ h
    have h := (show f_X12_laysFar_34 (n + 1) l0 l2 μ = some _ from h)
    rw [f_X12_laysFar_34] at h
    refine dr_iload_n l2 dX12_laysFar_34 rfl ?_
    refine dr_bipush (7 : Int32) dX12_laysFar_35 (by decide) ?_
    obtain ⟨ht2, hf3⟩ := dtIte h
    refine dr_icmp_ge 143 dX12_laysFar_37 (by decide) (fun hc1 => ?_) (fun hc1 => ?_)
    · have h := ht2 hc1
      cases h
      exact dr_return dX12_laysFar_143
    · have h := hf3 hc1
      refine dr_iconst (0 : Int32) dX12_laysFar_40 (by decide) ?_
      refine dr_istore_n 3 [some (.ref l0), none, some (.int l2), some (.int (0 : Int32))] dX12_laysFar_41 rfl rfl rfl rfl ?_
      exact c_X12_laysFar_42 (f_X12_laysFar_34 n) ih dtFuel l0 l2 (0 : Int32) μ h
set_option maxRecDepth 100000 in
theorem c_X12_laysFar_25 {F : dtM} (k2 : Nat → Int32 → Int32 → dtM → Option dtM) (hk2 : ∀ (l0 : Nat) (l1 : Int32) (l2 : Int32) (μ : dtM), k2 l0 l1 l2 μ = some F → dtW yX12_laysFar cX12_laysFar 6 (none) 3 (none) F 2 [some (.ref l0), some (.int l1), some (.int l2)] [] μ) (l0 : Nat) (l1 : Int32) (l2 : Int32) (s0 : Nat) (s1 : Int32) (s2 : Int32) (μ : dtM) (h : f_X12_laysFar_25 k2 l0 l1 l2 s0 s1 s2 μ = some F) : dtW yX12_laysFar cX12_laysFar 6 (none) 3 (none) F 25 [some (.ref l0), some (.int l1), some (.int l2)] [.int s2, .int s1, .ref s0] μ := by
  rw [f_X12_laysFar_25] at h
  obtain ⟨μ1, e2, h⟩ := dtBind h
  refine dr_iastore μ1 dX12_laysFar_25 e2 ?_
  refine dr_iinc l2 (l2 + 1) [some (.ref l0), some (.int l1), some (.int (l2 + 1))] dX12_laysFar_26 rfl rfl rfl rfl rfl ?_
  refine dr_goto 2 dX12_laysFar_29 (by decide) ?_
  exact hk2 l0 l1 (l2 + 1) μ1 h
set_option maxRecDepth 100000 in
theorem c_X12_laysFar_2 {F : dtM} : ∀ (n : Nat) (l0 : Nat) (l1 : Int32) (l2 : Int32) (μ : dtM), f_X12_laysFar_2 n l0 l1 l2 μ = some F → dtW yX12_laysFar cX12_laysFar 6 (none) 3 (none) F 2 [some (.ref l0), some (.int l1), some (.int l2)] [] μ := by
  intro n
  induction n with
  | zero => intro l0 l1 l2 μ h; cases h
  | succ n ih =>
    intro l0 l1 l2 μ h
    have h := (show f_X12_laysFar_2 (n + 1) l0 l1 l2 μ = some _ from h)
    rw [f_X12_laysFar_2] at h
    refine dr_iload_n l2 dX12_laysFar_2 rfl ?_
    refine dr_bipush (7 : Int32) dX12_laysFar_3 (by decide) ?_
    obtain ⟨ht2, hf3⟩ := dtIte h
    refine dr_icmp_ge 32 dX12_laysFar_5 (by decide) (fun hc1 => ?_) (fun hc1 => ?_)
    · have h := ht2 hc1
      refine dr_iconst (0 : Int32) dX12_laysFar_32 (by decide) ?_
      refine dr_istore_n 2 [some (.ref l0), some (.int l1), some (.int (0 : Int32))] dX12_laysFar_33 rfl rfl rfl rfl ?_
      refine dr_mask [true, false, true] [some (.ref l0), none, some (.int (0 : Int32))] rfl ?_
      exact c_X12_laysFar_34 dtFuel l0 (0 : Int32) μ h
    · have h := hf3 hc1
      refine dr_aload_n l0 dX12_laysFar_8 rfl ?_
      obtain ⟨x4, e5, h⟩ := dtBind h
      refine dr_getR x4 dX12_laysFar_9 fl_RX12_56 e5 ?_
      refine dr_iload_n l2 dX12_laysFar_12 rfl ?_
      refine dr_iload_n l2 dX12_laysFar_13 rfl ?_
      refine dr_iload_n l1 dX12_laysFar_14 rfl ?_
      obtain ⟨ht7, hf8⟩ := dtIte h
      refine dr_icmp_ne 22 dX12_laysFar_15 (by decide) (fun hc6 => ?_) (fun hc6 => ?_)
      · have h := hf8 hc6
        refine dr_ldcw (1000000 : Int32) dX12_laysFar_22 wt_1754 ?_
        exact c_X12_laysFar_25 (f_X12_laysFar_2 n) ih l0 l1 l2 x4 l2 (1000000 : Int32) μ h
      · have h := ht7 hc6
        refine dr_iconst (0 : Int32) dX12_laysFar_18 (by decide) ?_
        refine dr_goto 25 dX12_laysFar_19 (by decide) ?_
        exact c_X12_laysFar_25 (f_X12_laysFar_2 n) ih l0 l1 l2 x4 l2 (0 : Int32) μ h
set_option maxRecDepth 100000 in
theorem c_X12_laysFar {F : dtM} (p0 : Nat) (p1 : Int32) (μ : dtM) (h : f_X12_laysFar p0 p1 μ = some F) : dtMet yX12_laysFar cX12_laysFar 6 (none) 3 [.ref p0, .int p1] μ (none) F := by
  refine dtMet.of (by decide +kernel) (Nat.le_of_ble_eq_true rfl) (show dtW yX12_laysFar cX12_laysFar 6 (none) 3 (none) F 0 [some (.ref p0), some (.int p1)] [] μ from ?_)
  rw [f_X12_laysFar] at h
  refine dr_iconst (0 : Int32) dX12_laysFar_0 (by decide) ?_
  refine dr_istore_n 2 [some (.ref p0), some (.int p1), some (.int (0 : Int32))] dX12_laysFar_1 rfl rfl rfl rfl ?_
  exact c_X12_laysFar_2 dtFuel p0 p1 (0 : Int32) μ h
/-! X12_far -/
theorem dX12_far_0 : decode cX12_far 0 = .ok (.aload_n 0, 1) := by decide +kernel
theorem dX12_far_1 : decode cX12_far 1 = .ok (.iload_n 1, 1) := by decide +kernel
theorem dX12_far_2 : decode cX12_far 2 = .ok (.invokevirtual 314, 3) := by decide +kernel
theorem dX12_far_5 : decode cX12_far 5 = .ok (.ifCond .eq 11, 3) := by decide +kernel
theorem dX12_far_8 : decode cX12_far 8 = .ok (.aload_n 0, 1) := by decide +kernel
theorem dX12_far_9 : decode cX12_far 9 = .ok (.iload_n 2, 1) := by decide +kernel
theorem dX12_far_10 : decode cX12_far 10 = .ok (.invokevirtual 314, 3) := by decide +kernel
theorem dX12_far_13 : decode cX12_far 13 = .ok (.ifCond .ne 9, 3) := by decide +kernel
theorem dX12_far_16 : decode cX12_far 16 = .ok (.aload_n 0, 1) := by decide +kernel
theorem dX12_far_17 : decode cX12_far 17 = .ok (.iconst 1, 1) := by decide +kernel
theorem dX12_far_18 : decode cX12_far 18 = .ok (.invokevirtual 93, 3) := by decide +kernel
theorem dX12_far_21 : decode cX12_far 21 = .ok (.ireturn, 1) := by decide +kernel
theorem dX12_far_22 : decode cX12_far 22 = .ok (.aload_n 0, 1) := by decide +kernel
theorem dX12_far_23 : decode cX12_far 23 = .ok (.iload_n 2, 1) := by decide +kernel
theorem dX12_far_24 : decode cX12_far 24 = .ok (.invokevirtual 401, 3) := by decide +kernel
theorem dX12_far_27 : decode cX12_far 27 = .ok (.aload_n 0, 1) := by decide +kernel
theorem dX12_far_28 : decode cX12_far 28 = .ok (.getfield 56, 3) := by decide +kernel
theorem dX12_far_31 : decode cX12_far 31 = .ok (.iload_n 1, 1) := by decide +kernel
theorem dX12_far_32 : decode cX12_far 32 = .ok (.iaload, 1) := by decide +kernel
theorem dX12_far_33 : decode cX12_far 33 = .ok (.ldc_w 310, 3) := by decide +kernel
theorem dX12_far_36 : decode cX12_far 36 = .ok (.if_icmp .lt 12, 3) := by decide +kernel
theorem dX12_far_39 : decode cX12_far 39 = .ok (.aload_n 0, 1) := by decide +kernel
theorem dX12_far_40 : decode cX12_far 40 = .ok (.bipush 6, 2) := by decide +kernel
theorem dX12_far_42 : decode cX12_far 42 = .ok (.invokevirtual 93, 3) := by decide +kernel
theorem dX12_far_45 : decode cX12_far 45 = .ok (.goto 13, 3) := by decide +kernel
theorem dX12_far_48 : decode cX12_far 48 = .ok (.aload_n 0, 1) := by decide +kernel
theorem dX12_far_49 : decode cX12_far 49 = .ok (.aload_n 0, 1) := by decide +kernel
theorem dX12_far_50 : decode cX12_far 50 = .ok (.getfield 56, 3) := by decide +kernel
theorem dX12_far_53 : decode cX12_far 53 = .ok (.iload_n 1, 1) := by decide +kernel
theorem dX12_far_54 : decode cX12_far 54 = .ok (.iaload, 1) := by decide +kernel
theorem dX12_far_55 : decode cX12_far 55 = .ok (.invokevirtual 97, 3) := by decide +kernel
theorem dX12_far_58 : decode cX12_far 58 = .ok (.ireturn, 1) := by decide +kernel
set_option maxRecDepth 100000 in
def f_X12_far_16 (l0 : Nat) (μ : dtM) : Option (Int32 × dtM) :=
  (opRv 12 μ l0).bind fun _ => opCall (f_X12_refuse l0 (1 : Int32) μ) fun x4 μ2 => some (x4, μ2)
set_option maxRecDepth 100000 in
def f_X12_far_58 (s0 : Int32) (μ : dtM) : Option (Int32 × dtM) :=
  some (s0, μ)
set_option maxRecDepth 100000 in
def f_X12_far (p0 : Nat) (p1 : Int32) (p2 : Int32) (μ : dtM) : Option (Int32 × dtM) :=
  (opRv 12 μ p0).bind fun _ => opCall (f_X12_isRoom p0 p1 μ) fun x4 μ2 => if x4 = 0 then (f_X12_far_16 p0 μ2) else ((opRv 12 μ2 p0).bind fun _ => opCall (f_X12_isRoom p0 p2 μ2) fun x11 μ9 => if x11 = 0 then (f_X12_far_16 p0 μ9) else ((opRv 12 μ9 p0).bind fun _ => (f_X12_laysFar p0 p2 μ9).bind fun μ16 => (opGR 12 28 μ16 p0).bind fun x18 => (opLI 1 μ16 x18 p1).bind fun x20 => if x20 < (1000000 : Int32) then ((opGR 12 28 μ16 p0).bind fun x25 => (opLI 1 μ16 x25 p1).bind fun x27 => (opRv 12 μ16 p0).bind fun _ => opCall (f_X12_gives p0 x27 μ16) fun x32 μ30 => f_X12_far_58 x32 μ30) else ((opRv 12 μ16 p0).bind fun _ => opCall (f_X12_refuse p0 (6 : Int32) μ16) fun x36 μ34 => f_X12_far_58 x36 μ34)))
set_option maxRecDepth 100000 in
theorem c_X12_far_16 {r : Int32} {F : dtM} (l0 : Nat) (μ : dtM) (h : f_X12_far_16 l0 μ = some (r, F)) : dtW yX12_far cX12_far 3 (some .int) 4 (some (.int r)) F 16 [some (.ref l0)] [] μ := by
  rw [f_X12_far_16] at h
  refine dr_aload_n l0 dX12_far_16 rfl ?_
  refine dr_iconst (1 : Int32) dX12_far_17 (by decide) ?_
  obtain ⟨_, hb1, h⟩ := dtBind h
  obtain ⟨x4, μ2, e3, h⟩ := dtCall h
  refine dr_callV_i (S0 := []) [.int (1 : Int32)] x4 μ2 dX12_far_18 (c_X12_refuse l0 (1 : Int32) μ e3) mf_X12_refuse wt_1552 ws_59 wt_1550 rfl (dtRv hb1) (by decide) rfl (Nat.le_of_ble_eq_true rfl) (Nat.le_of_ble_eq_true rfl) rfl ?_
  cases h
  exact dr_ireturn dX12_far_21 rfl
set_option maxRecDepth 100000 in
theorem c_X12_far_58 {r : Int32} {F : dtM} (s0 : Int32) (μ : dtM) (h : f_X12_far_58 s0 μ = some (r, F)) : dtW yX12_far cX12_far 3 (some .int) 4 (some (.int r)) F 58 [] [.int s0] μ := by
  rw [f_X12_far_58] at h
  cases h
  exact dr_ireturn dX12_far_58 rfl
set_option maxRecDepth 100000 in
theorem c_X12_far {r : Int32} {F : dtM} (p0 : Nat) (p1 : Int32) (p2 : Int32) (μ : dtM) (h : f_X12_far p0 p1 p2 μ = some (r, F)) : dtMet yX12_far cX12_far 3 (some .int) 4 [.ref p0, .int p1, .int p2] μ (some (.int r)) F := by
  refine dtMet.of (by decide +kernel) (Nat.le_of_ble_eq_true rfl) (show dtW yX12_far cX12_far 3 (some .int) 4 (some (.int r)) F 0 [some (.ref p0), some (.int p1), some (.int p2)] [] μ from ?_)
  rw [f_X12_far] at h
  refine dr_aload_n p0 dX12_far_0 rfl ?_
  refine dr_iload_n p1 dX12_far_1 rfl ?_
  obtain ⟨_, hb1, h⟩ := dtBind h
  obtain ⟨x4, μ2, e3, h⟩ := dtCall h
  refine dr_callV_i (S0 := []) [.int p1] x4 μ2 dX12_far_2 (c_X12_isRoom p0 p1 μ e3) mf_X12_isRoom wt_1748 ws_97 wt_1746 rfl (dtRv hb1) (by decide) rfl (Nat.le_of_ble_eq_true rfl) (Nat.le_of_ble_eq_true rfl) rfl ?_
  obtain ⟨ht6, hf7⟩ := dtIte h
  refine dr_if_eq 16 dX12_far_5 (by decide) (fun hc5 => ?_) (fun hc5 => ?_)
  · have h := ht6 hc5
    refine dr_mask [true] [some (.ref p0)] rfl ?_
    exact c_X12_far_16 p0 μ2 h
  · have h := hf7 hc5
    refine dr_aload_n p0 dX12_far_8 rfl ?_
    refine dr_iload_n p2 dX12_far_9 rfl ?_
    obtain ⟨_, hb8, h⟩ := dtBind h
    obtain ⟨x11, μ9, e10, h⟩ := dtCall h
    refine dr_callV_i (S0 := []) [.int p2] x11 μ9 dX12_far_10 (c_X12_isRoom p0 p2 μ2 e10) mf_X12_isRoom wt_1748 ws_97 wt_1746 rfl (dtRv hb8) (by decide) rfl (Nat.le_of_ble_eq_true rfl) (Nat.le_of_ble_eq_true rfl) rfl ?_
    obtain ⟨ht13, hf14⟩ := dtIte h
    refine dr_if_ne 22 dX12_far_13 (by decide) (fun hc12 => ?_) (fun hc12 => ?_)
    · have h := hf14 hc12
      refine dr_aload_n p0 dX12_far_22 rfl ?_
      refine dr_iload_n p2 dX12_far_23 rfl ?_
      obtain ⟨_, hb15, h⟩ := dtBind h
      obtain ⟨μ16, e17, h⟩ := dtBind h
      refine dr_callV_v (S0 := []) [.int p2] μ16 dX12_far_24 (c_X12_laysFar p0 p2 μ9 e17) mf_X12_laysFar wt_1941 ws_118 wt_1939 rfl (dtRv hb15) (by decide) rfl (Nat.le_of_ble_eq_true rfl) (Nat.le_of_ble_eq_true rfl) rfl ?_
      refine dr_aload_n p0 dX12_far_27 rfl ?_
      obtain ⟨x18, e19, h⟩ := dtBind h
      refine dr_getR x18 dX12_far_28 fl_RX12_56 e19 ?_
      refine dr_iload_n p1 dX12_far_31 rfl ?_
      obtain ⟨x20, e21, h⟩ := dtBind h
      refine dr_iaload x20 dX12_far_32 e21 ?_
      refine dr_ldcw (1000000 : Int32) dX12_far_33 wt_1754 ?_
      obtain ⟨ht23, hf24⟩ := dtIte h
      refine dr_icmp_lt 48 dX12_far_36 (by decide) (fun hc22 => ?_) (fun hc22 => ?_)
      · have h := ht23 hc22
        refine dr_aload_n p0 dX12_far_48 rfl ?_
        refine dr_aload_n p0 dX12_far_49 rfl ?_
        obtain ⟨x25, e26, h⟩ := dtBind h
        refine dr_getR x25 dX12_far_50 fl_RX12_56 e26 ?_
        refine dr_iload_n p1 dX12_far_53 rfl ?_
        obtain ⟨x27, e28, h⟩ := dtBind h
        refine dr_iaload x27 dX12_far_54 e28 ?_
        obtain ⟨_, hb29, h⟩ := dtBind h
        obtain ⟨x32, μ30, e31, h⟩ := dtCall h
        refine dr_callV_i (S0 := []) [.int x27] x32 μ30 dX12_far_55 (c_X12_gives p0 x27 μ16 e31) mf_X12_gives wt_1668 ws_85 wt_1666 rfl (dtRv hb29) (by decide) rfl (Nat.le_of_ble_eq_true rfl) (Nat.le_of_ble_eq_true rfl) rfl ?_
        refine dr_mask [] [] rfl ?_
        exact c_X12_far_58 x32 μ30 h
      · have h := hf24 hc22
        refine dr_aload_n p0 dX12_far_39 rfl ?_
        refine dr_bipush (6 : Int32) dX12_far_40 (by decide) ?_
        obtain ⟨_, hb33, h⟩ := dtBind h
        obtain ⟨x36, μ34, e35, h⟩ := dtCall h
        refine dr_callV_i (S0 := []) [.int (6 : Int32)] x36 μ34 dX12_far_42 (c_X12_refuse p0 (6 : Int32) μ16 e35) mf_X12_refuse wt_1552 ws_59 wt_1550 rfl (dtRv hb33) (by decide) rfl (Nat.le_of_ble_eq_true rfl) (Nat.le_of_ble_eq_true rfl) rfl ?_
        refine dr_goto 58 dX12_far_45 (by decide) ?_
        refine dr_mask [] [] rfl ?_
        exact c_X12_far_58 x36 μ34 h
    · have h := ht13 hc12
      refine dr_mask [true] [some (.ref p0)] rfl ?_
      exact c_X12_far_16 p0 μ9 h
/-! X12_nextTo -/
theorem dX12_nextTo_0 : decode cX12_nextTo 0 = .ok (.iconst 0, 1) := by decide +kernel
theorem dX12_nextTo_1 : decode cX12_nextTo 1 = .ok (.istore_n 2, 1) := by decide +kernel
theorem dX12_nextTo_2 : decode cX12_nextTo 2 = .ok (.iload_n 2, 1) := by decide +kernel
theorem dX12_nextTo_3 : decode cX12_nextTo 3 = .ok (.aload_n 0, 1) := by decide +kernel
theorem dX12_nextTo_4 : decode cX12_nextTo 4 = .ok (.getfield 7, 3) := by decide +kernel
theorem dX12_nextTo_7 : decode cX12_nextTo 7 = .ok (.iconst 0, 1) := by decide +kernel
theorem dX12_nextTo_8 : decode cX12_nextTo 8 = .ok (.iaload, 1) := by decide +kernel
theorem dX12_nextTo_9 : decode cX12_nextTo 9 = .ok (.if_icmp .ge 88, 3) := by decide +kernel
theorem dX12_nextTo_12 : decode cX12_nextTo 12 = .ok (.aload_n 0, 1) := by decide +kernel
theorem dX12_nextTo_13 : decode cX12_nextTo 13 = .ok (.getfield 56, 3) := by decide +kernel
theorem dX12_nextTo_16 : decode cX12_nextTo 16 = .ok (.iload_n 2, 1) := by decide +kernel
theorem dX12_nextTo_17 : decode cX12_nextTo 17 = .ok (.iaload, 1) := by decide +kernel
theorem dX12_nextTo_18 : decode cX12_nextTo 18 = .ok (.aload_n 0, 1) := by decide +kernel
theorem dX12_nextTo_19 : decode cX12_nextTo 19 = .ok (.getfield 56, 3) := by decide +kernel
theorem dX12_nextTo_22 : decode cX12_nextTo 22 = .ok (.iload_n 1, 1) := by decide +kernel
theorem dX12_nextTo_23 : decode cX12_nextTo 23 = .ok (.iaload, 1) := by decide +kernel
theorem dX12_nextTo_24 : decode cX12_nextTo 24 = .ok (.iconst 1, 1) := by decide +kernel
theorem dX12_nextTo_25 : decode cX12_nextTo 25 = .ok (.isub, 1) := by decide +kernel
theorem dX12_nextTo_26 : decode cX12_nextTo 26 = .ok (.if_icmp .eq 6, 3) := by decide +kernel
theorem dX12_nextTo_29 : decode cX12_nextTo 29 = .ok (.goto 62, 3) := by decide +kernel
theorem dX12_nextTo_32 : decode cX12_nextTo 32 = .ok (.iconst 0, 1) := by decide +kernel
theorem dX12_nextTo_33 : decode cX12_nextTo 33 = .ok (.istore_n 3, 1) := by decide +kernel
theorem dX12_nextTo_34 : decode cX12_nextTo 34 = .ok (.iload_n 3, 1) := by decide +kernel
theorem dX12_nextTo_35 : decode cX12_nextTo 35 = .ok (.aload_n 0, 1) := by decide +kernel
theorem dX12_nextTo_36 : decode cX12_nextTo 36 = .ok (.getfield 7, 3) := by decide +kernel
theorem dX12_nextTo_39 : decode cX12_nextTo 39 = .ok (.iconst 1, 1) := by decide +kernel
theorem dX12_nextTo_40 : decode cX12_nextTo 40 = .ok (.iaload, 1) := by decide +kernel
theorem dX12_nextTo_41 : decode cX12_nextTo 41 = .ok (.if_icmp .ge 50, 3) := by decide +kernel
theorem dX12_nextTo_44 : decode cX12_nextTo 44 = .ok (.iconst 1, 1) := by decide +kernel
theorem dX12_nextTo_45 : decode cX12_nextTo 45 = .ok (.aload_n 0, 1) := by decide +kernel
theorem dX12_nextTo_46 : decode cX12_nextTo 46 = .ok (.iload_n 3, 1) := by decide +kernel
theorem dX12_nextTo_47 : decode cX12_nextTo 47 = .ok (.iconst 0, 1) := by decide +kernel
theorem dX12_nextTo_48 : decode cX12_nextTo 48 = .ok (.invokevirtual 298, 3) := by decide +kernel
theorem dX12_nextTo_51 : decode cX12_nextTo 51 = .ok (.ishl, 1) := by decide +kernel
theorem dX12_nextTo_52 : decode cX12_nextTo 52 = .ok (.iconst 1, 1) := by decide +kernel
theorem dX12_nextTo_53 : decode cX12_nextTo 53 = .ok (.aload_n 0, 1) := by decide +kernel
theorem dX12_nextTo_54 : decode cX12_nextTo 54 = .ok (.iload_n 3, 1) := by decide +kernel
theorem dX12_nextTo_55 : decode cX12_nextTo 55 = .ok (.iconst 1, 1) := by decide +kernel
theorem dX12_nextTo_56 : decode cX12_nextTo 56 = .ok (.invokevirtual 298, 3) := by decide +kernel
theorem dX12_nextTo_59 : decode cX12_nextTo 59 = .ok (.ishl, 1) := by decide +kernel
theorem dX12_nextTo_60 : decode cX12_nextTo 60 = .ok (.ior, 1) := by decide +kernel
theorem dX12_nextTo_61 : decode cX12_nextTo 61 = .ok (.istore 4, 2) := by decide +kernel
theorem dX12_nextTo_63 : decode cX12_nextTo 63 = .ok (.aload_n 0, 1) := by decide +kernel
theorem dX12_nextTo_64 : decode cX12_nextTo 64 = .ok (.iload_n 3, 1) := by decide +kernel
theorem dX12_nextTo_65 : decode cX12_nextTo 65 = .ok (.invokevirtual 311, 3) := by decide +kernel
theorem dX12_nextTo_68 : decode cX12_nextTo 68 = .ok (.ifCond .eq 17, 3) := by decide +kernel
theorem dX12_nextTo_71 : decode cX12_nextTo 71 = .ok (.iload 4, 2) := by decide +kernel
theorem dX12_nextTo_73 : decode cX12_nextTo 73 = .ok (.iconst 1, 1) := by decide +kernel
theorem dX12_nextTo_74 : decode cX12_nextTo 74 = .ok (.iload_n 2, 1) := by decide +kernel
theorem dX12_nextTo_75 : decode cX12_nextTo 75 = .ok (.ishl, 1) := by decide +kernel
theorem dX12_nextTo_76 : decode cX12_nextTo 76 = .ok (.iconst 1, 1) := by decide +kernel
theorem dX12_nextTo_77 : decode cX12_nextTo 77 = .ok (.iload_n 1, 1) := by decide +kernel
theorem dX12_nextTo_78 : decode cX12_nextTo 78 = .ok (.ishl, 1) := by decide +kernel
theorem dX12_nextTo_79 : decode cX12_nextTo 79 = .ok (.ior, 1) := by decide +kernel
theorem dX12_nextTo_80 : decode cX12_nextTo 80 = .ok (.if_icmp .ne 5, 3) := by decide +kernel
theorem dX12_nextTo_83 : decode cX12_nextTo 83 = .ok (.iload_n 2, 1) := by decide +kernel
theorem dX12_nextTo_84 : decode cX12_nextTo 84 = .ok (.ireturn, 1) := by decide +kernel
theorem dX12_nextTo_85 : decode cX12_nextTo 85 = .ok (.iinc 3 1, 3) := by decide +kernel
theorem dX12_nextTo_88 : decode cX12_nextTo 88 = .ok (.goto (-54), 3) := by decide +kernel
theorem dX12_nextTo_91 : decode cX12_nextTo 91 = .ok (.iinc 2 1, 3) := by decide +kernel
theorem dX12_nextTo_94 : decode cX12_nextTo 94 = .ok (.goto (-92), 3) := by decide +kernel
theorem dX12_nextTo_97 : decode cX12_nextTo 97 = .ok (.iconst (-1), 1) := by decide +kernel
theorem dX12_nextTo_98 : decode cX12_nextTo 98 = .ok (.ireturn, 1) := by decide +kernel
set_option maxRecDepth 100000 in
def f_X12_nextTo_91 (k2 : Nat → Int32 → Int32 → dtM → Option (Int32 × dtM)) (l0 : Nat) (l1 : Int32) (l2 : Int32) (μ : dtM) : Option (Int32 × dtM) :=
  k2 l0 l1 (l2 + 1) μ
set_option maxRecDepth 100000 in
def f_X12_nextTo_85 (k2 : Nat → Int32 → Int32 → dtM → Option (Int32 × dtM)) (k34 : Nat → Int32 → Int32 → Int32 → dtM → Option (Int32 × dtM)) (l0 : Nat) (l1 : Int32) (l2 : Int32) (l3 : Int32) (μ : dtM) : Option (Int32 × dtM) :=
  k34 l0 l1 l2 (l3 + 1) μ
set_option maxRecDepth 100000 in
def f_X12_nextTo_34 (k2 : Nat → Int32 → Int32 → dtM → Option (Int32 × dtM)) : Nat → Nat → Int32 → Int32 → Int32 → dtM → Option (Int32 × dtM)
  | 0, _, _, _, _, _ => none
  | n + 1, l0, l1, l2, l3, μ =>
    (opGR 12 0 μ l0).bind fun x1 => (opLI 1 μ x1 (1 : Int32)).bind fun x3 => if x3 ≤ l3 then (f_X12_nextTo_91 k2 l0 l1 l2 μ) else ((opRv 12 μ l0).bind fun _ => opCall (f_X12_doorOf l0 l3 (0 : Int32) μ) fun x11 μ9 => (opRv 12 μ9 l0).bind fun _ => opCall (f_X12_doorOf l0 l3 (1 : Int32) μ9) fun x15 μ13 => (some (((1 : Int32) <<< (x11 &&& 31)) ||| ((1 : Int32) <<< (x15 &&& 31)))).bind fun x16 => (opRv 12 μ13 l0).bind fun _ => opCall (f_X12_isOpen l0 l3 μ13) fun x21 μ19 => if x21 = 0 then (f_X12_nextTo_85 k2 (f_X12_nextTo_34 k2 n) l0 l1 l2 l3 μ19) else (if x16 = (((1 : Int32) <<< (l2 &&& 31)) ||| ((1 : Int32) <<< (l1 &&& 31))) then (some (l2, μ19)) else (f_X12_nextTo_85 k2 (f_X12_nextTo_34 k2 n) l0 l1 l2 l3 μ19)))
set_option maxRecDepth 100000 in
def f_X12_nextTo_2 : Nat → Nat → Int32 → Int32 → dtM → Option (Int32 × dtM)
  | 0, _, _, _, _ => none
  | n + 1, l0, l1, l2, μ =>
    (opGR 12 0 μ l0).bind fun x1 => (opLI 1 μ x1 (0 : Int32)).bind fun x3 => if x3 ≤ l2 then (some ((-1 : Int32), μ)) else ((opGR 12 28 μ l0).bind fun x8 => (opLI 1 μ x8 l2).bind fun x10 => (opGR 12 28 μ l0).bind fun x12 => (opLI 1 μ x12 l1).bind fun x14 => if x10 = (x14 - (1 : Int32)) then (f_X12_nextTo_34 (f_X12_nextTo_2 n) dtFuel l0 l1 l2 (0 : Int32) μ) else (f_X12_nextTo_91 (f_X12_nextTo_2 n) l0 l1 l2 μ))
set_option maxRecDepth 100000 in
def f_X12_nextTo (p0 : Nat) (p1 : Int32) (μ : dtM) : Option (Int32 × dtM) :=
  f_X12_nextTo_2 dtFuel p0 p1 (0 : Int32) μ
set_option maxRecDepth 100000 in
theorem c_X12_nextTo_91 {r : Int32} {F : dtM} (k2 : Nat → Int32 → Int32 → dtM → Option (Int32 × dtM)) (hk2 : ∀ (l0 : Nat) (l1 : Int32) (l2 : Int32) (μ : dtM), k2 l0 l1 l2 μ = some (r, F) → dtW yX12_nextTo cX12_nextTo 5 (some .int) 3 (some (.int r)) F 2 [some (.ref l0), some (.int l1), some (.int l2)] [] μ) (l0 : Nat) (l1 : Int32) (l2 : Int32) (μ : dtM) (h : f_X12_nextTo_91 k2 l0 l1 l2 μ = some (r, F)) : dtW yX12_nextTo cX12_nextTo 5 (some .int) 3 (some (.int r)) F 91 [some (.ref l0), some (.int l1), some (.int l2)] [] μ := by
  rw [f_X12_nextTo_91] at h
  refine dr_iinc l2 (l2 + 1) [some (.ref l0), some (.int l1), some (.int (l2 + 1))] dX12_nextTo_91 rfl rfl rfl rfl rfl ?_
  refine dr_goto 2 dX12_nextTo_94 (by decide) ?_
  exact hk2 l0 l1 (l2 + 1) μ h
set_option maxRecDepth 100000 in
theorem c_X12_nextTo_85 {r : Int32} {F : dtM} (k2 : Nat → Int32 → Int32 → dtM → Option (Int32 × dtM)) (k34 : Nat → Int32 → Int32 → Int32 → dtM → Option (Int32 × dtM)) (hk2 : ∀ (l0 : Nat) (l1 : Int32) (l2 : Int32) (μ : dtM), k2 l0 l1 l2 μ = some (r, F) → dtW yX12_nextTo cX12_nextTo 5 (some .int) 3 (some (.int r)) F 2 [some (.ref l0), some (.int l1), some (.int l2)] [] μ) (hk34 : ∀ (l0 : Nat) (l1 : Int32) (l2 : Int32) (l3 : Int32) (μ : dtM), k34 l0 l1 l2 l3 μ = some (r, F) → dtW yX12_nextTo cX12_nextTo 5 (some .int) 3 (some (.int r)) F 34 [some (.ref l0), some (.int l1), some (.int l2), some (.int l3)] [] μ) (l0 : Nat) (l1 : Int32) (l2 : Int32) (l3 : Int32) (μ : dtM) (h : f_X12_nextTo_85 k2 k34 l0 l1 l2 l3 μ = some (r, F)) : dtW yX12_nextTo cX12_nextTo 5 (some .int) 3 (some (.int r)) F 85 [some (.ref l0), some (.int l1), some (.int l2), some (.int l3)] [] μ := by
  rw [f_X12_nextTo_85] at h
  refine dr_iinc l3 (l3 + 1) [some (.ref l0), some (.int l1), some (.int l2), some (.int (l3 + 1))] dX12_nextTo_85 rfl rfl rfl rfl rfl ?_
  refine dr_goto 34 dX12_nextTo_88 (by decide) ?_
  exact hk34 l0 l1 l2 (l3 + 1) μ h
set_option maxRecDepth 100000 in
theorem c_X12_nextTo_34 {r : Int32} {F : dtM} (k2 : Nat → Int32 → Int32 → dtM → Option (Int32 × dtM)) (hk2 : ∀ (l0 : Nat) (l1 : Int32) (l2 : Int32) (μ : dtM), k2 l0 l1 l2 μ = some (r, F) → dtW yX12_nextTo cX12_nextTo 5 (some .int) 3 (some (.int r)) F 2 [some (.ref l0), some (.int l1), some (.int l2)] [] μ) : ∀ (n : Nat) (l0 : Nat) (l1 : Int32) (l2 : Int32) (l3 : Int32) (μ : dtM), f_X12_nextTo_34 k2 n l0 l1 l2 l3 μ = some (r, F) → dtW yX12_nextTo cX12_nextTo 5 (some .int) 3 (some (.int r)) F 34 [some (.ref l0), some (.int l1), some (.int l2), some (.int l3)] [] μ := by
  intro n
  induction n with
  | zero => intro l0 l1 l2 l3 μ h; cases h
  | succ n ih =>
    intro l0 l1 l2 l3 μ h
    have h := (show f_X12_nextTo_34 k2 (n + 1) l0 l1 l2 l3 μ = some _ from h)
    rw [f_X12_nextTo_34] at h
    refine dr_iload_n l3 dX12_nextTo_34 rfl ?_
    refine dr_aload_n l0 dX12_nextTo_35 rfl ?_
    obtain ⟨x1, e2, h⟩ := dtBind h
    refine dr_getR x1 dX12_nextTo_36 fl_RX12_7 e2 ?_
    refine dr_iconst (1 : Int32) dX12_nextTo_39 (by decide) ?_
    obtain ⟨x3, e4, h⟩ := dtBind h
    refine dr_iaload x3 dX12_nextTo_40 e4 ?_
    obtain ⟨ht6, hf7⟩ := dtIte h
    refine dr_icmp_ge 91 dX12_nextTo_41 (by decide) (fun hc5 => ?_) (fun hc5 => ?_)
    · have h := ht6 hc5
      refine dr_mask [true, true, true] [some (.ref l0), some (.int l1), some (.int l2)] rfl ?_
      exact c_X12_nextTo_91 k2 hk2 l0 l1 l2 μ h
    · have h := hf7 hc5
      refine dr_iconst (1 : Int32) dX12_nextTo_44 (by decide) ?_
      refine dr_aload_n l0 dX12_nextTo_45 rfl ?_
      refine dr_iload_n l3 dX12_nextTo_46 rfl ?_
      refine dr_iconst (0 : Int32) dX12_nextTo_47 (by decide) ?_
      obtain ⟨_, hb8, h⟩ := dtBind h
      obtain ⟨x11, μ9, e10, h⟩ := dtCall h
      refine dr_callV_i (S0 := [.int (1 : Int32)]) [.int l3, .int (0 : Int32)] x11 μ9 dX12_nextTo_48 (c_X12_doorOf l0 l3 (0 : Int32) μ e10) mf_X12_doorOf wt_1712 ws_93 wt_1710 rfl (dtRv hb8) (by decide) rfl (Nat.le_of_ble_eq_true rfl) (Nat.le_of_ble_eq_true rfl) rfl ?_
      refine dr_ishl dX12_nextTo_51 ?_
      refine dr_iconst (1 : Int32) dX12_nextTo_52 (by decide) ?_
      refine dr_aload_n l0 dX12_nextTo_53 rfl ?_
      refine dr_iload_n l3 dX12_nextTo_54 rfl ?_
      refine dr_iconst (1 : Int32) dX12_nextTo_55 (by decide) ?_
      obtain ⟨_, hb12, h⟩ := dtBind h
      obtain ⟨x15, μ13, e14, h⟩ := dtCall h
      refine dr_callV_i (S0 := [.int (1 : Int32), .int ((1 : Int32) <<< (x11 &&& 31))]) [.int l3, .int (1 : Int32)] x15 μ13 dX12_nextTo_56 (c_X12_doorOf l0 l3 (1 : Int32) μ9 e14) mf_X12_doorOf wt_1712 ws_93 wt_1710 rfl (dtRv hb12) (by decide) rfl (Nat.le_of_ble_eq_true rfl) (Nat.le_of_ble_eq_true rfl) rfl ?_
      refine dr_ishl dX12_nextTo_59 ?_
      refine dr_ior dX12_nextTo_60 ?_
      obtain ⟨x16, e17, h⟩ := dtBind h
      refine dr_nmi e17 ?_
      refine dr_istore [some (.ref l0), some (.int l1), some (.int l2), some (.int l3), some (.int x16)] dX12_nextTo_61 rfl rfl rfl ?_
      refine dr_aload_n l0 dX12_nextTo_63 rfl ?_
      refine dr_iload_n l3 dX12_nextTo_64 rfl ?_
      obtain ⟨_, hb18, h⟩ := dtBind h
      obtain ⟨x21, μ19, e20, h⟩ := dtCall h
      refine dr_callV_i (S0 := []) [.int l3] x21 μ19 dX12_nextTo_65 (c_X12_isOpen l0 l3 μ13 e20) mf_X12_isOpen wt_1757 ws_99 wt_1755 rfl (dtRv hb18) (by decide) rfl (Nat.le_of_ble_eq_true rfl) (Nat.le_of_ble_eq_true rfl) rfl ?_
      obtain ⟨ht23, hf24⟩ := dtIte h
      refine dr_if_eq 85 dX12_nextTo_68 (by decide) (fun hc22 => ?_) (fun hc22 => ?_)
      · have h := ht23 hc22
        refine dr_mask [true, true, true, true] [some (.ref l0), some (.int l1), some (.int l2), some (.int l3)] rfl ?_
        exact c_X12_nextTo_85 k2 (f_X12_nextTo_34 k2 n) hk2 ih l0 l1 l2 l3 μ19 h
      · have h := hf24 hc22
        refine dr_iload x16 dX12_nextTo_71 rfl ?_
        refine dr_iconst (1 : Int32) dX12_nextTo_73 (by decide) ?_
        refine dr_iload_n l2 dX12_nextTo_74 rfl ?_
        refine dr_ishl dX12_nextTo_75 ?_
        refine dr_iconst (1 : Int32) dX12_nextTo_76 (by decide) ?_
        refine dr_iload_n l1 dX12_nextTo_77 rfl ?_
        refine dr_ishl dX12_nextTo_78 ?_
        refine dr_ior dX12_nextTo_79 ?_
        obtain ⟨ht26, hf27⟩ := dtIte h
        refine dr_icmp_ne 85 dX12_nextTo_80 (by decide) (fun hc25 => ?_) (fun hc25 => ?_)
        · have h := hf27 hc25
          refine dr_mask [true, true, true, true] [some (.ref l0), some (.int l1), some (.int l2), some (.int l3)] rfl ?_
          exact c_X12_nextTo_85 k2 (f_X12_nextTo_34 k2 n) hk2 ih l0 l1 l2 l3 μ19 h
        · have h := ht26 hc25
          refine dr_iload_n l2 dX12_nextTo_83 rfl ?_
          cases h
          exact dr_ireturn dX12_nextTo_84 rfl
set_option maxRecDepth 100000 in
theorem c_X12_nextTo_2 {r : Int32} {F : dtM} : ∀ (n : Nat) (l0 : Nat) (l1 : Int32) (l2 : Int32) (μ : dtM), f_X12_nextTo_2 n l0 l1 l2 μ = some (r, F) → dtW yX12_nextTo cX12_nextTo 5 (some .int) 3 (some (.int r)) F 2 [some (.ref l0), some (.int l1), some (.int l2)] [] μ := by
  intro n
  induction n with
  | zero => intro l0 l1 l2 μ h; cases h
  | succ n ih =>
    intro l0 l1 l2 μ h
    have h := (show f_X12_nextTo_2 (n + 1) l0 l1 l2 μ = some _ from h)
    rw [f_X12_nextTo_2] at h
    refine dr_iload_n l2 dX12_nextTo_2 rfl ?_
    refine dr_aload_n l0 dX12_nextTo_3 rfl ?_
    obtain ⟨x1, e2, h⟩ := dtBind h
    refine dr_getR x1 dX12_nextTo_4 fl_RX12_7 e2 ?_
    refine dr_iconst (0 : Int32) dX12_nextTo_7 (by decide) ?_
    obtain ⟨x3, e4, h⟩ := dtBind h
    refine dr_iaload x3 dX12_nextTo_8 e4 ?_
    obtain ⟨ht6, hf7⟩ := dtIte h
    refine dr_icmp_ge 97 dX12_nextTo_9 (by decide) (fun hc5 => ?_) (fun hc5 => ?_)
    · have h := ht6 hc5
      refine dr_iconst (-1 : Int32) dX12_nextTo_97 (by decide) ?_
      cases h
      exact dr_ireturn dX12_nextTo_98 rfl
    · have h := hf7 hc5
      refine dr_aload_n l0 dX12_nextTo_12 rfl ?_
      obtain ⟨x8, e9, h⟩ := dtBind h
      refine dr_getR x8 dX12_nextTo_13 fl_RX12_56 e9 ?_
      refine dr_iload_n l2 dX12_nextTo_16 rfl ?_
      obtain ⟨x10, e11, h⟩ := dtBind h
      refine dr_iaload x10 dX12_nextTo_17 e11 ?_
      refine dr_aload_n l0 dX12_nextTo_18 rfl ?_
      obtain ⟨x12, e13, h⟩ := dtBind h
      refine dr_getR x12 dX12_nextTo_19 fl_RX12_56 e13 ?_
      refine dr_iload_n l1 dX12_nextTo_22 rfl ?_
      obtain ⟨x14, e15, h⟩ := dtBind h
      refine dr_iaload x14 dX12_nextTo_23 e15 ?_
      refine dr_iconst (1 : Int32) dX12_nextTo_24 (by decide) ?_
      refine dr_isub dX12_nextTo_25 ?_
      obtain ⟨ht17, hf18⟩ := dtIte h
      refine dr_icmp_eq 32 dX12_nextTo_26 (by decide) (fun hc16 => ?_) (fun hc16 => ?_)
      · have h := ht17 hc16
        refine dr_iconst (0 : Int32) dX12_nextTo_32 (by decide) ?_
        refine dr_istore_n 3 [some (.ref l0), some (.int l1), some (.int l2), some (.int (0 : Int32))] dX12_nextTo_33 rfl rfl rfl rfl ?_
        exact c_X12_nextTo_34 (f_X12_nextTo_2 n) ih dtFuel l0 l1 l2 (0 : Int32) μ h
      · have h := hf18 hc16
        refine dr_goto 91 dX12_nextTo_29 (by decide) ?_
        exact c_X12_nextTo_91 (f_X12_nextTo_2 n) ih l0 l1 l2 μ h
set_option maxRecDepth 100000 in
theorem c_X12_nextTo {r : Int32} {F : dtM} (p0 : Nat) (p1 : Int32) (μ : dtM) (h : f_X12_nextTo p0 p1 μ = some (r, F)) : dtMet yX12_nextTo cX12_nextTo 5 (some .int) 3 [.ref p0, .int p1] μ (some (.int r)) F := by
  refine dtMet.of (by decide +kernel) (Nat.le_of_ble_eq_true rfl) (show dtW yX12_nextTo cX12_nextTo 5 (some .int) 3 (some (.int r)) F 0 [some (.ref p0), some (.int p1)] [] μ from ?_)
  rw [f_X12_nextTo] at h
  refine dr_iconst (0 : Int32) dX12_nextTo_0 (by decide) ?_
  refine dr_istore_n 2 [some (.ref p0), some (.int p1), some (.int (0 : Int32))] dX12_nextTo_1 rfl rfl rfl rfl ?_
  exact c_X12_nextTo_2 dtFuel p0 p1 (0 : Int32) μ h
/-! X12_way -/
theorem dX12_way_0 : decode cX12_way 0 = .ok (.aload_n 0, 1) := by decide +kernel
theorem dX12_way_1 : decode cX12_way 1 = .ok (.iload_n 1, 1) := by decide +kernel
theorem dX12_way_2 : decode cX12_way 2 = .ok (.invokevirtual 314, 3) := by decide +kernel
theorem dX12_way_5 : decode cX12_way 5 = .ok (.ifCond .eq 15, 3) := by decide +kernel
theorem dX12_way_8 : decode cX12_way 8 = .ok (.aload_n 0, 1) := by decide +kernel
theorem dX12_way_9 : decode cX12_way 9 = .ok (.iload_n 2, 1) := by decide +kernel
theorem dX12_way_10 : decode cX12_way 10 = .ok (.invokevirtual 314, 3) := by decide +kernel
theorem dX12_way_13 : decode cX12_way 13 = .ok (.ifCond .eq 7, 3) := by decide +kernel
theorem dX12_way_16 : decode cX12_way 16 = .ok (.iload_n 3, 1) := by decide +kernel
theorem dX12_way_17 : decode cX12_way 17 = .ok (.ifCond .ge 9, 3) := by decide +kernel
theorem dX12_way_20 : decode cX12_way 20 = .ok (.aload_n 0, 1) := by decide +kernel
theorem dX12_way_21 : decode cX12_way 21 = .ok (.iconst 1, 1) := by decide +kernel
theorem dX12_way_22 : decode cX12_way 22 = .ok (.invokevirtual 93, 3) := by decide +kernel
theorem dX12_way_25 : decode cX12_way 25 = .ok (.ireturn, 1) := by decide +kernel
theorem dX12_way_26 : decode cX12_way 26 = .ok (.aload_n 0, 1) := by decide +kernel
theorem dX12_way_27 : decode cX12_way 27 = .ok (.iload_n 2, 1) := by decide +kernel
theorem dX12_way_28 : decode cX12_way 28 = .ok (.invokevirtual 401, 3) := by decide +kernel
theorem dX12_way_31 : decode cX12_way 31 = .ok (.aload_n 0, 1) := by decide +kernel
theorem dX12_way_32 : decode cX12_way 32 = .ok (.getfield 56, 3) := by decide +kernel
theorem dX12_way_35 : decode cX12_way 35 = .ok (.iload_n 1, 1) := by decide +kernel
theorem dX12_way_36 : decode cX12_way 36 = .ok (.iaload, 1) := by decide +kernel
theorem dX12_way_37 : decode cX12_way 37 = .ok (.ldc_w 310, 3) := by decide +kernel
theorem dX12_way_40 : decode cX12_way 40 = .ok (.if_icmp .ge 13, 3) := by decide +kernel
theorem dX12_way_43 : decode cX12_way 43 = .ok (.iload_n 3, 1) := by decide +kernel
theorem dX12_way_44 : decode cX12_way 44 = .ok (.aload_n 0, 1) := by decide +kernel
theorem dX12_way_45 : decode cX12_way 45 = .ok (.getfield 56, 3) := by decide +kernel
theorem dX12_way_48 : decode cX12_way 48 = .ok (.iload_n 1, 1) := by decide +kernel
theorem dX12_way_49 : decode cX12_way 49 = .ok (.iaload, 1) := by decide +kernel
theorem dX12_way_50 : decode cX12_way 50 = .ok (.if_icmp .le 10, 3) := by decide +kernel
theorem dX12_way_53 : decode cX12_way 53 = .ok (.aload_n 0, 1) := by decide +kernel
theorem dX12_way_54 : decode cX12_way 54 = .ok (.bipush 6, 2) := by decide +kernel
theorem dX12_way_56 : decode cX12_way 56 = .ok (.invokevirtual 93, 3) := by decide +kernel
theorem dX12_way_59 : decode cX12_way 59 = .ok (.ireturn, 1) := by decide +kernel
theorem dX12_way_60 : decode cX12_way 60 = .ok (.iload_n 1, 1) := by decide +kernel
theorem dX12_way_61 : decode cX12_way 61 = .ok (.istore 4, 2) := by decide +kernel
theorem dX12_way_63 : decode cX12_way 63 = .ok (.iconst 0, 1) := by decide +kernel
theorem dX12_way_64 : decode cX12_way 64 = .ok (.istore 5, 2) := by decide +kernel
theorem dX12_way_66 : decode cX12_way 66 = .ok (.iload 5, 2) := by decide +kernel
theorem dX12_way_68 : decode cX12_way 68 = .ok (.iload_n 3, 1) := by decide +kernel
theorem dX12_way_69 : decode cX12_way 69 = .ok (.if_icmp .ge 17, 3) := by decide +kernel
theorem dX12_way_72 : decode cX12_way 72 = .ok (.aload_n 0, 1) := by decide +kernel
theorem dX12_way_73 : decode cX12_way 73 = .ok (.iload 4, 2) := by decide +kernel
theorem dX12_way_75 : decode cX12_way 75 = .ok (.invokevirtual 404, 3) := by decide +kernel
theorem dX12_way_78 : decode cX12_way 78 = .ok (.istore 4, 2) := by decide +kernel
theorem dX12_way_80 : decode cX12_way 80 = .ok (.iinc 5 1, 3) := by decide +kernel
theorem dX12_way_83 : decode cX12_way 83 = .ok (.goto (-17), 3) := by decide +kernel
theorem dX12_way_86 : decode cX12_way 86 = .ok (.aload_n 0, 1) := by decide +kernel
theorem dX12_way_87 : decode cX12_way 87 = .ok (.iload 4, 2) := by decide +kernel
theorem dX12_way_89 : decode cX12_way 89 = .ok (.invokevirtual 97, 3) := by decide +kernel
theorem dX12_way_92 : decode cX12_way 92 = .ok (.ireturn, 1) := by decide +kernel
set_option maxRecDepth 100000 in
def f_X12_way_20 (l0 : Nat) (μ : dtM) : Option (Int32 × dtM) :=
  (opRv 12 μ l0).bind fun _ => opCall (f_X12_refuse l0 (1 : Int32) μ) fun x4 μ2 => some (x4, μ2)
set_option maxRecDepth 100000 in
def f_X12_way_53 (l0 : Nat) (μ : dtM) : Option (Int32 × dtM) :=
  (opRv 12 μ l0).bind fun _ => opCall (f_X12_refuse l0 (6 : Int32) μ) fun x4 μ2 => some (x4, μ2)
set_option maxRecDepth 100000 in
def f_X12_way_66 : Nat → Nat → Int32 → Int32 → Int32 → dtM → Option (Int32 × dtM)
  | 0, _, _, _, _, _ => none
  | n + 1, l0, l3, l4, l5, μ =>
    if l3 ≤ l5 then ((opRv 12 μ l0).bind fun _ => opCall (f_X12_gives l0 l4 μ) fun x7 μ5 => some (x7, μ5)) else ((opRv 12 μ l0).bind fun _ => opCall (f_X12_nextTo l0 l4 μ) fun x11 μ9 => f_X12_way_66 n l0 l3 x11 (l5 + 1) μ9)
set_option maxRecDepth 100000 in
def f_X12_way (p0 : Nat) (p1 : Int32) (p2 : Int32) (p3 : Int32) (μ : dtM) : Option (Int32 × dtM) :=
  (opRv 12 μ p0).bind fun _ => opCall (f_X12_isRoom p0 p1 μ) fun x4 μ2 => if x4 = 0 then (f_X12_way_20 p0 μ2) else ((opRv 12 μ2 p0).bind fun _ => opCall (f_X12_isRoom p0 p2 μ2) fun x11 μ9 => if x11 = 0 then (f_X12_way_20 p0 μ9) else (if 0 ≤ p3 then ((opRv 12 μ9 p0).bind fun _ => (f_X12_laysFar p0 p2 μ9).bind fun μ19 => (opGR 12 28 μ19 p0).bind fun x21 => (opLI 1 μ19 x21 p1).bind fun x23 => if (1000000 : Int32) ≤ x23 then (f_X12_way_53 p0 μ19) else ((opGR 12 28 μ19 p0).bind fun x28 => (opLI 1 μ19 x28 p1).bind fun x30 => if p3 ≤ x30 then (f_X12_way_66 dtFuel p0 p3 p1 (0 : Int32) μ19) else (f_X12_way_53 p0 μ19))) else (f_X12_way_20 p0 μ9)))
set_option maxRecDepth 100000 in
theorem c_X12_way_20 {r : Int32} {F : dtM} (l0 : Nat) (μ : dtM) (h : f_X12_way_20 l0 μ = some (r, F)) : dtW yX12_way cX12_way 6 (some .int) 4 (some (.int r)) F 20 [some (.ref l0)] [] μ := by
  rw [f_X12_way_20] at h
  refine dr_aload_n l0 dX12_way_20 rfl ?_
  refine dr_iconst (1 : Int32) dX12_way_21 (by decide) ?_
  obtain ⟨_, hb1, h⟩ := dtBind h
  obtain ⟨x4, μ2, e3, h⟩ := dtCall h
  refine dr_callV_i (S0 := []) [.int (1 : Int32)] x4 μ2 dX12_way_22 (c_X12_refuse l0 (1 : Int32) μ e3) mf_X12_refuse wt_1552 ws_59 wt_1550 rfl (dtRv hb1) (by decide) rfl (Nat.le_of_ble_eq_true rfl) (Nat.le_of_ble_eq_true rfl) rfl ?_
  cases h
  exact dr_ireturn dX12_way_25 rfl
set_option maxRecDepth 100000 in
theorem c_X12_way_53 {r : Int32} {F : dtM} (l0 : Nat) (μ : dtM) (h : f_X12_way_53 l0 μ = some (r, F)) : dtW yX12_way cX12_way 6 (some .int) 4 (some (.int r)) F 53 [some (.ref l0)] [] μ := by
  rw [f_X12_way_53] at h
  refine dr_aload_n l0 dX12_way_53 rfl ?_
  refine dr_bipush (6 : Int32) dX12_way_54 (by decide) ?_
  obtain ⟨_, hb1, h⟩ := dtBind h
  obtain ⟨x4, μ2, e3, h⟩ := dtCall h
  refine dr_callV_i (S0 := []) [.int (6 : Int32)] x4 μ2 dX12_way_56 (c_X12_refuse l0 (6 : Int32) μ e3) mf_X12_refuse wt_1552 ws_59 wt_1550 rfl (dtRv hb1) (by decide) rfl (Nat.le_of_ble_eq_true rfl) (Nat.le_of_ble_eq_true rfl) rfl ?_
  cases h
  exact dr_ireturn dX12_way_59 rfl
set_option maxRecDepth 100000 in
theorem c_X12_way_66 {r : Int32} {F : dtM} : ∀ (n : Nat) (l0 : Nat) (l3 : Int32) (l4 : Int32) (l5 : Int32) (μ : dtM), f_X12_way_66 n l0 l3 l4 l5 μ = some (r, F) → dtW yX12_way cX12_way 6 (some .int) 4 (some (.int r)) F 66 [some (.ref l0), none, none, some (.int l3), some (.int l4), some (.int l5)] [] μ := by
  intro n
  induction n with
  | zero => intro l0 l3 l4 l5 μ h; cases h
  | succ n ih =>
    intro l0 l3 l4 l5 μ h
    have h := (show f_X12_way_66 (n + 1) l0 l3 l4 l5 μ = some _ from h)
    rw [f_X12_way_66] at h
    refine dr_iload l5 dX12_way_66 rfl ?_
    refine dr_iload_n l3 dX12_way_68 rfl ?_
    obtain ⟨ht2, hf3⟩ := dtIte h
    refine dr_icmp_ge 86 dX12_way_69 (by decide) (fun hc1 => ?_) (fun hc1 => ?_)
    · have h := ht2 hc1
      refine dr_aload_n l0 dX12_way_86 rfl ?_
      refine dr_iload l4 dX12_way_87 rfl ?_
      obtain ⟨_, hb4, h⟩ := dtBind h
      obtain ⟨x7, μ5, e6, h⟩ := dtCall h
      refine dr_callV_i (S0 := []) [.int l4] x7 μ5 dX12_way_89 (c_X12_gives l0 l4 μ e6) mf_X12_gives wt_1668 ws_85 wt_1666 rfl (dtRv hb4) (by decide) rfl (Nat.le_of_ble_eq_true rfl) (Nat.le_of_ble_eq_true rfl) rfl ?_
      cases h
      exact dr_ireturn dX12_way_92 rfl
    · have h := hf3 hc1
      refine dr_aload_n l0 dX12_way_72 rfl ?_
      refine dr_iload l4 dX12_way_73 rfl ?_
      obtain ⟨_, hb8, h⟩ := dtBind h
      obtain ⟨x11, μ9, e10, h⟩ := dtCall h
      refine dr_callV_i (S0 := []) [.int l4] x11 μ9 dX12_way_75 (c_X12_nextTo l0 l4 μ e10) mf_X12_nextTo wt_1949 ws_119 wt_1947 rfl (dtRv hb8) (by decide) rfl (Nat.le_of_ble_eq_true rfl) (Nat.le_of_ble_eq_true rfl) rfl ?_
      refine dr_istore [some (.ref l0), none, none, some (.int l3), some (.int x11), some (.int l5)] dX12_way_78 rfl rfl rfl ?_
      refine dr_iinc l5 (l5 + 1) [some (.ref l0), none, none, some (.int l3), some (.int x11), some (.int (l5 + 1))] dX12_way_80 rfl rfl rfl rfl rfl ?_
      refine dr_goto 66 dX12_way_83 (by decide) ?_
      exact ih l0 l3 x11 (l5 + 1) μ9 h
set_option maxRecDepth 100000 in
theorem c_X12_way {r : Int32} {F : dtM} (p0 : Nat) (p1 : Int32) (p2 : Int32) (p3 : Int32) (μ : dtM) (h : f_X12_way p0 p1 p2 p3 μ = some (r, F)) : dtMet yX12_way cX12_way 6 (some .int) 4 [.ref p0, .int p1, .int p2, .int p3] μ (some (.int r)) F := by
  refine dtMet.of (by decide +kernel) (Nat.le_of_ble_eq_true rfl) (show dtW yX12_way cX12_way 6 (some .int) 4 (some (.int r)) F 0 [some (.ref p0), some (.int p1), some (.int p2), some (.int p3)] [] μ from ?_)
  rw [f_X12_way] at h
  refine dr_aload_n p0 dX12_way_0 rfl ?_
  refine dr_iload_n p1 dX12_way_1 rfl ?_
  obtain ⟨_, hb1, h⟩ := dtBind h
  obtain ⟨x4, μ2, e3, h⟩ := dtCall h
  refine dr_callV_i (S0 := []) [.int p1] x4 μ2 dX12_way_2 (c_X12_isRoom p0 p1 μ e3) mf_X12_isRoom wt_1748 ws_97 wt_1746 rfl (dtRv hb1) (by decide) rfl (Nat.le_of_ble_eq_true rfl) (Nat.le_of_ble_eq_true rfl) rfl ?_
  obtain ⟨ht6, hf7⟩ := dtIte h
  refine dr_if_eq 20 dX12_way_5 (by decide) (fun hc5 => ?_) (fun hc5 => ?_)
  · have h := ht6 hc5
    refine dr_mask [true] [some (.ref p0)] rfl ?_
    exact c_X12_way_20 p0 μ2 h
  · have h := hf7 hc5
    refine dr_aload_n p0 dX12_way_8 rfl ?_
    refine dr_iload_n p2 dX12_way_9 rfl ?_
    obtain ⟨_, hb8, h⟩ := dtBind h
    obtain ⟨x11, μ9, e10, h⟩ := dtCall h
    refine dr_callV_i (S0 := []) [.int p2] x11 μ9 dX12_way_10 (c_X12_isRoom p0 p2 μ2 e10) mf_X12_isRoom wt_1748 ws_97 wt_1746 rfl (dtRv hb8) (by decide) rfl (Nat.le_of_ble_eq_true rfl) (Nat.le_of_ble_eq_true rfl) rfl ?_
    obtain ⟨ht13, hf14⟩ := dtIte h
    refine dr_if_eq 20 dX12_way_13 (by decide) (fun hc12 => ?_) (fun hc12 => ?_)
    · have h := ht13 hc12
      refine dr_mask [true] [some (.ref p0)] rfl ?_
      exact c_X12_way_20 p0 μ9 h
    · have h := hf14 hc12
      refine dr_iload_n p3 dX12_way_16 rfl ?_
      obtain ⟨ht16, hf17⟩ := dtIte h
      refine dr_if_ge 26 dX12_way_17 (by decide) (fun hc15 => ?_) (fun hc15 => ?_)
      · have h := ht16 hc15
        refine dr_aload_n p0 dX12_way_26 rfl ?_
        refine dr_iload_n p2 dX12_way_27 rfl ?_
        obtain ⟨_, hb18, h⟩ := dtBind h
        obtain ⟨μ19, e20, h⟩ := dtBind h
        refine dr_callV_v (S0 := []) [.int p2] μ19 dX12_way_28 (c_X12_laysFar p0 p2 μ9 e20) mf_X12_laysFar wt_1941 ws_118 wt_1939 rfl (dtRv hb18) (by decide) rfl (Nat.le_of_ble_eq_true rfl) (Nat.le_of_ble_eq_true rfl) rfl ?_
        refine dr_aload_n p0 dX12_way_31 rfl ?_
        obtain ⟨x21, e22, h⟩ := dtBind h
        refine dr_getR x21 dX12_way_32 fl_RX12_56 e22 ?_
        refine dr_iload_n p1 dX12_way_35 rfl ?_
        obtain ⟨x23, e24, h⟩ := dtBind h
        refine dr_iaload x23 dX12_way_36 e24 ?_
        refine dr_ldcw (1000000 : Int32) dX12_way_37 wt_1754 ?_
        obtain ⟨ht26, hf27⟩ := dtIte h
        refine dr_icmp_ge 53 dX12_way_40 (by decide) (fun hc25 => ?_) (fun hc25 => ?_)
        · have h := ht26 hc25
          refine dr_mask [true] [some (.ref p0)] rfl ?_
          exact c_X12_way_53 p0 μ19 h
        · have h := hf27 hc25
          refine dr_iload_n p3 dX12_way_43 rfl ?_
          refine dr_aload_n p0 dX12_way_44 rfl ?_
          obtain ⟨x28, e29, h⟩ := dtBind h
          refine dr_getR x28 dX12_way_45 fl_RX12_56 e29 ?_
          refine dr_iload_n p1 dX12_way_48 rfl ?_
          obtain ⟨x30, e31, h⟩ := dtBind h
          refine dr_iaload x30 dX12_way_49 e31 ?_
          obtain ⟨ht33, hf34⟩ := dtIte h
          refine dr_icmp_le 60 dX12_way_50 (by decide) (fun hc32 => ?_) (fun hc32 => ?_)
          · have h := ht33 hc32
            refine dr_iload_n p1 dX12_way_60 rfl ?_
            refine dr_istore [some (.ref p0), some (.int p1), some (.int p2), some (.int p3), some (.int p1)] dX12_way_61 rfl rfl rfl ?_
            refine dr_iconst (0 : Int32) dX12_way_63 (by decide) ?_
            refine dr_istore [some (.ref p0), some (.int p1), some (.int p2), some (.int p3), some (.int p1), some (.int (0 : Int32))] dX12_way_64 rfl rfl rfl ?_
            refine dr_mask [true, false, false, true, true, true] [some (.ref p0), none, none, some (.int p3), some (.int p1), some (.int (0 : Int32))] rfl ?_
            exact c_X12_way_66 dtFuel p0 p3 p1 (0 : Int32) μ19 h
          · have h := hf34 hc32
            refine dr_mask [true] [some (.ref p0)] rfl ?_
            exact c_X12_way_53 p0 μ19 h
      · have h := hf17 hc15
        refine dr_mask [true] [some (.ref p0)] rfl ?_
        exact c_X12_way_20 p0 μ9 h
/-! X12_part -/
theorem dX12_part_0 : decode cX12_part 0 = .ok (.aload_n 0, 1) := by decide +kernel
theorem dX12_part_1 : decode cX12_part 1 = .ok (.iload_n 1, 1) := by decide +kernel
theorem dX12_part_2 : decode cX12_part 2 = .ok (.invokevirtual 314, 3) := by decide +kernel
theorem dX12_part_5 : decode cX12_part 5 = .ok (.ifCond .eq 23, 3) := by decide +kernel
theorem dX12_part_8 : decode cX12_part 8 = .ok (.aload_n 0, 1) := by decide +kernel
theorem dX12_part_9 : decode cX12_part 9 = .ok (.aload_n 0, 1) := by decide +kernel
theorem dX12_part_10 : decode cX12_part 10 = .ok (.iconst 1, 1) := by decide +kernel
theorem dX12_part_11 : decode cX12_part 11 = .ok (.iload_n 1, 1) := by decide +kernel
theorem dX12_part_12 : decode cX12_part 12 = .ok (.ishl, 1) := by decide +kernel
theorem dX12_part_13 : decode cX12_part 13 = .ok (.aload_n 0, 1) := by decide +kernel
theorem dX12_part_14 : decode cX12_part 14 = .ok (.getfield 7, 3) := by decide +kernel
theorem dX12_part_17 : decode cX12_part 17 = .ok (.iconst 5, 1) := by decide +kernel
theorem dX12_part_18 : decode cX12_part 18 = .ok (.iaload, 1) := by decide +kernel
theorem dX12_part_19 : decode cX12_part 19 = .ok (.invokevirtual 334, 3) := by decide +kernel
theorem dX12_part_22 : decode cX12_part 22 = .ok (.invokevirtual 97, 3) := by decide +kernel
theorem dX12_part_25 : decode cX12_part 25 = .ok (.goto 8, 3) := by decide +kernel
theorem dX12_part_28 : decode cX12_part 28 = .ok (.aload_n 0, 1) := by decide +kernel
theorem dX12_part_29 : decode cX12_part 29 = .ok (.iconst 1, 1) := by decide +kernel
theorem dX12_part_30 : decode cX12_part 30 = .ok (.invokevirtual 93, 3) := by decide +kernel
theorem dX12_part_33 : decode cX12_part 33 = .ok (.ireturn, 1) := by decide +kernel
set_option maxRecDepth 100000 in
def f_X12_part_33 (s0 : Int32) (μ : dtM) : Option (Int32 × dtM) :=
  some (s0, μ)
set_option maxRecDepth 100000 in
def f_X12_part (p0 : Nat) (p1 : Int32) (μ : dtM) : Option (Int32 × dtM) :=
  (opRv 12 μ p0).bind fun _ => opCall (f_X12_isRoom p0 p1 μ) fun x4 μ2 => if x4 = 0 then ((opRv 12 μ2 p0).bind fun _ => opCall (f_X12_refuse p0 (1 : Int32) μ2) fun x11 μ9 => f_X12_part_33 x11 μ9) else ((opGR 12 0 μ2 p0).bind fun x12 => (opLI 1 μ2 x12 (5 : Int32)).bind fun x14 => (opRv 12 μ2 p0).bind fun _ => opCall (f_X12_reaches p0 ((1 : Int32) <<< (p1 &&& 31)) x14 μ2) fun x19 μ17 => (opRv 12 μ17 p0).bind fun _ => opCall (f_X12_gives p0 x19 μ17) fun x23 μ21 => f_X12_part_33 x23 μ21)
set_option maxRecDepth 100000 in
theorem c_X12_part_33 {r : Int32} {F : dtM} (s0 : Int32) (μ : dtM) (h : f_X12_part_33 s0 μ = some (r, F)) : dtW yX12_part cX12_part 2 (some .int) 4 (some (.int r)) F 33 [] [.int s0] μ := by
  rw [f_X12_part_33] at h
  cases h
  exact dr_ireturn dX12_part_33 rfl
set_option maxRecDepth 100000 in
theorem c_X12_part {r : Int32} {F : dtM} (p0 : Nat) (p1 : Int32) (μ : dtM) (h : f_X12_part p0 p1 μ = some (r, F)) : dtMet yX12_part cX12_part 2 (some .int) 4 [.ref p0, .int p1] μ (some (.int r)) F := by
  refine dtMet.of (by decide +kernel) (Nat.le_of_ble_eq_true rfl) (show dtW yX12_part cX12_part 2 (some .int) 4 (some (.int r)) F 0 [some (.ref p0), some (.int p1)] [] μ from ?_)
  rw [f_X12_part] at h
  refine dr_aload_n p0 dX12_part_0 rfl ?_
  refine dr_iload_n p1 dX12_part_1 rfl ?_
  obtain ⟨_, hb1, h⟩ := dtBind h
  obtain ⟨x4, μ2, e3, h⟩ := dtCall h
  refine dr_callV_i (S0 := []) [.int p1] x4 μ2 dX12_part_2 (c_X12_isRoom p0 p1 μ e3) mf_X12_isRoom wt_1748 ws_97 wt_1746 rfl (dtRv hb1) (by decide) rfl (Nat.le_of_ble_eq_true rfl) (Nat.le_of_ble_eq_true rfl) rfl ?_
  obtain ⟨ht6, hf7⟩ := dtIte h
  refine dr_if_eq 28 dX12_part_5 (by decide) (fun hc5 => ?_) (fun hc5 => ?_)
  · have h := ht6 hc5
    refine dr_aload_n p0 dX12_part_28 rfl ?_
    refine dr_iconst (1 : Int32) dX12_part_29 (by decide) ?_
    obtain ⟨_, hb8, h⟩ := dtBind h
    obtain ⟨x11, μ9, e10, h⟩ := dtCall h
    refine dr_callV_i (S0 := []) [.int (1 : Int32)] x11 μ9 dX12_part_30 (c_X12_refuse p0 (1 : Int32) μ2 e10) mf_X12_refuse wt_1552 ws_59 wt_1550 rfl (dtRv hb8) (by decide) rfl (Nat.le_of_ble_eq_true rfl) (Nat.le_of_ble_eq_true rfl) rfl ?_
    refine dr_mask [] [] rfl ?_
    exact c_X12_part_33 x11 μ9 h
  · have h := hf7 hc5
    refine dr_aload_n p0 dX12_part_8 rfl ?_
    refine dr_aload_n p0 dX12_part_9 rfl ?_
    refine dr_iconst (1 : Int32) dX12_part_10 (by decide) ?_
    refine dr_iload_n p1 dX12_part_11 rfl ?_
    refine dr_ishl dX12_part_12 ?_
    refine dr_aload_n p0 dX12_part_13 rfl ?_
    obtain ⟨x12, e13, h⟩ := dtBind h
    refine dr_getR x12 dX12_part_14 fl_RX12_7 e13 ?_
    refine dr_iconst (5 : Int32) dX12_part_17 (by decide) ?_
    obtain ⟨x14, e15, h⟩ := dtBind h
    refine dr_iaload x14 dX12_part_18 e15 ?_
    obtain ⟨_, hb16, h⟩ := dtBind h
    obtain ⟨x19, μ17, e18, h⟩ := dtCall h
    refine dr_callV_i (S0 := [.ref p0]) [.int ((1 : Int32) <<< (p1 &&& 31)), .int x14] x19 μ17 dX12_part_19 (c_X12_reaches p0 ((1 : Int32) <<< (p1 &&& 31)) x14 μ2 e18) mf_X12_reaches wt_1791 ws_102 wt_1789 rfl (dtRv hb16) (by decide) rfl (Nat.le_of_ble_eq_true rfl) (Nat.le_of_ble_eq_true rfl) rfl ?_
    obtain ⟨_, hb20, h⟩ := dtBind h
    obtain ⟨x23, μ21, e22, h⟩ := dtCall h
    refine dr_callV_i (S0 := []) [.int x19] x23 μ21 dX12_part_22 (c_X12_gives p0 x19 μ17 e22) mf_X12_gives wt_1668 ws_85 wt_1666 rfl (dtRv hb20) (by decide) rfl (Nat.le_of_ble_eq_true rfl) (Nat.le_of_ble_eq_true rfl) rfl ?_
    refine dr_goto 33 dX12_part_25 (by decide) ?_
    refine dr_mask [] [] rfl ?_
    exact c_X12_part_33 x23 μ21 h
/-! X12_doorsBetween -/
theorem dX12_doorsBetween_0 : decode cX12_doorsBetween 0 = .ok (.iload_n 3, 1) := by decide +kernel
theorem dX12_doorsBetween_1 : decode cX12_doorsBetween 1 = .ok (.ifCond .eq 12, 3) := by decide +kernel
theorem dX12_doorsBetween_4 : decode cX12_doorsBetween 4 = .ok (.aload_n 0, 1) := by decide +kernel
theorem dX12_doorsBetween_5 : decode cX12_doorsBetween 5 = .ok (.getfield 7, 3) := by decide +kernel
theorem dX12_doorsBetween_8 : decode cX12_doorsBetween 8 = .ok (.iconst 5, 1) := by decide +kernel
theorem dX12_doorsBetween_9 : decode cX12_doorsBetween 9 = .ok (.iaload, 1) := by decide +kernel
theorem dX12_doorsBetween_10 : decode cX12_doorsBetween 10 = .ok (.goto 11, 3) := by decide +kernel
theorem dX12_doorsBetween_13 : decode cX12_doorsBetween 13 = .ok (.aload_n 0, 1) := by decide +kernel
theorem dX12_doorsBetween_14 : decode cX12_doorsBetween 14 = .ok (.getfield 7, 3) := by decide +kernel
theorem dX12_doorsBetween_17 : decode cX12_doorsBetween 17 = .ok (.iconst 5, 1) := by decide +kernel
theorem dX12_doorsBetween_18 : decode cX12_doorsBetween 18 = .ok (.iaload, 1) := by decide +kernel
theorem dX12_doorsBetween_19 : decode cX12_doorsBetween 19 = .ok (.iconst (-1), 1) := by decide +kernel
theorem dX12_doorsBetween_20 : decode cX12_doorsBetween 20 = .ok (.ixor, 1) := by decide +kernel
theorem dX12_doorsBetween_21 : decode cX12_doorsBetween 21 = .ok (.istore 4, 2) := by decide +kernel
theorem dX12_doorsBetween_23 : decode cX12_doorsBetween 23 = .ok (.iconst (-1), 1) := by decide +kernel
theorem dX12_doorsBetween_24 : decode cX12_doorsBetween 24 = .ok (.istore 5, 2) := by decide +kernel
theorem dX12_doorsBetween_26 : decode cX12_doorsBetween 26 = .ok (.iconst 0, 1) := by decide +kernel
theorem dX12_doorsBetween_27 : decode cX12_doorsBetween 27 = .ok (.istore 6, 2) := by decide +kernel
theorem dX12_doorsBetween_29 : decode cX12_doorsBetween 29 = .ok (.iload 6, 2) := by decide +kernel
theorem dX12_doorsBetween_31 : decode cX12_doorsBetween 31 = .ok (.iconst 1, 1) := by decide +kernel
theorem dX12_doorsBetween_32 : decode cX12_doorsBetween 32 = .ok (.aload_n 0, 1) := by decide +kernel
theorem dX12_doorsBetween_33 : decode cX12_doorsBetween 33 = .ok (.getfield 7, 3) := by decide +kernel
theorem dX12_doorsBetween_36 : decode cX12_doorsBetween 36 = .ok (.iconst 1, 1) := by decide +kernel
theorem dX12_doorsBetween_37 : decode cX12_doorsBetween 37 = .ok (.iaload, 1) := by decide +kernel
theorem dX12_doorsBetween_38 : decode cX12_doorsBetween 38 = .ok (.ishl, 1) := by decide +kernel
theorem dX12_doorsBetween_39 : decode cX12_doorsBetween 39 = .ok (.if_icmp .ge 102, 3) := by decide +kernel
theorem dX12_doorsBetween_42 : decode cX12_doorsBetween 42 = .ok (.iload 6, 2) := by decide +kernel
theorem dX12_doorsBetween_44 : decode cX12_doorsBetween 44 = .ok (.iload 4, 2) := by decide +kernel
theorem dX12_doorsBetween_46 : decode cX12_doorsBetween 46 = .ok (.iconst (-1), 1) := by decide +kernel
theorem dX12_doorsBetween_47 : decode cX12_doorsBetween 47 = .ok (.ixor, 1) := by decide +kernel
theorem dX12_doorsBetween_48 : decode cX12_doorsBetween 48 = .ok (.iand, 1) := by decide +kernel
theorem dX12_doorsBetween_49 : decode cX12_doorsBetween 49 = .ok (.ifCond .ne 86, 3) := by decide +kernel
theorem dX12_doorsBetween_52 : decode cX12_doorsBetween 52 = .ok (.iload 5, 2) := by decide +kernel
theorem dX12_doorsBetween_54 : decode cX12_doorsBetween 54 = .ok (.iconst (-1), 1) := by decide +kernel
theorem dX12_doorsBetween_55 : decode cX12_doorsBetween 55 = .ok (.if_icmp .eq 19, 3) := by decide +kernel
theorem dX12_doorsBetween_58 : decode cX12_doorsBetween 58 = .ok (.iload 6, 2) := by decide +kernel
theorem dX12_doorsBetween_60 : decode cX12_doorsBetween 60 = .ok (.invokestatic 355, 3) := by decide +kernel
theorem dX12_doorsBetween_63 : decode cX12_doorsBetween 63 = .ok (.iload 5, 2) := by decide +kernel
theorem dX12_doorsBetween_65 : decode cX12_doorsBetween 65 = .ok (.invokestatic 355, 3) := by decide +kernel
theorem dX12_doorsBetween_68 : decode cX12_doorsBetween 68 = .ok (.if_icmp .lt 6, 3) := by decide +kernel
theorem dX12_doorsBetween_71 : decode cX12_doorsBetween 71 = .ok (.goto 64, 3) := by decide +kernel
theorem dX12_doorsBetween_74 : decode cX12_doorsBetween 74 = .ok (.aload_n 0, 1) := by decide +kernel
theorem dX12_doorsBetween_75 : decode cX12_doorsBetween 75 = .ok (.iconst 1, 1) := by decide +kernel
theorem dX12_doorsBetween_76 : decode cX12_doorsBetween 76 = .ok (.aload_n 0, 1) := by decide +kernel
theorem dX12_doorsBetween_77 : decode cX12_doorsBetween 77 = .ok (.iload_n 1, 1) := by decide +kernel
theorem dX12_doorsBetween_78 : decode cX12_doorsBetween 78 = .ok (.iconst 0, 1) := by decide +kernel
theorem dX12_doorsBetween_79 : decode cX12_doorsBetween 79 = .ok (.invokevirtual 295, 3) := by decide +kernel
theorem dX12_doorsBetween_82 : decode cX12_doorsBetween 82 = .ok (.ishl, 1) := by decide +kernel
theorem dX12_doorsBetween_83 : decode cX12_doorsBetween 83 = .ok (.iload_n 3, 1) := by decide +kernel
theorem dX12_doorsBetween_84 : decode cX12_doorsBetween 84 = .ok (.ifCond .eq 17, 3) := by decide +kernel
theorem dX12_doorsBetween_87 : decode cX12_doorsBetween 87 = .ok (.aload_n 0, 1) := by decide +kernel
theorem dX12_doorsBetween_88 : decode cX12_doorsBetween 88 = .ok (.getfield 7, 3) := by decide +kernel
theorem dX12_doorsBetween_91 : decode cX12_doorsBetween 91 = .ok (.iconst 5, 1) := by decide +kernel
theorem dX12_doorsBetween_92 : decode cX12_doorsBetween 92 = .ok (.iaload, 1) := by decide +kernel
theorem dX12_doorsBetween_93 : decode cX12_doorsBetween 93 = .ok (.iload 6, 2) := by decide +kernel
theorem dX12_doorsBetween_95 : decode cX12_doorsBetween 95 = .ok (.iconst (-1), 1) := by decide +kernel
theorem dX12_doorsBetween_96 : decode cX12_doorsBetween 96 = .ok (.ixor, 1) := by decide +kernel
theorem dX12_doorsBetween_97 : decode cX12_doorsBetween 97 = .ok (.iand, 1) := by decide +kernel
theorem dX12_doorsBetween_98 : decode cX12_doorsBetween 98 = .ok (.goto 12, 3) := by decide +kernel
theorem dX12_doorsBetween_101 : decode cX12_doorsBetween 101 = .ok (.aload_n 0, 1) := by decide +kernel
theorem dX12_doorsBetween_102 : decode cX12_doorsBetween 102 = .ok (.getfield 7, 3) := by decide +kernel
theorem dX12_doorsBetween_105 : decode cX12_doorsBetween 105 = .ok (.iconst 5, 1) := by decide +kernel
theorem dX12_doorsBetween_106 : decode cX12_doorsBetween 106 = .ok (.iaload, 1) := by decide +kernel
theorem dX12_doorsBetween_107 : decode cX12_doorsBetween 107 = .ok (.iload 6, 2) := by decide +kernel
theorem dX12_doorsBetween_109 : decode cX12_doorsBetween 109 = .ok (.ior, 1) := by decide +kernel
theorem dX12_doorsBetween_110 : decode cX12_doorsBetween 110 = .ok (.invokevirtual 334, 3) := by decide +kernel
theorem dX12_doorsBetween_113 : decode cX12_doorsBetween 113 = .ok (.istore 7, 2) := by decide +kernel
theorem dX12_doorsBetween_115 : decode cX12_doorsBetween 115 = .ok (.aload_n 0, 1) := by decide +kernel
theorem dX12_doorsBetween_116 : decode cX12_doorsBetween 116 = .ok (.iload 7, 2) := by decide +kernel
theorem dX12_doorsBetween_118 : decode cX12_doorsBetween 118 = .ok (.aload_n 0, 1) := by decide +kernel
theorem dX12_doorsBetween_119 : decode cX12_doorsBetween 119 = .ok (.iload_n 2, 1) := by decide +kernel
theorem dX12_doorsBetween_120 : decode cX12_doorsBetween 120 = .ok (.iconst 0, 1) := by decide +kernel
theorem dX12_doorsBetween_121 : decode cX12_doorsBetween 121 = .ok (.invokevirtual 295, 3) := by decide +kernel
theorem dX12_doorsBetween_124 : decode cX12_doorsBetween 124 = .ok (.invokevirtual 241, 3) := by decide +kernel
theorem dX12_doorsBetween_127 : decode cX12_doorsBetween 127 = .ok (.iload_n 3, 1) := by decide +kernel
theorem dX12_doorsBetween_128 : decode cX12_doorsBetween 128 = .ok (.if_icmp .eq 7, 3) := by decide +kernel
theorem dX12_doorsBetween_131 : decode cX12_doorsBetween 131 = .ok (.iload 6, 2) := by decide +kernel
theorem dX12_doorsBetween_133 : decode cX12_doorsBetween 133 = .ok (.istore 5, 2) := by decide +kernel
theorem dX12_doorsBetween_135 : decode cX12_doorsBetween 135 = .ok (.iinc 6 1, 3) := by decide +kernel
theorem dX12_doorsBetween_138 : decode cX12_doorsBetween 138 = .ok (.goto (-109), 3) := by decide +kernel
theorem dX12_doorsBetween_141 : decode cX12_doorsBetween 141 = .ok (.iload 5, 2) := by decide +kernel
theorem dX12_doorsBetween_143 : decode cX12_doorsBetween 143 = .ok (.ireturn, 1) := by decide +kernel
set_option maxRecDepth 100000 in
def f_X12_doorsBetween_135 (k29 : Nat → Int32 → Int32 → Int32 → Int32 → Int32 → Int32 → dtM → Option (Int32 × dtM)) (l0 : Nat) (l1 : Int32) (l2 : Int32) (l3 : Int32) (l4 : Int32) (l5 : Int32) (l6 : Int32) (μ : dtM) : Option (Int32 × dtM) :=
  k29 l0 l1 l2 l3 l4 l5 (l6 + 1) μ
set_option maxRecDepth 100000 in
def f_X12_doorsBetween_110 (k29 : Nat → Int32 → Int32 → Int32 → Int32 → Int32 → Int32 → dtM → Option (Int32 × dtM)) (l0 : Nat) (l1 : Int32) (l2 : Int32) (l3 : Int32) (l4 : Int32) (l5 : Int32) (l6 : Int32) (s0 : Nat) (s1 : Int32) (s2 : Int32) (μ : dtM) : Option (Int32 × dtM) :=
  (opRv 12 μ s0).bind fun _ => opCall (f_X12_reaches s0 s1 s2 μ) fun x4 μ2 => (opRv 12 μ2 l0).bind fun _ => opCall (f_X12_personOf l0 l2 (0 : Int32) μ2) fun x8 μ6 => (opRv 12 μ6 l0).bind fun _ => opCall (f_X12_isIn l0 x4 x8 μ6) fun x12 μ10 => if x12 = l3 then (f_X12_doorsBetween_135 k29 l0 l1 l2 l3 l4 l5 l6 μ10) else (f_X12_doorsBetween_135 k29 l0 l1 l2 l3 l4 l6 l6 μ10)
set_option maxRecDepth 100000 in
def f_X12_doorsBetween_74 (k29 : Nat → Int32 → Int32 → Int32 → Int32 → Int32 → Int32 → dtM → Option (Int32 × dtM)) (l0 : Nat) (l1 : Int32) (l2 : Int32) (l3 : Int32) (l4 : Int32) (l5 : Int32) (l6 : Int32) (μ : dtM) : Option (Int32 × dtM) :=
  (opRv 12 μ l0).bind fun _ => opCall (f_X12_personOf l0 l1 (0 : Int32) μ) fun x4 μ2 => if l3 = 0 then ((opGR 12 0 μ2 l0).bind fun x8 => (opLI 1 μ2 x8 (5 : Int32)).bind fun x10 => f_X12_doorsBetween_110 k29 l0 l1 l2 l3 l4 l5 l6 l0 ((1 : Int32) <<< (x4 &&& 31)) (x10 ||| l6) μ2) else ((opGR 12 0 μ2 l0).bind fun x12 => (opLI 1 μ2 x12 (5 : Int32)).bind fun x14 => f_X12_doorsBetween_110 k29 l0 l1 l2 l3 l4 l5 l6 l0 ((1 : Int32) <<< (x4 &&& 31)) (x14 &&& (l6 ^^^ (-1 : Int32))) μ2)
set_option maxRecDepth 100000 in
def f_X12_doorsBetween_29 : Nat → Nat → Int32 → Int32 → Int32 → Int32 → Int32 → Int32 → dtM → Option (Int32 × dtM)
  | 0, _, _, _, _, _, _, _, _ => none
  | n + 1, l0, l1, l2, l3, l4, l5, l6, μ =>
    (opGR 12 0 μ l0).bind fun x1 => (opLI 1 μ x1 (1 : Int32)).bind fun x3 => if ((1 : Int32) <<< (x3 &&& 31)) ≤ l6 then (some (l5, μ)) else (if (l6 &&& (l4 ^^^ (-1 : Int32))) = 0 then (if l5 = (-1 : Int32) then (f_X12_doorsBetween_74 (f_X12_doorsBetween_29 n) l0 l1 l2 l3 l4 l5 l6 μ) else (opCall (f_X12_bits l6 μ) fun x16 μ14 => opCall (f_X12_bits l5 μ14) fun x19 μ17 => if x16 < x19 then (f_X12_doorsBetween_74 (f_X12_doorsBetween_29 n) l0 l1 l2 l3 l4 l5 l6 μ17) else (f_X12_doorsBetween_135 (f_X12_doorsBetween_29 n) l0 l1 l2 l3 l4 l5 l6 μ17))) else (f_X12_doorsBetween_135 (f_X12_doorsBetween_29 n) l0 l1 l2 l3 l4 l5 l6 μ))
set_option maxRecDepth 100000 in
def f_X12_doorsBetween_21 (l0 : Nat) (l1 : Int32) (l2 : Int32) (l3 : Int32) (s0 : Int32) (μ : dtM) : Option (Int32 × dtM) :=
  f_X12_doorsBetween_29 dtFuel l0 l1 l2 l3 s0 (-1 : Int32) (0 : Int32) μ
set_option maxRecDepth 100000 in
def f_X12_doorsBetween (p0 : Nat) (p1 : Int32) (p2 : Int32) (p3 : Int32) (μ : dtM) : Option (Int32 × dtM) :=
  if p3 = 0 then ((opGR 12 0 μ p0).bind fun x4 => (opLI 1 μ x4 (5 : Int32)).bind fun x6 => f_X12_doorsBetween_21 p0 p1 p2 p3 (x6 ^^^ (-1 : Int32)) μ) else ((opGR 12 0 μ p0).bind fun x8 => (opLI 1 μ x8 (5 : Int32)).bind fun x10 => f_X12_doorsBetween_21 p0 p1 p2 p3 x10 μ)
set_option maxRecDepth 100000 in
theorem c_X12_doorsBetween_135 {r : Int32} {F : dtM} (k29 : Nat → Int32 → Int32 → Int32 → Int32 → Int32 → Int32 → dtM → Option (Int32 × dtM)) (hk29 : ∀ (l0 : Nat) (l1 : Int32) (l2 : Int32) (l3 : Int32) (l4 : Int32) (l5 : Int32) (l6 : Int32) (μ : dtM), k29 l0 l1 l2 l3 l4 l5 l6 μ = some (r, F) → dtW yX12_doorsBetween cX12_doorsBetween 8 (some .int) 4 (some (.int r)) F 29 [some (.ref l0), some (.int l1), some (.int l2), some (.int l3), some (.int l4), some (.int l5), some (.int l6)] [] μ) (l0 : Nat) (l1 : Int32) (l2 : Int32) (l3 : Int32) (l4 : Int32) (l5 : Int32) (l6 : Int32) (μ : dtM) (h : f_X12_doorsBetween_135 k29 l0 l1 l2 l3 l4 l5 l6 μ = some (r, F)) : dtW yX12_doorsBetween cX12_doorsBetween 8 (some .int) 4 (some (.int r)) F 135 [some (.ref l0), some (.int l1), some (.int l2), some (.int l3), some (.int l4), some (.int l5), some (.int l6)] [] μ := by
  rw [f_X12_doorsBetween_135] at h
  refine dr_iinc l6 (l6 + 1) [some (.ref l0), some (.int l1), some (.int l2), some (.int l3), some (.int l4), some (.int l5), some (.int (l6 + 1))] dX12_doorsBetween_135 rfl rfl rfl rfl rfl ?_
  refine dr_goto 29 dX12_doorsBetween_138 (by decide) ?_
  exact hk29 l0 l1 l2 l3 l4 l5 (l6 + 1) μ h
set_option maxRecDepth 100000 in
theorem c_X12_doorsBetween_110 {r : Int32} {F : dtM} (k29 : Nat → Int32 → Int32 → Int32 → Int32 → Int32 → Int32 → dtM → Option (Int32 × dtM)) (hk29 : ∀ (l0 : Nat) (l1 : Int32) (l2 : Int32) (l3 : Int32) (l4 : Int32) (l5 : Int32) (l6 : Int32) (μ : dtM), k29 l0 l1 l2 l3 l4 l5 l6 μ = some (r, F) → dtW yX12_doorsBetween cX12_doorsBetween 8 (some .int) 4 (some (.int r)) F 29 [some (.ref l0), some (.int l1), some (.int l2), some (.int l3), some (.int l4), some (.int l5), some (.int l6)] [] μ) (l0 : Nat) (l1 : Int32) (l2 : Int32) (l3 : Int32) (l4 : Int32) (l5 : Int32) (l6 : Int32) (s0 : Nat) (s1 : Int32) (s2 : Int32) (μ : dtM) (h : f_X12_doorsBetween_110 k29 l0 l1 l2 l3 l4 l5 l6 s0 s1 s2 μ = some (r, F)) : dtW yX12_doorsBetween cX12_doorsBetween 8 (some .int) 4 (some (.int r)) F 110 [some (.ref l0), some (.int l1), some (.int l2), some (.int l3), some (.int l4), some (.int l5), some (.int l6)] [.int s2, .int s1, .ref s0] μ := by
  rw [f_X12_doorsBetween_110] at h
  obtain ⟨_, hb1, h⟩ := dtBind h
  obtain ⟨x4, μ2, e3, h⟩ := dtCall h
  refine dr_callV_i (S0 := []) [.int s1, .int s2] x4 μ2 dX12_doorsBetween_110 (c_X12_reaches s0 s1 s2 μ e3) mf_X12_reaches wt_1791 ws_102 wt_1789 rfl (dtRv hb1) (by decide) rfl (Nat.le_of_ble_eq_true rfl) (Nat.le_of_ble_eq_true rfl) rfl ?_
  refine dr_istore [some (.ref l0), some (.int l1), some (.int l2), some (.int l3), some (.int l4), some (.int l5), some (.int l6), some (.int x4)] dX12_doorsBetween_113 rfl rfl rfl ?_
  refine dr_aload_n l0 dX12_doorsBetween_115 rfl ?_
  refine dr_iload x4 dX12_doorsBetween_116 rfl ?_
  refine dr_aload_n l0 dX12_doorsBetween_118 rfl ?_
  refine dr_iload_n l2 dX12_doorsBetween_119 rfl ?_
  refine dr_iconst (0 : Int32) dX12_doorsBetween_120 (by decide) ?_
  obtain ⟨_, hb5, h⟩ := dtBind h
  obtain ⟨x8, μ6, e7, h⟩ := dtCall h
  refine dr_callV_i (S0 := [.int x4, .ref l0]) [.int l2, .int (0 : Int32)] x8 μ6 dX12_doorsBetween_121 (c_X12_personOf l0 l2 (0 : Int32) μ2 e7) mf_X12_personOf wt_1736 ws_96 wt_1734 rfl (dtRv hb5) (by decide) rfl (Nat.le_of_ble_eq_true rfl) (Nat.le_of_ble_eq_true rfl) rfl ?_
  obtain ⟨_, hb9, h⟩ := dtBind h
  obtain ⟨x12, μ10, e11, h⟩ := dtCall h
  refine dr_callV_i (S0 := []) [.int x4, .int x8] x12 μ10 dX12_doorsBetween_124 (c_X12_isIn l0 x4 x8 μ6 e11) mf_X12_isIn wt_1656 ws_82 wt_1654 rfl (dtRv hb9) (by decide) rfl (Nat.le_of_ble_eq_true rfl) (Nat.le_of_ble_eq_true rfl) rfl ?_
  refine dr_iload_n l3 dX12_doorsBetween_127 rfl ?_
  obtain ⟨ht14, hf15⟩ := dtIte h
  refine dr_icmp_eq 135 dX12_doorsBetween_128 (by decide) (fun hc13 => ?_) (fun hc13 => ?_)
  · have h := ht14 hc13
    refine dr_mask [true, true, true, true, true, true, true] [some (.ref l0), some (.int l1), some (.int l2), some (.int l3), some (.int l4), some (.int l5), some (.int l6)] rfl ?_
    exact c_X12_doorsBetween_135 k29 hk29 l0 l1 l2 l3 l4 l5 l6 μ10 h
  · have h := hf15 hc13
    refine dr_iload l6 dX12_doorsBetween_131 rfl ?_
    refine dr_istore [some (.ref l0), some (.int l1), some (.int l2), some (.int l3), some (.int l4), some (.int l6), some (.int l6), some (.int x4)] dX12_doorsBetween_133 rfl rfl rfl ?_
    refine dr_mask [true, true, true, true, true, true, true] [some (.ref l0), some (.int l1), some (.int l2), some (.int l3), some (.int l4), some (.int l6), some (.int l6)] rfl ?_
    exact c_X12_doorsBetween_135 k29 hk29 l0 l1 l2 l3 l4 l6 l6 μ10 h
set_option maxRecDepth 100000 in
theorem c_X12_doorsBetween_74 {r : Int32} {F : dtM} (k29 : Nat → Int32 → Int32 → Int32 → Int32 → Int32 → Int32 → dtM → Option (Int32 × dtM)) (hk29 : ∀ (l0 : Nat) (l1 : Int32) (l2 : Int32) (l3 : Int32) (l4 : Int32) (l5 : Int32) (l6 : Int32) (μ : dtM), k29 l0 l1 l2 l3 l4 l5 l6 μ = some (r, F) → dtW yX12_doorsBetween cX12_doorsBetween 8 (some .int) 4 (some (.int r)) F 29 [some (.ref l0), some (.int l1), some (.int l2), some (.int l3), some (.int l4), some (.int l5), some (.int l6)] [] μ) (l0 : Nat) (l1 : Int32) (l2 : Int32) (l3 : Int32) (l4 : Int32) (l5 : Int32) (l6 : Int32) (μ : dtM) (h : f_X12_doorsBetween_74 k29 l0 l1 l2 l3 l4 l5 l6 μ = some (r, F)) : dtW yX12_doorsBetween cX12_doorsBetween 8 (some .int) 4 (some (.int r)) F 74 [some (.ref l0), some (.int l1), some (.int l2), some (.int l3), some (.int l4), some (.int l5), some (.int l6)] [] μ := by
  rw [f_X12_doorsBetween_74] at h
  refine dr_aload_n l0 dX12_doorsBetween_74 rfl ?_
  refine dr_iconst (1 : Int32) dX12_doorsBetween_75 (by decide) ?_
  refine dr_aload_n l0 dX12_doorsBetween_76 rfl ?_
  refine dr_iload_n l1 dX12_doorsBetween_77 rfl ?_
  refine dr_iconst (0 : Int32) dX12_doorsBetween_78 (by decide) ?_
  obtain ⟨_, hb1, h⟩ := dtBind h
  obtain ⟨x4, μ2, e3, h⟩ := dtCall h
  refine dr_callV_i (S0 := [.int (1 : Int32), .ref l0]) [.int l1, .int (0 : Int32)] x4 μ2 dX12_doorsBetween_79 (c_X12_personOf l0 l1 (0 : Int32) μ e3) mf_X12_personOf wt_1736 ws_96 wt_1734 rfl (dtRv hb1) (by decide) rfl (Nat.le_of_ble_eq_true rfl) (Nat.le_of_ble_eq_true rfl) rfl ?_
  refine dr_ishl dX12_doorsBetween_82 ?_
  refine dr_iload_n l3 dX12_doorsBetween_83 rfl ?_
  obtain ⟨ht6, hf7⟩ := dtIte h
  refine dr_if_eq 101 dX12_doorsBetween_84 (by decide) (fun hc5 => ?_) (fun hc5 => ?_)
  · have h := ht6 hc5
    refine dr_aload_n l0 dX12_doorsBetween_101 rfl ?_
    obtain ⟨x8, e9, h⟩ := dtBind h
    refine dr_getR x8 dX12_doorsBetween_102 fl_RX12_7 e9 ?_
    refine dr_iconst (5 : Int32) dX12_doorsBetween_105 (by decide) ?_
    obtain ⟨x10, e11, h⟩ := dtBind h
    refine dr_iaload x10 dX12_doorsBetween_106 e11 ?_
    refine dr_iload l6 dX12_doorsBetween_107 rfl ?_
    refine dr_ior dX12_doorsBetween_109 ?_
    exact c_X12_doorsBetween_110 k29 hk29 l0 l1 l2 l3 l4 l5 l6 l0 ((1 : Int32) <<< (x4 &&& 31)) (x10 ||| l6) μ2 h
  · have h := hf7 hc5
    refine dr_aload_n l0 dX12_doorsBetween_87 rfl ?_
    obtain ⟨x12, e13, h⟩ := dtBind h
    refine dr_getR x12 dX12_doorsBetween_88 fl_RX12_7 e13 ?_
    refine dr_iconst (5 : Int32) dX12_doorsBetween_91 (by decide) ?_
    obtain ⟨x14, e15, h⟩ := dtBind h
    refine dr_iaload x14 dX12_doorsBetween_92 e15 ?_
    refine dr_iload l6 dX12_doorsBetween_93 rfl ?_
    refine dr_iconst (-1 : Int32) dX12_doorsBetween_95 (by decide) ?_
    refine dr_ixor dX12_doorsBetween_96 ?_
    refine dr_iand dX12_doorsBetween_97 ?_
    refine dr_goto 110 dX12_doorsBetween_98 (by decide) ?_
    exact c_X12_doorsBetween_110 k29 hk29 l0 l1 l2 l3 l4 l5 l6 l0 ((1 : Int32) <<< (x4 &&& 31)) (x14 &&& (l6 ^^^ (-1 : Int32))) μ2 h
set_option maxRecDepth 100000 in
theorem c_X12_doorsBetween_29 {r : Int32} {F : dtM} : ∀ (n : Nat) (l0 : Nat) (l1 : Int32) (l2 : Int32) (l3 : Int32) (l4 : Int32) (l5 : Int32) (l6 : Int32) (μ : dtM), f_X12_doorsBetween_29 n l0 l1 l2 l3 l4 l5 l6 μ = some (r, F) → dtW yX12_doorsBetween cX12_doorsBetween 8 (some .int) 4 (some (.int r)) F 29 [some (.ref l0), some (.int l1), some (.int l2), some (.int l3), some (.int l4), some (.int l5), some (.int l6)] [] μ := by
  intro n
  induction n with
  | zero => intro l0 l1 l2 l3 l4 l5 l6 μ h; cases h
  | succ n ih =>
    intro l0 l1 l2 l3 l4 l5 l6 μ h
    have h := (show f_X12_doorsBetween_29 (n + 1) l0 l1 l2 l3 l4 l5 l6 μ = some _ from h)
    rw [f_X12_doorsBetween_29] at h
    refine dr_iload l6 dX12_doorsBetween_29 rfl ?_
    refine dr_iconst (1 : Int32) dX12_doorsBetween_31 (by decide) ?_
    refine dr_aload_n l0 dX12_doorsBetween_32 rfl ?_
    obtain ⟨x1, e2, h⟩ := dtBind h
    refine dr_getR x1 dX12_doorsBetween_33 fl_RX12_7 e2 ?_
    refine dr_iconst (1 : Int32) dX12_doorsBetween_36 (by decide) ?_
    obtain ⟨x3, e4, h⟩ := dtBind h
    refine dr_iaload x3 dX12_doorsBetween_37 e4 ?_
    refine dr_ishl dX12_doorsBetween_38 ?_
    obtain ⟨ht6, hf7⟩ := dtIte h
    refine dr_icmp_ge 141 dX12_doorsBetween_39 (by decide) (fun hc5 => ?_) (fun hc5 => ?_)
    · have h := ht6 hc5
      refine dr_iload l5 dX12_doorsBetween_141 rfl ?_
      cases h
      exact dr_ireturn dX12_doorsBetween_143 rfl
    · have h := hf7 hc5
      refine dr_iload l6 dX12_doorsBetween_42 rfl ?_
      refine dr_iload l4 dX12_doorsBetween_44 rfl ?_
      refine dr_iconst (-1 : Int32) dX12_doorsBetween_46 (by decide) ?_
      refine dr_ixor dX12_doorsBetween_47 ?_
      refine dr_iand dX12_doorsBetween_48 ?_
      obtain ⟨ht9, hf10⟩ := dtIte h
      refine dr_if_ne 135 dX12_doorsBetween_49 (by decide) (fun hc8 => ?_) (fun hc8 => ?_)
      · have h := hf10 hc8
        exact c_X12_doorsBetween_135 (f_X12_doorsBetween_29 n) ih l0 l1 l2 l3 l4 l5 l6 μ h
      · have h := ht9 hc8
        refine dr_iload l5 dX12_doorsBetween_52 rfl ?_
        refine dr_iconst (-1 : Int32) dX12_doorsBetween_54 (by decide) ?_
        obtain ⟨ht12, hf13⟩ := dtIte h
        refine dr_icmp_eq 74 dX12_doorsBetween_55 (by decide) (fun hc11 => ?_) (fun hc11 => ?_)
        · have h := ht12 hc11
          exact c_X12_doorsBetween_74 (f_X12_doorsBetween_29 n) ih l0 l1 l2 l3 l4 l5 l6 μ h
        · have h := hf13 hc11
          refine dr_iload l6 dX12_doorsBetween_58 rfl ?_
          obtain ⟨x16, μ14, e15, h⟩ := dtCall h
          refine dr_callS_i (S0 := []) [.int l6] x16 μ14 dX12_doorsBetween_60 (c_X12_bits l6 μ e15) mf_X12_bits wt_1826 wt_1825 rfl (Nat.le_of_ble_eq_true rfl) (Nat.le_of_ble_eq_true rfl) rfl ?_
          refine dr_iload l5 dX12_doorsBetween_63 rfl ?_
          obtain ⟨x19, μ17, e18, h⟩ := dtCall h
          refine dr_callS_i (S0 := [.int x16]) [.int l5] x19 μ17 dX12_doorsBetween_65 (c_X12_bits l5 μ14 e18) mf_X12_bits wt_1826 wt_1825 rfl (Nat.le_of_ble_eq_true rfl) (Nat.le_of_ble_eq_true rfl) rfl ?_
          obtain ⟨ht21, hf22⟩ := dtIte h
          refine dr_icmp_lt 74 dX12_doorsBetween_68 (by decide) (fun hc20 => ?_) (fun hc20 => ?_)
          · have h := ht21 hc20
            exact c_X12_doorsBetween_74 (f_X12_doorsBetween_29 n) ih l0 l1 l2 l3 l4 l5 l6 μ17 h
          · have h := hf22 hc20
            refine dr_goto 135 dX12_doorsBetween_71 (by decide) ?_
            exact c_X12_doorsBetween_135 (f_X12_doorsBetween_29 n) ih l0 l1 l2 l3 l4 l5 l6 μ17 h
set_option maxRecDepth 100000 in
theorem c_X12_doorsBetween_21 {r : Int32} {F : dtM} (l0 : Nat) (l1 : Int32) (l2 : Int32) (l3 : Int32) (s0 : Int32) (μ : dtM) (h : f_X12_doorsBetween_21 l0 l1 l2 l3 s0 μ = some (r, F)) : dtW yX12_doorsBetween cX12_doorsBetween 8 (some .int) 4 (some (.int r)) F 21 [some (.ref l0), some (.int l1), some (.int l2), some (.int l3)] [.int s0] μ := by
  rw [f_X12_doorsBetween_21] at h
  refine dr_istore [some (.ref l0), some (.int l1), some (.int l2), some (.int l3), some (.int s0)] dX12_doorsBetween_21 rfl rfl rfl ?_
  refine dr_iconst (-1 : Int32) dX12_doorsBetween_23 (by decide) ?_
  refine dr_istore [some (.ref l0), some (.int l1), some (.int l2), some (.int l3), some (.int s0), some (.int (-1 : Int32))] dX12_doorsBetween_24 rfl rfl rfl ?_
  refine dr_iconst (0 : Int32) dX12_doorsBetween_26 (by decide) ?_
  refine dr_istore [some (.ref l0), some (.int l1), some (.int l2), some (.int l3), some (.int s0), some (.int (-1 : Int32)), some (.int (0 : Int32))] dX12_doorsBetween_27 rfl rfl rfl ?_
  exact c_X12_doorsBetween_29 dtFuel l0 l1 l2 l3 s0 (-1 : Int32) (0 : Int32) μ h
set_option maxRecDepth 100000 in
theorem c_X12_doorsBetween {r : Int32} {F : dtM} (p0 : Nat) (p1 : Int32) (p2 : Int32) (p3 : Int32) (μ : dtM) (h : f_X12_doorsBetween p0 p1 p2 p3 μ = some (r, F)) : dtMet yX12_doorsBetween cX12_doorsBetween 8 (some .int) 4 [.ref p0, .int p1, .int p2, .int p3] μ (some (.int r)) F := by
  refine dtMet.of (by decide +kernel) (Nat.le_of_ble_eq_true rfl) (show dtW yX12_doorsBetween cX12_doorsBetween 8 (some .int) 4 (some (.int r)) F 0 [some (.ref p0), some (.int p1), some (.int p2), some (.int p3)] [] μ from ?_)
  rw [f_X12_doorsBetween] at h
  refine dr_iload_n p3 dX12_doorsBetween_0 rfl ?_
  obtain ⟨ht2, hf3⟩ := dtIte h
  refine dr_if_eq 13 dX12_doorsBetween_1 (by decide) (fun hc1 => ?_) (fun hc1 => ?_)
  · have h := ht2 hc1
    refine dr_aload_n p0 dX12_doorsBetween_13 rfl ?_
    obtain ⟨x4, e5, h⟩ := dtBind h
    refine dr_getR x4 dX12_doorsBetween_14 fl_RX12_7 e5 ?_
    refine dr_iconst (5 : Int32) dX12_doorsBetween_17 (by decide) ?_
    obtain ⟨x6, e7, h⟩ := dtBind h
    refine dr_iaload x6 dX12_doorsBetween_18 e7 ?_
    refine dr_iconst (-1 : Int32) dX12_doorsBetween_19 (by decide) ?_
    refine dr_ixor dX12_doorsBetween_20 ?_
    exact c_X12_doorsBetween_21 p0 p1 p2 p3 (x6 ^^^ (-1 : Int32)) μ h
  · have h := hf3 hc1
    refine dr_aload_n p0 dX12_doorsBetween_4 rfl ?_
    obtain ⟨x8, e9, h⟩ := dtBind h
    refine dr_getR x8 dX12_doorsBetween_5 fl_RX12_7 e9 ?_
    refine dr_iconst (5 : Int32) dX12_doorsBetween_8 (by decide) ?_
    obtain ⟨x10, e11, h⟩ := dtBind h
    refine dr_iaload x10 dX12_doorsBetween_9 e11 ?_
    refine dr_goto 21 dX12_doorsBetween_10 (by decide) ?_
    exact c_X12_doorsBetween_21 p0 p1 p2 p3 x10 μ h
/-! X12_areTwo -/
theorem dX12_areTwo_0 : decode cX12_areTwo 0 = .ok (.aload_n 0, 1) := by decide +kernel
theorem dX12_areTwo_1 : decode cX12_areTwo 1 = .ok (.iload_n 1, 1) := by decide +kernel
theorem dX12_areTwo_2 : decode cX12_areTwo 2 = .ok (.invokevirtual 307, 3) := by decide +kernel
theorem dX12_areTwo_5 : decode cX12_areTwo 5 = .ok (.ifCond .eq 20, 3) := by decide +kernel
theorem dX12_areTwo_8 : decode cX12_areTwo 8 = .ok (.aload_n 0, 1) := by decide +kernel
theorem dX12_areTwo_9 : decode cX12_areTwo 9 = .ok (.iload_n 2, 1) := by decide +kernel
theorem dX12_areTwo_10 : decode cX12_areTwo 10 = .ok (.invokevirtual 307, 3) := by decide +kernel
theorem dX12_areTwo_13 : decode cX12_areTwo 13 = .ok (.ifCond .eq 12, 3) := by decide +kernel
theorem dX12_areTwo_16 : decode cX12_areTwo 16 = .ok (.iload_n 1, 1) := by decide +kernel
theorem dX12_areTwo_17 : decode cX12_areTwo 17 = .ok (.iload_n 2, 1) := by decide +kernel
theorem dX12_areTwo_18 : decode cX12_areTwo 18 = .ok (.if_icmp .eq 7, 3) := by decide +kernel
theorem dX12_areTwo_21 : decode cX12_areTwo 21 = .ok (.iconst 1, 1) := by decide +kernel
theorem dX12_areTwo_22 : decode cX12_areTwo 22 = .ok (.goto 4, 3) := by decide +kernel
theorem dX12_areTwo_25 : decode cX12_areTwo 25 = .ok (.iconst 0, 1) := by decide +kernel
theorem dX12_areTwo_26 : decode cX12_areTwo 26 = .ok (.ireturn, 1) := by decide +kernel
set_option maxRecDepth 100000 in
def f_X12_areTwo_26 (s0 : Int32) (μ : dtM) : Option (Int32 × dtM) :=
  opRet s0 μ
set_option maxRecDepth 100000 in
def f_X12_areTwo_25  (μ : dtM) : Option (Int32 × dtM) :=
  f_X12_areTwo_26 (0 : Int32) μ
set_option maxRecDepth 100000 in
def f_X12_areTwo (p0 : Nat) (p1 : Int32) (p2 : Int32) (μ : dtM) : Option (Int32 × dtM) :=
  (opRv 12 μ p0).bind fun _ => opCall (f_X12_isPerson p0 p1 μ) fun x4 μ2 => if x4 = 0 then (f_X12_areTwo_25 μ2) else ((opRv 12 μ2 p0).bind fun _ => opCall (f_X12_isPerson p0 p2 μ2) fun x11 μ9 => if x11 = 0 then (f_X12_areTwo_25 μ9) else (if p1 = p2 then (f_X12_areTwo_25 μ9) else (f_X12_areTwo_26 (1 : Int32) μ9)))
set_option maxRecDepth 100000 in
theorem c_X12_areTwo_26 {r : Int32} {F : dtM} (s0 : Int32) (μ : dtM) (h : f_X12_areTwo_26 s0 μ = some (r, F)) : dtW yX12_areTwo cX12_areTwo 3 (some .boolean) 2 (some (.int r)) F 26 [] [.int s0] μ := by
  rw [f_X12_areTwo_26] at h
  obtain ⟨hz, rfl, rfl⟩ := dtRet h
  exact dr_ireturn dX12_areTwo_26 (dtNz hz)
set_option maxRecDepth 100000 in
theorem c_X12_areTwo_25 {r : Int32} {F : dtM}  (μ : dtM) (h : f_X12_areTwo_25  μ = some (r, F)) : dtW yX12_areTwo cX12_areTwo 3 (some .boolean) 2 (some (.int r)) F 25 [] [] μ := by
  rw [f_X12_areTwo_25] at h
  refine dr_iconst (0 : Int32) dX12_areTwo_25 (by decide) ?_
  exact c_X12_areTwo_26 (0 : Int32) μ h
set_option maxRecDepth 100000 in
theorem c_X12_areTwo {r : Int32} {F : dtM} (p0 : Nat) (p1 : Int32) (p2 : Int32) (μ : dtM) (h : f_X12_areTwo p0 p1 p2 μ = some (r, F)) : dtMet yX12_areTwo cX12_areTwo 3 (some .boolean) 2 [.ref p0, .int p1, .int p2] μ (some (.int r)) F := by
  refine dtMet.of (by decide +kernel) (Nat.le_of_ble_eq_true rfl) (show dtW yX12_areTwo cX12_areTwo 3 (some .boolean) 2 (some (.int r)) F 0 [some (.ref p0), some (.int p1), some (.int p2)] [] μ from ?_)
  rw [f_X12_areTwo] at h
  refine dr_aload_n p0 dX12_areTwo_0 rfl ?_
  refine dr_iload_n p1 dX12_areTwo_1 rfl ?_
  obtain ⟨_, hb1, h⟩ := dtBind h
  obtain ⟨x4, μ2, e3, h⟩ := dtCall h
  refine dr_callV_i (S0 := []) [.int p1] x4 μ2 dX12_areTwo_2 (c_X12_isPerson p0 p1 μ e3) mf_X12_isPerson wt_1732 ws_95 wt_1730 rfl (dtRv hb1) (by decide) rfl (Nat.le_of_ble_eq_true rfl) (Nat.le_of_ble_eq_true rfl) rfl ?_
  obtain ⟨ht6, hf7⟩ := dtIte h
  refine dr_if_eq 25 dX12_areTwo_5 (by decide) (fun hc5 => ?_) (fun hc5 => ?_)
  · have h := ht6 hc5
    refine dr_mask [] [] rfl ?_
    exact c_X12_areTwo_25 μ2 h
  · have h := hf7 hc5
    refine dr_aload_n p0 dX12_areTwo_8 rfl ?_
    refine dr_iload_n p2 dX12_areTwo_9 rfl ?_
    obtain ⟨_, hb8, h⟩ := dtBind h
    obtain ⟨x11, μ9, e10, h⟩ := dtCall h
    refine dr_callV_i (S0 := []) [.int p2] x11 μ9 dX12_areTwo_10 (c_X12_isPerson p0 p2 μ2 e10) mf_X12_isPerson wt_1732 ws_95 wt_1730 rfl (dtRv hb8) (by decide) rfl (Nat.le_of_ble_eq_true rfl) (Nat.le_of_ble_eq_true rfl) rfl ?_
    obtain ⟨ht13, hf14⟩ := dtIte h
    refine dr_if_eq 25 dX12_areTwo_13 (by decide) (fun hc12 => ?_) (fun hc12 => ?_)
    · have h := ht13 hc12
      refine dr_mask [] [] rfl ?_
      exact c_X12_areTwo_25 μ9 h
    · have h := hf14 hc12
      refine dr_iload_n p1 dX12_areTwo_16 rfl ?_
      refine dr_iload_n p2 dX12_areTwo_17 rfl ?_
      obtain ⟨ht16, hf17⟩ := dtIte h
      refine dr_icmp_eq 25 dX12_areTwo_18 (by decide) (fun hc15 => ?_) (fun hc15 => ?_)
      · have h := ht16 hc15
        refine dr_mask [] [] rfl ?_
        exact c_X12_areTwo_25 μ9 h
      · have h := hf17 hc15
        refine dr_iconst (1 : Int32) dX12_areTwo_21 (by decide) ?_
        refine dr_goto 26 dX12_areTwo_22 (by decide) ?_
        refine dr_mask [] [] rfl ?_
        exact c_X12_areTwo_26 (1 : Int32) μ9 h
/-! X12_apart -/
theorem dX12_apart_0 : decode cX12_apart 0 = .ok (.aload_n 0, 1) := by decide +kernel
theorem dX12_apart_1 : decode cX12_apart 1 = .ok (.iload_n 1, 1) := by decide +kernel
theorem dX12_apart_2 : decode cX12_apart 2 = .ok (.iload_n 2, 1) := by decide +kernel
theorem dX12_apart_3 : decode cX12_apart 3 = .ok (.invokevirtual 407, 3) := by decide +kernel
theorem dX12_apart_6 : decode cX12_apart 6 = .ok (.ifCond .ne 9, 3) := by decide +kernel
theorem dX12_apart_9 : decode cX12_apart 9 = .ok (.aload_n 0, 1) := by decide +kernel
theorem dX12_apart_10 : decode cX12_apart 10 = .ok (.iconst 1, 1) := by decide +kernel
theorem dX12_apart_11 : decode cX12_apart 11 = .ok (.invokevirtual 93, 3) := by decide +kernel
theorem dX12_apart_14 : decode cX12_apart 14 = .ok (.ireturn, 1) := by decide +kernel
theorem dX12_apart_15 : decode cX12_apart 15 = .ok (.aload_n 0, 1) := by decide +kernel
theorem dX12_apart_16 : decode cX12_apart 16 = .ok (.iload_n 1, 1) := by decide +kernel
theorem dX12_apart_17 : decode cX12_apart 17 = .ok (.iload_n 2, 1) := by decide +kernel
theorem dX12_apart_18 : decode cX12_apart 18 = .ok (.iconst 1, 1) := by decide +kernel
theorem dX12_apart_19 : decode cX12_apart 19 = .ok (.invokevirtual 410, 3) := by decide +kernel
theorem dX12_apart_22 : decode cX12_apart 22 = .ok (.istore_n 3, 1) := by decide +kernel
theorem dX12_apart_23 : decode cX12_apart 23 = .ok (.iload_n 3, 1) := by decide +kernel
theorem dX12_apart_24 : decode cX12_apart 24 = .ok (.iconst (-1), 1) := by decide +kernel
theorem dX12_apart_25 : decode cX12_apart 25 = .ok (.if_icmp .ne 12, 3) := by decide +kernel
theorem dX12_apart_28 : decode cX12_apart 28 = .ok (.aload_n 0, 1) := by decide +kernel
theorem dX12_apart_29 : decode cX12_apart 29 = .ok (.bipush 6, 2) := by decide +kernel
theorem dX12_apart_31 : decode cX12_apart 31 = .ok (.invokevirtual 93, 3) := by decide +kernel
theorem dX12_apart_34 : decode cX12_apart 34 = .ok (.goto 11, 3) := by decide +kernel
theorem dX12_apart_37 : decode cX12_apart 37 = .ok (.aload_n 0, 1) := by decide +kernel
theorem dX12_apart_38 : decode cX12_apart 38 = .ok (.iload_n 3, 1) := by decide +kernel
theorem dX12_apart_39 : decode cX12_apart 39 = .ok (.invokestatic 355, 3) := by decide +kernel
theorem dX12_apart_42 : decode cX12_apart 42 = .ok (.invokevirtual 97, 3) := by decide +kernel
theorem dX12_apart_45 : decode cX12_apart 45 = .ok (.ireturn, 1) := by decide +kernel
set_option maxRecDepth 100000 in
def f_X12_apart_45 (s0 : Int32) (μ : dtM) : Option (Int32 × dtM) :=
  some (s0, μ)
set_option maxRecDepth 100000 in
def f_X12_apart (p0 : Nat) (p1 : Int32) (p2 : Int32) (μ : dtM) : Option (Int32 × dtM) :=
  (opRv 12 μ p0).bind fun _ => opCall (f_X12_areTwo p0 p1 p2 μ) fun x4 μ2 => if x4 = 0 then ((opRv 12 μ2 p0).bind fun _ => opCall (f_X12_refuse p0 (1 : Int32) μ2) fun x29 μ27 => some (x29, μ27)) else ((opRv 12 μ2 p0).bind fun _ => opCall (f_X12_doorsBetween p0 p1 p2 (1 : Int32) μ2) fun x11 μ9 => if x11 = (-1 : Int32) then ((opRv 12 μ9 p0).bind fun _ => opCall (f_X12_refuse p0 (6 : Int32) μ9) fun x25 μ23 => f_X12_apart_45 x25 μ23) else (opCall (f_X12_bits x11 μ9) fun x17 μ15 => (opRv 12 μ15 p0).bind fun _ => opCall (f_X12_gives p0 x17 μ15) fun x21 μ19 => f_X12_apart_45 x21 μ19))
set_option maxRecDepth 100000 in
theorem c_X12_apart_45 {r : Int32} {F : dtM} (s0 : Int32) (μ : dtM) (h : f_X12_apart_45 s0 μ = some (r, F)) : dtW yX12_apart cX12_apart 4 (some .int) 5 (some (.int r)) F 45 [] [.int s0] μ := by
  rw [f_X12_apart_45] at h
  cases h
  exact dr_ireturn dX12_apart_45 rfl
set_option maxRecDepth 100000 in
theorem c_X12_apart {r : Int32} {F : dtM} (p0 : Nat) (p1 : Int32) (p2 : Int32) (μ : dtM) (h : f_X12_apart p0 p1 p2 μ = some (r, F)) : dtMet yX12_apart cX12_apart 4 (some .int) 5 [.ref p0, .int p1, .int p2] μ (some (.int r)) F := by
  refine dtMet.of (by decide +kernel) (Nat.le_of_ble_eq_true rfl) (show dtW yX12_apart cX12_apart 4 (some .int) 5 (some (.int r)) F 0 [some (.ref p0), some (.int p1), some (.int p2)] [] μ from ?_)
  rw [f_X12_apart] at h
  refine dr_aload_n p0 dX12_apart_0 rfl ?_
  refine dr_iload_n p1 dX12_apart_1 rfl ?_
  refine dr_iload_n p2 dX12_apart_2 rfl ?_
  obtain ⟨_, hb1, h⟩ := dtBind h
  obtain ⟨x4, μ2, e3, h⟩ := dtCall h
  refine dr_callV_i (S0 := []) [.int p1, .int p2] x4 μ2 dX12_apart_3 (c_X12_areTwo p0 p1 p2 μ e3) mf_X12_areTwo wt_1961 ws_120 wt_1959 rfl (dtRv hb1) (by decide) rfl (Nat.le_of_ble_eq_true rfl) (Nat.le_of_ble_eq_true rfl) rfl ?_
  obtain ⟨ht6, hf7⟩ := dtIte h
  refine dr_if_ne 15 dX12_apart_6 (by decide) (fun hc5 => ?_) (fun hc5 => ?_)
  · have h := hf7 hc5
    refine dr_aload_n p0 dX12_apart_15 rfl ?_
    refine dr_iload_n p1 dX12_apart_16 rfl ?_
    refine dr_iload_n p2 dX12_apart_17 rfl ?_
    refine dr_iconst (1 : Int32) dX12_apart_18 (by decide) ?_
    obtain ⟨_, hb8, h⟩ := dtBind h
    obtain ⟨x11, μ9, e10, h⟩ := dtCall h
    refine dr_callV_i (S0 := []) [.int p1, .int p2, .int (1 : Int32)] x11 μ9 dX12_apart_19 (c_X12_doorsBetween p0 p1 p2 (1 : Int32) μ2 e10) mf_X12_doorsBetween wt_1965 ws_121 wt_1963 rfl (dtRv hb8) (by decide) rfl (Nat.le_of_ble_eq_true rfl) (Nat.le_of_ble_eq_true rfl) rfl ?_
    refine dr_istore_n 3 [some (.ref p0), some (.int p1), some (.int p2), some (.int x11)] dX12_apart_22 rfl rfl rfl rfl ?_
    refine dr_iload_n x11 dX12_apart_23 rfl ?_
    refine dr_iconst (-1 : Int32) dX12_apart_24 (by decide) ?_
    obtain ⟨ht13, hf14⟩ := dtIte h
    refine dr_icmp_ne 37 dX12_apart_25 (by decide) (fun hc12 => ?_) (fun hc12 => ?_)
    · have h := hf14 hc12
      refine dr_aload_n p0 dX12_apart_37 rfl ?_
      refine dr_iload_n x11 dX12_apart_38 rfl ?_
      obtain ⟨x17, μ15, e16, h⟩ := dtCall h
      refine dr_callS_i (S0 := [.ref p0]) [.int x11] x17 μ15 dX12_apart_39 (c_X12_bits x11 μ9 e16) mf_X12_bits wt_1826 wt_1825 rfl (Nat.le_of_ble_eq_true rfl) (Nat.le_of_ble_eq_true rfl) rfl ?_
      obtain ⟨_, hb18, h⟩ := dtBind h
      obtain ⟨x21, μ19, e20, h⟩ := dtCall h
      refine dr_callV_i (S0 := []) [.int x17] x21 μ19 dX12_apart_42 (c_X12_gives p0 x17 μ15 e20) mf_X12_gives wt_1668 ws_85 wt_1666 rfl (dtRv hb18) (by decide) rfl (Nat.le_of_ble_eq_true rfl) (Nat.le_of_ble_eq_true rfl) rfl ?_
      refine dr_mask [] [] rfl ?_
      exact c_X12_apart_45 x21 μ19 h
    · have h := ht13 hc12
      refine dr_aload_n p0 dX12_apart_28 rfl ?_
      refine dr_bipush (6 : Int32) dX12_apart_29 (by decide) ?_
      obtain ⟨_, hb22, h⟩ := dtBind h
      obtain ⟨x25, μ23, e24, h⟩ := dtCall h
      refine dr_callV_i (S0 := []) [.int (6 : Int32)] x25 μ23 dX12_apart_31 (c_X12_refuse p0 (6 : Int32) μ9 e24) mf_X12_refuse wt_1552 ws_59 wt_1550 rfl (dtRv hb22) (by decide) rfl (Nat.le_of_ble_eq_true rfl) (Nat.le_of_ble_eq_true rfl) rfl ?_
      refine dr_goto 45 dX12_apart_34 (by decide) ?_
      refine dr_mask [] [] rfl ?_
      exact c_X12_apart_45 x25 μ23 h
  · have h := ht6 hc5
    refine dr_aload_n p0 dX12_apart_9 rfl ?_
    refine dr_iconst (1 : Int32) dX12_apart_10 (by decide) ?_
    obtain ⟨_, hb26, h⟩ := dtBind h
    obtain ⟨x29, μ27, e28, h⟩ := dtCall h
    refine dr_callV_i (S0 := []) [.int (1 : Int32)] x29 μ27 dX12_apart_11 (c_X12_refuse p0 (1 : Int32) μ2 e28) mf_X12_refuse wt_1552 ws_59 wt_1550 rfl (dtRv hb26) (by decide) rfl (Nat.le_of_ble_eq_true rfl) (Nat.le_of_ble_eq_true rfl) rfl ?_
    cases h
    exact dr_ireturn dX12_apart_14 rfl
/-! X12_apartSet -/
theorem dX12_apartSet_0 : decode cX12_apartSet 0 = .ok (.aload_n 0, 1) := by decide +kernel
theorem dX12_apartSet_1 : decode cX12_apartSet 1 = .ok (.iload_n 1, 1) := by decide +kernel
theorem dX12_apartSet_2 : decode cX12_apartSet 2 = .ok (.iload_n 2, 1) := by decide +kernel
theorem dX12_apartSet_3 : decode cX12_apartSet 3 = .ok (.invokevirtual 407, 3) := by decide +kernel
theorem dX12_apartSet_6 : decode cX12_apartSet 6 = .ok (.ifCond .eq 17, 3) := by decide +kernel
theorem dX12_apartSet_9 : decode cX12_apartSet 9 = .ok (.aload_n 0, 1) := by decide +kernel
theorem dX12_apartSet_10 : decode cX12_apartSet 10 = .ok (.aload_n 0, 1) := by decide +kernel
theorem dX12_apartSet_11 : decode cX12_apartSet 11 = .ok (.iload_n 1, 1) := by decide +kernel
theorem dX12_apartSet_12 : decode cX12_apartSet 12 = .ok (.iload_n 2, 1) := by decide +kernel
theorem dX12_apartSet_13 : decode cX12_apartSet 13 = .ok (.iconst 1, 1) := by decide +kernel
theorem dX12_apartSet_14 : decode cX12_apartSet 14 = .ok (.invokevirtual 410, 3) := by decide +kernel
theorem dX12_apartSet_17 : decode cX12_apartSet 17 = .ok (.invokevirtual 414, 3) := by decide +kernel
theorem dX12_apartSet_20 : decode cX12_apartSet 20 = .ok (.goto 8, 3) := by decide +kernel
theorem dX12_apartSet_23 : decode cX12_apartSet 23 = .ok (.aload_n 0, 1) := by decide +kernel
theorem dX12_apartSet_24 : decode cX12_apartSet 24 = .ok (.iconst 1, 1) := by decide +kernel
theorem dX12_apartSet_25 : decode cX12_apartSet 25 = .ok (.invokevirtual 93, 3) := by decide +kernel
theorem dX12_apartSet_28 : decode cX12_apartSet 28 = .ok (.ireturn, 1) := by decide +kernel
set_option maxRecDepth 100000 in
def f_X12_apartSet_28 (s0 : Int32) (μ : dtM) : Option (Int32 × dtM) :=
  some (s0, μ)
set_option maxRecDepth 100000 in
def f_X12_apartSet (p0 : Nat) (p1 : Int32) (p2 : Int32) (μ : dtM) : Option (Int32 × dtM) :=
  (opRv 12 μ p0).bind fun _ => opCall (f_X12_areTwo p0 p1 p2 μ) fun x4 μ2 => if x4 = 0 then ((opRv 12 μ2 p0).bind fun _ => opCall (f_X12_refuse p0 (1 : Int32) μ2) fun x11 μ9 => f_X12_apartSet_28 x11 μ9) else ((opRv 12 μ2 p0).bind fun _ => opCall (f_X12_doorsBetween p0 p1 p2 (1 : Int32) μ2) fun x15 μ13 => (opRv 12 μ13 p0).bind fun _ => opCall (f_X12_orNone p0 x15 μ13) fun x19 μ17 => f_X12_apartSet_28 x19 μ17)
set_option maxRecDepth 100000 in
theorem c_X12_apartSet_28 {r : Int32} {F : dtM} (s0 : Int32) (μ : dtM) (h : f_X12_apartSet_28 s0 μ = some (r, F)) : dtW yX12_apartSet cX12_apartSet 3 (some .int) 5 (some (.int r)) F 28 [] [.int s0] μ := by
  rw [f_X12_apartSet_28] at h
  cases h
  exact dr_ireturn dX12_apartSet_28 rfl
set_option maxRecDepth 100000 in
theorem c_X12_apartSet {r : Int32} {F : dtM} (p0 : Nat) (p1 : Int32) (p2 : Int32) (μ : dtM) (h : f_X12_apartSet p0 p1 p2 μ = some (r, F)) : dtMet yX12_apartSet cX12_apartSet 3 (some .int) 5 [.ref p0, .int p1, .int p2] μ (some (.int r)) F := by
  refine dtMet.of (by decide +kernel) (Nat.le_of_ble_eq_true rfl) (show dtW yX12_apartSet cX12_apartSet 3 (some .int) 5 (some (.int r)) F 0 [some (.ref p0), some (.int p1), some (.int p2)] [] μ from ?_)
  rw [f_X12_apartSet] at h
  refine dr_aload_n p0 dX12_apartSet_0 rfl ?_
  refine dr_iload_n p1 dX12_apartSet_1 rfl ?_
  refine dr_iload_n p2 dX12_apartSet_2 rfl ?_
  obtain ⟨_, hb1, h⟩ := dtBind h
  obtain ⟨x4, μ2, e3, h⟩ := dtCall h
  refine dr_callV_i (S0 := []) [.int p1, .int p2] x4 μ2 dX12_apartSet_3 (c_X12_areTwo p0 p1 p2 μ e3) mf_X12_areTwo wt_1961 ws_120 wt_1959 rfl (dtRv hb1) (by decide) rfl (Nat.le_of_ble_eq_true rfl) (Nat.le_of_ble_eq_true rfl) rfl ?_
  obtain ⟨ht6, hf7⟩ := dtIte h
  refine dr_if_eq 23 dX12_apartSet_6 (by decide) (fun hc5 => ?_) (fun hc5 => ?_)
  · have h := ht6 hc5
    refine dr_aload_n p0 dX12_apartSet_23 rfl ?_
    refine dr_iconst (1 : Int32) dX12_apartSet_24 (by decide) ?_
    obtain ⟨_, hb8, h⟩ := dtBind h
    obtain ⟨x11, μ9, e10, h⟩ := dtCall h
    refine dr_callV_i (S0 := []) [.int (1 : Int32)] x11 μ9 dX12_apartSet_25 (c_X12_refuse p0 (1 : Int32) μ2 e10) mf_X12_refuse wt_1552 ws_59 wt_1550 rfl (dtRv hb8) (by decide) rfl (Nat.le_of_ble_eq_true rfl) (Nat.le_of_ble_eq_true rfl) rfl ?_
    refine dr_mask [] [] rfl ?_
    exact c_X12_apartSet_28 x11 μ9 h
  · have h := hf7 hc5
    refine dr_aload_n p0 dX12_apartSet_9 rfl ?_
    refine dr_aload_n p0 dX12_apartSet_10 rfl ?_
    refine dr_iload_n p1 dX12_apartSet_11 rfl ?_
    refine dr_iload_n p2 dX12_apartSet_12 rfl ?_
    refine dr_iconst (1 : Int32) dX12_apartSet_13 (by decide) ?_
    obtain ⟨_, hb12, h⟩ := dtBind h
    obtain ⟨x15, μ13, e14, h⟩ := dtCall h
    refine dr_callV_i (S0 := [.ref p0]) [.int p1, .int p2, .int (1 : Int32)] x15 μ13 dX12_apartSet_14 (c_X12_doorsBetween p0 p1 p2 (1 : Int32) μ2 e14) mf_X12_doorsBetween wt_1965 ws_121 wt_1963 rfl (dtRv hb12) (by decide) rfl (Nat.le_of_ble_eq_true rfl) (Nat.le_of_ble_eq_true rfl) rfl ?_
    obtain ⟨_, hb16, h⟩ := dtBind h
    obtain ⟨x19, μ17, e18, h⟩ := dtCall h
    refine dr_callV_i (S0 := []) [.int x15] x19 μ17 dX12_apartSet_17 (c_X12_orNone p0 x15 μ13 e18) mf_X12_orNone wt_1973 ws_122 wt_1971 rfl (dtRv hb16) (by decide) rfl (Nat.le_of_ble_eq_true rfl) (Nat.le_of_ble_eq_true rfl) rfl ?_
    refine dr_goto 28 dX12_apartSet_20 (by decide) ?_
    refine dr_mask [] [] rfl ?_
    exact c_X12_apartSet_28 x19 μ17 h
/-! X12_together -/
theorem dX12_together_0 : decode cX12_together 0 = .ok (.aload_n 0, 1) := by decide +kernel
theorem dX12_together_1 : decode cX12_together 1 = .ok (.iload_n 1, 1) := by decide +kernel
theorem dX12_together_2 : decode cX12_together 2 = .ok (.iload_n 2, 1) := by decide +kernel
theorem dX12_together_3 : decode cX12_together 3 = .ok (.invokevirtual 407, 3) := by decide +kernel
theorem dX12_together_6 : decode cX12_together 6 = .ok (.ifCond .ne 9, 3) := by decide +kernel
theorem dX12_together_9 : decode cX12_together 9 = .ok (.aload_n 0, 1) := by decide +kernel
theorem dX12_together_10 : decode cX12_together 10 = .ok (.iconst 1, 1) := by decide +kernel
theorem dX12_together_11 : decode cX12_together 11 = .ok (.invokevirtual 93, 3) := by decide +kernel
theorem dX12_together_14 : decode cX12_together 14 = .ok (.ireturn, 1) := by decide +kernel
theorem dX12_together_15 : decode cX12_together 15 = .ok (.aload_n 0, 1) := by decide +kernel
theorem dX12_together_16 : decode cX12_together 16 = .ok (.iload_n 1, 1) := by decide +kernel
theorem dX12_together_17 : decode cX12_together 17 = .ok (.iload_n 2, 1) := by decide +kernel
theorem dX12_together_18 : decode cX12_together 18 = .ok (.iconst 0, 1) := by decide +kernel
theorem dX12_together_19 : decode cX12_together 19 = .ok (.invokevirtual 410, 3) := by decide +kernel
theorem dX12_together_22 : decode cX12_together 22 = .ok (.istore_n 3, 1) := by decide +kernel
theorem dX12_together_23 : decode cX12_together 23 = .ok (.iload_n 3, 1) := by decide +kernel
theorem dX12_together_24 : decode cX12_together 24 = .ok (.iconst (-1), 1) := by decide +kernel
theorem dX12_together_25 : decode cX12_together 25 = .ok (.if_icmp .ne 12, 3) := by decide +kernel
theorem dX12_together_28 : decode cX12_together 28 = .ok (.aload_n 0, 1) := by decide +kernel
theorem dX12_together_29 : decode cX12_together 29 = .ok (.bipush 6, 2) := by decide +kernel
theorem dX12_together_31 : decode cX12_together 31 = .ok (.invokevirtual 93, 3) := by decide +kernel
theorem dX12_together_34 : decode cX12_together 34 = .ok (.goto 11, 3) := by decide +kernel
theorem dX12_together_37 : decode cX12_together 37 = .ok (.aload_n 0, 1) := by decide +kernel
theorem dX12_together_38 : decode cX12_together 38 = .ok (.iload_n 3, 1) := by decide +kernel
theorem dX12_together_39 : decode cX12_together 39 = .ok (.invokestatic 355, 3) := by decide +kernel
theorem dX12_together_42 : decode cX12_together 42 = .ok (.invokevirtual 97, 3) := by decide +kernel
theorem dX12_together_45 : decode cX12_together 45 = .ok (.ireturn, 1) := by decide +kernel
set_option maxRecDepth 100000 in
def f_X12_together_45 (s0 : Int32) (μ : dtM) : Option (Int32 × dtM) :=
  some (s0, μ)
set_option maxRecDepth 100000 in
def f_X12_together (p0 : Nat) (p1 : Int32) (p2 : Int32) (μ : dtM) : Option (Int32 × dtM) :=
  (opRv 12 μ p0).bind fun _ => opCall (f_X12_areTwo p0 p1 p2 μ) fun x4 μ2 => if x4 = 0 then ((opRv 12 μ2 p0).bind fun _ => opCall (f_X12_refuse p0 (1 : Int32) μ2) fun x29 μ27 => some (x29, μ27)) else ((opRv 12 μ2 p0).bind fun _ => opCall (f_X12_doorsBetween p0 p1 p2 (0 : Int32) μ2) fun x11 μ9 => if x11 = (-1 : Int32) then ((opRv 12 μ9 p0).bind fun _ => opCall (f_X12_refuse p0 (6 : Int32) μ9) fun x25 μ23 => f_X12_together_45 x25 μ23) else (opCall (f_X12_bits x11 μ9) fun x17 μ15 => (opRv 12 μ15 p0).bind fun _ => opCall (f_X12_gives p0 x17 μ15) fun x21 μ19 => f_X12_together_45 x21 μ19))
set_option maxRecDepth 100000 in
theorem c_X12_together_45 {r : Int32} {F : dtM} (s0 : Int32) (μ : dtM) (h : f_X12_together_45 s0 μ = some (r, F)) : dtW yX12_together cX12_together 4 (some .int) 5 (some (.int r)) F 45 [] [.int s0] μ := by
  rw [f_X12_together_45] at h
  cases h
  exact dr_ireturn dX12_together_45 rfl
set_option maxRecDepth 100000 in
theorem c_X12_together {r : Int32} {F : dtM} (p0 : Nat) (p1 : Int32) (p2 : Int32) (μ : dtM) (h : f_X12_together p0 p1 p2 μ = some (r, F)) : dtMet yX12_together cX12_together 4 (some .int) 5 [.ref p0, .int p1, .int p2] μ (some (.int r)) F := by
  refine dtMet.of (by decide +kernel) (Nat.le_of_ble_eq_true rfl) (show dtW yX12_together cX12_together 4 (some .int) 5 (some (.int r)) F 0 [some (.ref p0), some (.int p1), some (.int p2)] [] μ from ?_)
  rw [f_X12_together] at h
  refine dr_aload_n p0 dX12_together_0 rfl ?_
  refine dr_iload_n p1 dX12_together_1 rfl ?_
  refine dr_iload_n p2 dX12_together_2 rfl ?_
  obtain ⟨_, hb1, h⟩ := dtBind h
  obtain ⟨x4, μ2, e3, h⟩ := dtCall h
  refine dr_callV_i (S0 := []) [.int p1, .int p2] x4 μ2 dX12_together_3 (c_X12_areTwo p0 p1 p2 μ e3) mf_X12_areTwo wt_1961 ws_120 wt_1959 rfl (dtRv hb1) (by decide) rfl (Nat.le_of_ble_eq_true rfl) (Nat.le_of_ble_eq_true rfl) rfl ?_
  obtain ⟨ht6, hf7⟩ := dtIte h
  refine dr_if_ne 15 dX12_together_6 (by decide) (fun hc5 => ?_) (fun hc5 => ?_)
  · have h := hf7 hc5
    refine dr_aload_n p0 dX12_together_15 rfl ?_
    refine dr_iload_n p1 dX12_together_16 rfl ?_
    refine dr_iload_n p2 dX12_together_17 rfl ?_
    refine dr_iconst (0 : Int32) dX12_together_18 (by decide) ?_
    obtain ⟨_, hb8, h⟩ := dtBind h
    obtain ⟨x11, μ9, e10, h⟩ := dtCall h
    refine dr_callV_i (S0 := []) [.int p1, .int p2, .int (0 : Int32)] x11 μ9 dX12_together_19 (c_X12_doorsBetween p0 p1 p2 (0 : Int32) μ2 e10) mf_X12_doorsBetween wt_1965 ws_121 wt_1963 rfl (dtRv hb8) (by decide) rfl (Nat.le_of_ble_eq_true rfl) (Nat.le_of_ble_eq_true rfl) rfl ?_
    refine dr_istore_n 3 [some (.ref p0), some (.int p1), some (.int p2), some (.int x11)] dX12_together_22 rfl rfl rfl rfl ?_
    refine dr_iload_n x11 dX12_together_23 rfl ?_
    refine dr_iconst (-1 : Int32) dX12_together_24 (by decide) ?_
    obtain ⟨ht13, hf14⟩ := dtIte h
    refine dr_icmp_ne 37 dX12_together_25 (by decide) (fun hc12 => ?_) (fun hc12 => ?_)
    · have h := hf14 hc12
      refine dr_aload_n p0 dX12_together_37 rfl ?_
      refine dr_iload_n x11 dX12_together_38 rfl ?_
      obtain ⟨x17, μ15, e16, h⟩ := dtCall h
      refine dr_callS_i (S0 := [.ref p0]) [.int x11] x17 μ15 dX12_together_39 (c_X12_bits x11 μ9 e16) mf_X12_bits wt_1826 wt_1825 rfl (Nat.le_of_ble_eq_true rfl) (Nat.le_of_ble_eq_true rfl) rfl ?_
      obtain ⟨_, hb18, h⟩ := dtBind h
      obtain ⟨x21, μ19, e20, h⟩ := dtCall h
      refine dr_callV_i (S0 := []) [.int x17] x21 μ19 dX12_together_42 (c_X12_gives p0 x17 μ15 e20) mf_X12_gives wt_1668 ws_85 wt_1666 rfl (dtRv hb18) (by decide) rfl (Nat.le_of_ble_eq_true rfl) (Nat.le_of_ble_eq_true rfl) rfl ?_
      refine dr_mask [] [] rfl ?_
      exact c_X12_together_45 x21 μ19 h
    · have h := ht13 hc12
      refine dr_aload_n p0 dX12_together_28 rfl ?_
      refine dr_bipush (6 : Int32) dX12_together_29 (by decide) ?_
      obtain ⟨_, hb22, h⟩ := dtBind h
      obtain ⟨x25, μ23, e24, h⟩ := dtCall h
      refine dr_callV_i (S0 := []) [.int (6 : Int32)] x25 μ23 dX12_together_31 (c_X12_refuse p0 (6 : Int32) μ9 e24) mf_X12_refuse wt_1552 ws_59 wt_1550 rfl (dtRv hb22) (by decide) rfl (Nat.le_of_ble_eq_true rfl) (Nat.le_of_ble_eq_true rfl) rfl ?_
      refine dr_goto 45 dX12_together_34 (by decide) ?_
      refine dr_mask [] [] rfl ?_
      exact c_X12_together_45 x25 μ23 h
  · have h := ht6 hc5
    refine dr_aload_n p0 dX12_together_9 rfl ?_
    refine dr_iconst (1 : Int32) dX12_together_10 (by decide) ?_
    obtain ⟨_, hb26, h⟩ := dtBind h
    obtain ⟨x29, μ27, e28, h⟩ := dtCall h
    refine dr_callV_i (S0 := []) [.int (1 : Int32)] x29 μ27 dX12_together_11 (c_X12_refuse p0 (1 : Int32) μ2 e28) mf_X12_refuse wt_1552 ws_59 wt_1550 rfl (dtRv hb26) (by decide) rfl (Nat.le_of_ble_eq_true rfl) (Nat.le_of_ble_eq_true rfl) rfl ?_
    cases h
    exact dr_ireturn dX12_together_14 rfl
/-! X12_canHave -/
theorem dX12_canHave_0 : decode cX12_canHave 0 = .ok (.aload_n 0, 1) := by decide +kernel
theorem dX12_canHave_1 : decode cX12_canHave 1 = .ok (.getfield 7, 3) := by decide +kernel
theorem dX12_canHave_4 : decode cX12_canHave 4 = .ok (.iconst 5, 1) := by decide +kernel
theorem dX12_canHave_5 : decode cX12_canHave 5 = .ok (.iaload, 1) := by decide +kernel
theorem dX12_canHave_6 : decode cX12_canHave 6 = .ok (.istore 4, 2) := by decide +kernel
theorem dX12_canHave_8 : decode cX12_canHave 8 = .ok (.aload_n 0, 1) := by decide +kernel
theorem dX12_canHave_9 : decode cX12_canHave 9 = .ok (.iconst 1, 1) := by decide +kernel
theorem dX12_canHave_10 : decode cX12_canHave 10 = .ok (.aload_n 0, 1) := by decide +kernel
theorem dX12_canHave_11 : decode cX12_canHave 11 = .ok (.iload_n 1, 1) := by decide +kernel
theorem dX12_canHave_12 : decode cX12_canHave 12 = .ok (.iconst 0, 1) := by decide +kernel
theorem dX12_canHave_13 : decode cX12_canHave 13 = .ok (.invokevirtual 295, 3) := by decide +kernel
theorem dX12_canHave_16 : decode cX12_canHave 16 = .ok (.ishl, 1) := by decide +kernel
theorem dX12_canHave_17 : decode cX12_canHave 17 = .ok (.iload 4, 2) := by decide +kernel
theorem dX12_canHave_19 : decode cX12_canHave 19 = .ok (.invokevirtual 334, 3) := by decide +kernel
theorem dX12_canHave_22 : decode cX12_canHave 22 = .ok (.istore 5, 2) := by decide +kernel
theorem dX12_canHave_24 : decode cX12_canHave 24 = .ok (.iconst 0, 1) := by decide +kernel
theorem dX12_canHave_25 : decode cX12_canHave 25 = .ok (.istore 6, 2) := by decide +kernel
theorem dX12_canHave_27 : decode cX12_canHave 27 = .ok (.iload 6, 2) := by decide +kernel
theorem dX12_canHave_29 : decode cX12_canHave 29 = .ok (.iload_n 3, 1) := by decide +kernel
theorem dX12_canHave_30 : decode cX12_canHave 30 = .ok (.if_icmp .ge 75, 3) := by decide +kernel
theorem dX12_canHave_33 : decode cX12_canHave 33 = .ok (.aload_n 0, 1) := by decide +kernel
theorem dX12_canHave_34 : decode cX12_canHave 34 = .ok (.getfield 27, 3) := by decide +kernel
theorem dX12_canHave_37 : decode cX12_canHave 37 = .ok (.bipush 60, 2) := by decide +kernel
theorem dX12_canHave_39 : decode cX12_canHave 39 = .ok (.iload_n 2, 1) := by decide +kernel
theorem dX12_canHave_40 : decode cX12_canHave 40 = .ok (.imul, 1) := by decide +kernel
theorem dX12_canHave_41 : decode cX12_canHave 41 = .ok (.iload 6, 2) := by decide +kernel
theorem dX12_canHave_43 : decode cX12_canHave 43 = .ok (.iadd, 1) := by decide +kernel
theorem dX12_canHave_44 : decode cX12_canHave 44 = .ok (.laload, 1) := by decide +kernel
theorem dX12_canHave_45 : decode cX12_canHave 45 = .ok (.l2i, 1) := by decide +kernel
theorem dX12_canHave_46 : decode cX12_canHave 46 = .ok (.istore 7, 2) := by decide +kernel
theorem dX12_canHave_48 : decode cX12_canHave 48 = .ok (.aload_n 0, 1) := by decide +kernel
theorem dX12_canHave_49 : decode cX12_canHave 49 = .ok (.iload 5, 2) := by decide +kernel
theorem dX12_canHave_51 : decode cX12_canHave 51 = .ok (.iload 7, 2) := by decide +kernel
theorem dX12_canHave_53 : decode cX12_canHave 53 = .ok (.invokevirtual 337, 3) := by decide +kernel
theorem dX12_canHave_56 : decode cX12_canHave 56 = .ok (.ifCond .ne 5, 3) := by decide +kernel
theorem dX12_canHave_59 : decode cX12_canHave 59 = .ok (.iconst 0, 1) := by decide +kernel
theorem dX12_canHave_60 : decode cX12_canHave 60 = .ok (.ireturn, 1) := by decide +kernel
theorem dX12_canHave_61 : decode cX12_canHave 61 = .ok (.iload 4, 2) := by decide +kernel
theorem dX12_canHave_63 : decode cX12_canHave 63 = .ok (.iconst 1, 1) := by decide +kernel
theorem dX12_canHave_64 : decode cX12_canHave 64 = .ok (.iload 7, 2) := by decide +kernel
theorem dX12_canHave_66 : decode cX12_canHave 66 = .ok (.ishl, 1) := by decide +kernel
theorem dX12_canHave_67 : decode cX12_canHave 67 = .ok (.iconst (-1), 1) := by decide +kernel
theorem dX12_canHave_68 : decode cX12_canHave 68 = .ok (.ixor, 1) := by decide +kernel
theorem dX12_canHave_69 : decode cX12_canHave 69 = .ok (.iand, 1) := by decide +kernel
theorem dX12_canHave_70 : decode cX12_canHave 70 = .ok (.istore 4, 2) := by decide +kernel
theorem dX12_canHave_72 : decode cX12_canHave 72 = .ok (.aload_n 0, 1) := by decide +kernel
theorem dX12_canHave_73 : decode cX12_canHave 73 = .ok (.iconst 1, 1) := by decide +kernel
theorem dX12_canHave_74 : decode cX12_canHave 74 = .ok (.aload_n 0, 1) := by decide +kernel
theorem dX12_canHave_75 : decode cX12_canHave 75 = .ok (.iload 7, 2) := by decide +kernel
theorem dX12_canHave_77 : decode cX12_canHave 77 = .ok (.iconst 0, 1) := by decide +kernel
theorem dX12_canHave_78 : decode cX12_canHave 78 = .ok (.invokevirtual 298, 3) := by decide +kernel
theorem dX12_canHave_81 : decode cX12_canHave 81 = .ok (.ishl, 1) := by decide +kernel
theorem dX12_canHave_82 : decode cX12_canHave 82 = .ok (.iconst 1, 1) := by decide +kernel
theorem dX12_canHave_83 : decode cX12_canHave 83 = .ok (.aload_n 0, 1) := by decide +kernel
theorem dX12_canHave_84 : decode cX12_canHave 84 = .ok (.iload 7, 2) := by decide +kernel
theorem dX12_canHave_86 : decode cX12_canHave 86 = .ok (.iconst 1, 1) := by decide +kernel
theorem dX12_canHave_87 : decode cX12_canHave 87 = .ok (.invokevirtual 298, 3) := by decide +kernel
theorem dX12_canHave_90 : decode cX12_canHave 90 = .ok (.ishl, 1) := by decide +kernel
theorem dX12_canHave_91 : decode cX12_canHave 91 = .ok (.ior, 1) := by decide +kernel
theorem dX12_canHave_92 : decode cX12_canHave 92 = .ok (.iload 4, 2) := by decide +kernel
theorem dX12_canHave_94 : decode cX12_canHave 94 = .ok (.invokevirtual 334, 3) := by decide +kernel
theorem dX12_canHave_97 : decode cX12_canHave 97 = .ok (.istore 5, 2) := by decide +kernel
theorem dX12_canHave_99 : decode cX12_canHave 99 = .ok (.iinc 6 1, 3) := by decide +kernel
theorem dX12_canHave_102 : decode cX12_canHave 102 = .ok (.goto (-75), 3) := by decide +kernel
theorem dX12_canHave_105 : decode cX12_canHave 105 = .ok (.iconst 1, 1) := by decide +kernel
theorem dX12_canHave_106 : decode cX12_canHave 106 = .ok (.ireturn, 1) := by decide +kernel
set_option maxRecDepth 100000 in
def f_X12_canHave_27 : Nat → Nat → Int32 → Int32 → Int32 → Int32 → Int32 → dtM → Option (Int32 × dtM)
  | 0, _, _, _, _, _, _, _ => none
  | n + 1, l0, l2, l3, l4, l5, l6, μ =>
    if l3 ≤ l6 then (opRet (1 : Int32) μ) else ((opGR 12 7 μ l0).bind fun x4 => (opLJ 3 μ x4 (((60 : Int32) * l2) + l6)).bind fun x6 => (some (x6.toInt32)).bind fun x8 => (opRv 12 μ l0).bind fun _ => opCall (f_X12_isAt l0 l5 x8 μ) fun x13 μ11 => if x13 = 0 then (opRet (0 : Int32) μ11) else ((some (l4 &&& (((1 : Int32) <<< (x8 &&& 31)) ^^^ (-1 : Int32)))).bind fun x17 => (opRv 12 μ11 l0).bind fun _ => opCall (f_X12_doorOf l0 x8 (0 : Int32) μ11) fun x22 μ20 => (opRv 12 μ20 l0).bind fun _ => opCall (f_X12_doorOf l0 x8 (1 : Int32) μ20) fun x26 μ24 => (opRv 12 μ24 l0).bind fun _ => opCall (f_X12_reaches l0 (((1 : Int32) <<< (x22 &&& 31)) ||| ((1 : Int32) <<< (x26 &&& 31))) x17 μ24) fun x30 μ28 => f_X12_canHave_27 n l0 l2 l3 x17 x30 (l6 + 1) μ28))
set_option maxRecDepth 100000 in
def f_X12_canHave (p0 : Nat) (p1 : Int32) (p2 : Int32) (p3 : Int32) (μ : dtM) : Option (Int32 × dtM) :=
  (opGR 12 0 μ p0).bind fun x1 => (opLI 1 μ x1 (5 : Int32)).bind fun x3 => (opRv 12 μ p0).bind fun _ => opCall (f_X12_personOf p0 p1 (0 : Int32) μ) fun x8 μ6 => (opRv 12 μ6 p0).bind fun _ => opCall (f_X12_reaches p0 ((1 : Int32) <<< (x8 &&& 31)) x3 μ6) fun x12 μ10 => f_X12_canHave_27 dtFuel p0 p2 p3 x3 x12 (0 : Int32) μ10
set_option maxRecDepth 100000 in
theorem c_X12_canHave_27 {r : Int32} {F : dtM} : ∀ (n : Nat) (l0 : Nat) (l2 : Int32) (l3 : Int32) (l4 : Int32) (l5 : Int32) (l6 : Int32) (μ : dtM), f_X12_canHave_27 n l0 l2 l3 l4 l5 l6 μ = some (r, F) → dtW yX12_canHave cX12_canHave 8 (some .boolean) 4 (some (.int r)) F 27 [some (.ref l0), none, some (.int l2), some (.int l3), some (.int l4), some (.int l5), some (.int l6)] [] μ := by
  intro n
  induction n with
  | zero => intro l0 l2 l3 l4 l5 l6 μ h; cases h
  | succ n ih =>
    intro l0 l2 l3 l4 l5 l6 μ h
    have h := (show f_X12_canHave_27 (n + 1) l0 l2 l3 l4 l5 l6 μ = some _ from h)
    rw [f_X12_canHave_27] at h
    refine dr_iload l6 dX12_canHave_27 rfl ?_
    refine dr_iload_n l3 dX12_canHave_29 rfl ?_
    obtain ⟨ht2, hf3⟩ := dtIte h
    refine dr_icmp_ge 105 dX12_canHave_30 (by decide) (fun hc1 => ?_) (fun hc1 => ?_)
    · have h := ht2 hc1
      refine dr_iconst (1 : Int32) dX12_canHave_105 (by decide) ?_
      obtain ⟨hz, rfl, rfl⟩ := dtRet h
      exact dr_ireturn dX12_canHave_106 (dtNz hz)
    · have h := hf3 hc1
      refine dr_aload_n l0 dX12_canHave_33 rfl ?_
      obtain ⟨x4, e5, h⟩ := dtBind h
      refine dr_getR x4 dX12_canHave_34 fl_RX12_27 e5 ?_
      refine dr_bipush (60 : Int32) dX12_canHave_37 (by decide) ?_
      refine dr_iload_n l2 dX12_canHave_39 rfl ?_
      refine dr_imul dX12_canHave_40 ?_
      refine dr_iload l6 dX12_canHave_41 rfl ?_
      refine dr_iadd dX12_canHave_43 ?_
      obtain ⟨x6, e7, h⟩ := dtBind h
      refine dr_laload x6 dX12_canHave_44 e7 ?_
      refine dr_l2i dX12_canHave_45 ?_
      obtain ⟨x8, e9, h⟩ := dtBind h
      refine dr_nmi e9 ?_
      refine dr_istore [some (.ref l0), none, some (.int l2), some (.int l3), some (.int l4), some (.int l5), some (.int l6), some (.int x8)] dX12_canHave_46 rfl rfl rfl ?_
      refine dr_aload_n l0 dX12_canHave_48 rfl ?_
      refine dr_iload l5 dX12_canHave_49 rfl ?_
      refine dr_iload x8 dX12_canHave_51 rfl ?_
      obtain ⟨_, hb10, h⟩ := dtBind h
      obtain ⟨x13, μ11, e12, h⟩ := dtCall h
      refine dr_callV_i (S0 := []) [.int l5, .int x8] x13 μ11 dX12_canHave_53 (c_X12_isAt l0 l5 x8 μ e12) mf_X12_isAt wt_1795 ws_103 wt_1793 rfl (dtRv hb10) (by decide) rfl (Nat.le_of_ble_eq_true rfl) (Nat.le_of_ble_eq_true rfl) rfl ?_
      obtain ⟨ht15, hf16⟩ := dtIte h
      refine dr_if_ne 61 dX12_canHave_56 (by decide) (fun hc14 => ?_) (fun hc14 => ?_)
      · have h := hf16 hc14
        refine dr_iload l4 dX12_canHave_61 rfl ?_
        refine dr_iconst (1 : Int32) dX12_canHave_63 (by decide) ?_
        refine dr_iload x8 dX12_canHave_64 rfl ?_
        refine dr_ishl dX12_canHave_66 ?_
        refine dr_iconst (-1 : Int32) dX12_canHave_67 (by decide) ?_
        refine dr_ixor dX12_canHave_68 ?_
        refine dr_iand dX12_canHave_69 ?_
        obtain ⟨x17, e18, h⟩ := dtBind h
        refine dr_nmi e18 ?_
        refine dr_istore [some (.ref l0), none, some (.int l2), some (.int l3), some (.int x17), some (.int l5), some (.int l6), some (.int x8)] dX12_canHave_70 rfl rfl rfl ?_
        refine dr_aload_n l0 dX12_canHave_72 rfl ?_
        refine dr_iconst (1 : Int32) dX12_canHave_73 (by decide) ?_
        refine dr_aload_n l0 dX12_canHave_74 rfl ?_
        refine dr_iload x8 dX12_canHave_75 rfl ?_
        refine dr_iconst (0 : Int32) dX12_canHave_77 (by decide) ?_
        obtain ⟨_, hb19, h⟩ := dtBind h
        obtain ⟨x22, μ20, e21, h⟩ := dtCall h
        refine dr_callV_i (S0 := [.int (1 : Int32), .ref l0]) [.int x8, .int (0 : Int32)] x22 μ20 dX12_canHave_78 (c_X12_doorOf l0 x8 (0 : Int32) μ11 e21) mf_X12_doorOf wt_1712 ws_93 wt_1710 rfl (dtRv hb19) (by decide) rfl (Nat.le_of_ble_eq_true rfl) (Nat.le_of_ble_eq_true rfl) rfl ?_
        refine dr_ishl dX12_canHave_81 ?_
        refine dr_iconst (1 : Int32) dX12_canHave_82 (by decide) ?_
        refine dr_aload_n l0 dX12_canHave_83 rfl ?_
        refine dr_iload x8 dX12_canHave_84 rfl ?_
        refine dr_iconst (1 : Int32) dX12_canHave_86 (by decide) ?_
        obtain ⟨_, hb23, h⟩ := dtBind h
        obtain ⟨x26, μ24, e25, h⟩ := dtCall h
        refine dr_callV_i (S0 := [.int (1 : Int32), .int ((1 : Int32) <<< (x22 &&& 31)), .ref l0]) [.int x8, .int (1 : Int32)] x26 μ24 dX12_canHave_87 (c_X12_doorOf l0 x8 (1 : Int32) μ20 e25) mf_X12_doorOf wt_1712 ws_93 wt_1710 rfl (dtRv hb23) (by decide) rfl (Nat.le_of_ble_eq_true rfl) (Nat.le_of_ble_eq_true rfl) rfl ?_
        refine dr_ishl dX12_canHave_90 ?_
        refine dr_ior dX12_canHave_91 ?_
        refine dr_iload x17 dX12_canHave_92 rfl ?_
        obtain ⟨_, hb27, h⟩ := dtBind h
        obtain ⟨x30, μ28, e29, h⟩ := dtCall h
        refine dr_callV_i (S0 := []) [.int (((1 : Int32) <<< (x22 &&& 31)) ||| ((1 : Int32) <<< (x26 &&& 31))), .int x17] x30 μ28 dX12_canHave_94 (c_X12_reaches l0 (((1 : Int32) <<< (x22 &&& 31)) ||| ((1 : Int32) <<< (x26 &&& 31))) x17 μ24 e29) mf_X12_reaches wt_1791 ws_102 wt_1789 rfl (dtRv hb27) (by decide) rfl (Nat.le_of_ble_eq_true rfl) (Nat.le_of_ble_eq_true rfl) rfl ?_
        refine dr_istore [some (.ref l0), none, some (.int l2), some (.int l3), some (.int x17), some (.int x30), some (.int l6), some (.int x8)] dX12_canHave_97 rfl rfl rfl ?_
        refine dr_iinc l6 (l6 + 1) [some (.ref l0), none, some (.int l2), some (.int l3), some (.int x17), some (.int x30), some (.int (l6 + 1)), some (.int x8)] dX12_canHave_99 rfl rfl rfl rfl rfl ?_
        refine dr_goto 27 dX12_canHave_102 (by decide) ?_
        refine dr_mask [true, false, true, true, true, true, true] [some (.ref l0), none, some (.int l2), some (.int l3), some (.int x17), some (.int x30), some (.int (l6 + 1))] rfl ?_
        exact ih l0 l2 l3 x17 x30 (l6 + 1) μ28 h
      · have h := ht15 hc14
        refine dr_iconst (0 : Int32) dX12_canHave_59 (by decide) ?_
        obtain ⟨hz, rfl, rfl⟩ := dtRet h
        exact dr_ireturn dX12_canHave_60 (dtNz hz)
set_option maxRecDepth 100000 in
theorem c_X12_canHave {r : Int32} {F : dtM} (p0 : Nat) (p1 : Int32) (p2 : Int32) (p3 : Int32) (μ : dtM) (h : f_X12_canHave p0 p1 p2 p3 μ = some (r, F)) : dtMet yX12_canHave cX12_canHave 8 (some .boolean) 4 [.ref p0, .int p1, .int p2, .int p3] μ (some (.int r)) F := by
  refine dtMet.of (by decide +kernel) (Nat.le_of_ble_eq_true rfl) (show dtW yX12_canHave cX12_canHave 8 (some .boolean) 4 (some (.int r)) F 0 [some (.ref p0), some (.int p1), some (.int p2), some (.int p3)] [] μ from ?_)
  rw [f_X12_canHave] at h
  refine dr_aload_n p0 dX12_canHave_0 rfl ?_
  obtain ⟨x1, e2, h⟩ := dtBind h
  refine dr_getR x1 dX12_canHave_1 fl_RX12_7 e2 ?_
  refine dr_iconst (5 : Int32) dX12_canHave_4 (by decide) ?_
  obtain ⟨x3, e4, h⟩ := dtBind h
  refine dr_iaload x3 dX12_canHave_5 e4 ?_
  refine dr_istore [some (.ref p0), some (.int p1), some (.int p2), some (.int p3), some (.int x3)] dX12_canHave_6 rfl rfl rfl ?_
  refine dr_aload_n p0 dX12_canHave_8 rfl ?_
  refine dr_iconst (1 : Int32) dX12_canHave_9 (by decide) ?_
  refine dr_aload_n p0 dX12_canHave_10 rfl ?_
  refine dr_iload_n p1 dX12_canHave_11 rfl ?_
  refine dr_iconst (0 : Int32) dX12_canHave_12 (by decide) ?_
  obtain ⟨_, hb5, h⟩ := dtBind h
  obtain ⟨x8, μ6, e7, h⟩ := dtCall h
  refine dr_callV_i (S0 := [.int (1 : Int32), .ref p0]) [.int p1, .int (0 : Int32)] x8 μ6 dX12_canHave_13 (c_X12_personOf p0 p1 (0 : Int32) μ e7) mf_X12_personOf wt_1736 ws_96 wt_1734 rfl (dtRv hb5) (by decide) rfl (Nat.le_of_ble_eq_true rfl) (Nat.le_of_ble_eq_true rfl) rfl ?_
  refine dr_ishl dX12_canHave_16 ?_
  refine dr_iload x3 dX12_canHave_17 rfl ?_
  obtain ⟨_, hb9, h⟩ := dtBind h
  obtain ⟨x12, μ10, e11, h⟩ := dtCall h
  refine dr_callV_i (S0 := []) [.int ((1 : Int32) <<< (x8 &&& 31)), .int x3] x12 μ10 dX12_canHave_19 (c_X12_reaches p0 ((1 : Int32) <<< (x8 &&& 31)) x3 μ6 e11) mf_X12_reaches wt_1791 ws_102 wt_1789 rfl (dtRv hb9) (by decide) rfl (Nat.le_of_ble_eq_true rfl) (Nat.le_of_ble_eq_true rfl) rfl ?_
  refine dr_istore [some (.ref p0), some (.int p1), some (.int p2), some (.int p3), some (.int x3), some (.int x12)] dX12_canHave_22 rfl rfl rfl ?_
  refine dr_iconst (0 : Int32) dX12_canHave_24 (by decide) ?_
  refine dr_istore [some (.ref p0), some (.int p1), some (.int p2), some (.int p3), some (.int x3), some (.int x12), some (.int (0 : Int32))] dX12_canHave_25 rfl rfl rfl ?_
  refine dr_mask [true, false, true, true, true, true, true] [some (.ref p0), none, some (.int p2), some (.int p3), some (.int x3), some (.int x12), some (.int (0 : Int32))] rfl ?_
  exact c_X12_canHave_27 dtFuel p0 p2 p3 x3 x12 (0 : Int32) μ10 h
/-! X12_culprits -/
theorem dX12_culprits_0 : decode cX12_culprits 0 = .ok (.iload_n 1, 1) := by decide +kernel
theorem dX12_culprits_1 : decode cX12_culprits 1 = .ok (.invokestatic 104, 3) := by decide +kernel
theorem dX12_culprits_4 : decode cX12_culprits 4 = .ok (.ifCond .eq 15, 3) := by decide +kernel
theorem dX12_culprits_7 : decode cX12_culprits 7 = .ok (.iload_n 2, 1) := by decide +kernel
theorem dX12_culprits_8 : decode cX12_culprits 8 = .ok (.i2l, 1) := by decide +kernel
theorem dX12_culprits_9 : decode cX12_culprits 9 = .ok (.lconst 0, 1) := by decide +kernel
theorem dX12_culprits_10 : decode cX12_culprits 10 = .ok (.ldc2_w 417, 3) := by decide +kernel
theorem dX12_culprits_13 : decode cX12_culprits 13 = .ok (.invokestatic 366, 3) := by decide +kernel
theorem dX12_culprits_16 : decode cX12_culprits 16 = .ok (.ifCond .ne 9, 3) := by decide +kernel
theorem dX12_culprits_19 : decode cX12_culprits 19 = .ok (.aload_n 0, 1) := by decide +kernel
theorem dX12_culprits_20 : decode cX12_culprits 20 = .ok (.iconst 1, 1) := by decide +kernel
theorem dX12_culprits_21 : decode cX12_culprits 21 = .ok (.invokevirtual 93, 3) := by decide +kernel
theorem dX12_culprits_24 : decode cX12_culprits 24 = .ok (.ireturn, 1) := by decide +kernel
theorem dX12_culprits_25 : decode cX12_culprits 25 = .ok (.aload_n 0, 1) := by decide +kernel
theorem dX12_culprits_26 : decode cX12_culprits 26 = .ok (.getfield 24, 3) := by decide +kernel
theorem dX12_culprits_29 : decode cX12_culprits 29 = .ok (.iload_n 1, 1) := by decide +kernel
theorem dX12_culprits_30 : decode cX12_culprits 30 = .ok (.iaload, 1) := by decide +kernel
theorem dX12_culprits_31 : decode cX12_culprits 31 = .ok (.iconst (-1), 1) := by decide +kernel
theorem dX12_culprits_32 : decode cX12_culprits 32 = .ok (.if_icmp .ne 9, 3) := by decide +kernel
theorem dX12_culprits_35 : decode cX12_culprits 35 = .ok (.aload_n 0, 1) := by decide +kernel
theorem dX12_culprits_36 : decode cX12_culprits 36 = .ok (.iconst 2, 1) := by decide +kernel
theorem dX12_culprits_37 : decode cX12_culprits 37 = .ok (.invokevirtual 93, 3) := by decide +kernel
theorem dX12_culprits_40 : decode cX12_culprits 40 = .ok (.ireturn, 1) := by decide +kernel
theorem dX12_culprits_41 : decode cX12_culprits 41 = .ok (.aload_n 0, 1) := by decide +kernel
theorem dX12_culprits_42 : decode cX12_culprits 42 = .ok (.getfield 24, 3) := by decide +kernel
theorem dX12_culprits_45 : decode cX12_culprits 45 = .ok (.iload_n 1, 1) := by decide +kernel
theorem dX12_culprits_46 : decode cX12_culprits 46 = .ok (.iaload, 1) := by decide +kernel
theorem dX12_culprits_47 : decode cX12_culprits 47 = .ok (.iload_n 2, 1) := by decide +kernel
theorem dX12_culprits_48 : decode cX12_culprits 48 = .ok (.if_icmp .ge 9, 3) := by decide +kernel
theorem dX12_culprits_51 : decode cX12_culprits 51 = .ok (.aload_n 0, 1) := by decide +kernel
theorem dX12_culprits_52 : decode cX12_culprits 52 = .ok (.iconst 3, 1) := by decide +kernel
theorem dX12_culprits_53 : decode cX12_culprits 53 = .ok (.invokevirtual 93, 3) := by decide +kernel
theorem dX12_culprits_56 : decode cX12_culprits 56 = .ok (.ireturn, 1) := by decide +kernel
theorem dX12_culprits_57 : decode cX12_culprits 57 = .ok (.aload_n 0, 1) := by decide +kernel
theorem dX12_culprits_58 : decode cX12_culprits 58 = .ok (.getfield 7, 3) := by decide +kernel
theorem dX12_culprits_61 : decode cX12_culprits 61 = .ok (.iconst 5, 1) := by decide +kernel
theorem dX12_culprits_62 : decode cX12_culprits 62 = .ok (.iaload, 1) := by decide +kernel
theorem dX12_culprits_63 : decode cX12_culprits 63 = .ok (.istore_n 3, 1) := by decide +kernel
theorem dX12_culprits_64 : decode cX12_culprits 64 = .ok (.iconst 0, 1) := by decide +kernel
theorem dX12_culprits_65 : decode cX12_culprits 65 = .ok (.istore 4, 2) := by decide +kernel
theorem dX12_culprits_67 : decode cX12_culprits 67 = .ok (.iload 4, 2) := by decide +kernel
theorem dX12_culprits_69 : decode cX12_culprits 69 = .ok (.iload_n 2, 1) := by decide +kernel
theorem dX12_culprits_70 : decode cX12_culprits 70 = .ok (.if_icmp .ge 68, 3) := by decide +kernel
theorem dX12_culprits_73 : decode cX12_culprits 73 = .ok (.aload_n 0, 1) := by decide +kernel
theorem dX12_culprits_74 : decode cX12_culprits 74 = .ok (.getfield 27, 3) := by decide +kernel
theorem dX12_culprits_77 : decode cX12_culprits 77 = .ok (.bipush 60, 2) := by decide +kernel
theorem dX12_culprits_79 : decode cX12_culprits 79 = .ok (.iload_n 1, 1) := by decide +kernel
theorem dX12_culprits_80 : decode cX12_culprits 80 = .ok (.imul, 1) := by decide +kernel
theorem dX12_culprits_81 : decode cX12_culprits 81 = .ok (.iload 4, 2) := by decide +kernel
theorem dX12_culprits_83 : decode cX12_culprits 83 = .ok (.iadd, 1) := by decide +kernel
theorem dX12_culprits_84 : decode cX12_culprits 84 = .ok (.laload, 1) := by decide +kernel
theorem dX12_culprits_85 : decode cX12_culprits 85 = .ok (.lstore 5, 2) := by decide +kernel
theorem dX12_culprits_87 : decode cX12_culprits 87 = .ok (.lload 5, 2) := by decide +kernel
theorem dX12_culprits_89 : decode cX12_culprits 89 = .ok (.lconst 0, 1) := by decide +kernel
theorem dX12_culprits_90 : decode cX12_culprits 90 = .ok (.aload_n 0, 1) := by decide +kernel
theorem dX12_culprits_91 : decode cX12_culprits 91 = .ok (.getfield 7, 3) := by decide +kernel
theorem dX12_culprits_94 : decode cX12_culprits 94 = .ok (.iconst 1, 1) := by decide +kernel
theorem dX12_culprits_95 : decode cX12_culprits 95 = .ok (.iaload, 1) := by decide +kernel
theorem dX12_culprits_96 : decode cX12_culprits 96 = .ok (.i2l, 1) := by decide +kernel
theorem dX12_culprits_97 : decode cX12_culprits 97 = .ok (.lconst 1, 1) := by decide +kernel
theorem dX12_culprits_98 : decode cX12_culprits 98 = .ok (.lsub, 1) := by decide +kernel
theorem dX12_culprits_99 : decode cX12_culprits 99 = .ok (.invokestatic 366, 3) := by decide +kernel
theorem dX12_culprits_102 : decode cX12_culprits 102 = .ok (.ifCond .eq 14, 3) := by decide +kernel
theorem dX12_culprits_105 : decode cX12_culprits 105 = .ok (.aload_n 0, 1) := by decide +kernel
theorem dX12_culprits_106 : decode cX12_culprits 106 = .ok (.iload_n 3, 1) := by decide +kernel
theorem dX12_culprits_107 : decode cX12_culprits 107 = .ok (.lload 5, 2) := by decide +kernel
theorem dX12_culprits_109 : decode cX12_culprits 109 = .ok (.l2i, 1) := by decide +kernel
theorem dX12_culprits_110 : decode cX12_culprits 110 = .ok (.invokevirtual 241, 3) := by decide +kernel
theorem dX12_culprits_113 : decode cX12_culprits 113 = .ok (.ifCond .ne 9, 3) := by decide +kernel
theorem dX12_culprits_116 : decode cX12_culprits 116 = .ok (.aload_n 0, 1) := by decide +kernel
theorem dX12_culprits_117 : decode cX12_culprits 117 = .ok (.iconst 5, 1) := by decide +kernel
theorem dX12_culprits_118 : decode cX12_culprits 118 = .ok (.invokevirtual 93, 3) := by decide +kernel
theorem dX12_culprits_121 : decode cX12_culprits 121 = .ok (.ireturn, 1) := by decide +kernel
theorem dX12_culprits_122 : decode cX12_culprits 122 = .ok (.iload_n 3, 1) := by decide +kernel
theorem dX12_culprits_123 : decode cX12_culprits 123 = .ok (.iconst 1, 1) := by decide +kernel
theorem dX12_culprits_124 : decode cX12_culprits 124 = .ok (.lload 5, 2) := by decide +kernel
theorem dX12_culprits_126 : decode cX12_culprits 126 = .ok (.l2i, 1) := by decide +kernel
theorem dX12_culprits_127 : decode cX12_culprits 127 = .ok (.ishl, 1) := by decide +kernel
theorem dX12_culprits_128 : decode cX12_culprits 128 = .ok (.iconst (-1), 1) := by decide +kernel
theorem dX12_culprits_129 : decode cX12_culprits 129 = .ok (.ixor, 1) := by decide +kernel
theorem dX12_culprits_130 : decode cX12_culprits 130 = .ok (.iand, 1) := by decide +kernel
theorem dX12_culprits_131 : decode cX12_culprits 131 = .ok (.istore_n 3, 1) := by decide +kernel
theorem dX12_culprits_132 : decode cX12_culprits 132 = .ok (.iinc 4 1, 3) := by decide +kernel
theorem dX12_culprits_135 : decode cX12_culprits 135 = .ok (.goto (-68), 3) := by decide +kernel
theorem dX12_culprits_138 : decode cX12_culprits 138 = .ok (.iconst 0, 1) := by decide +kernel
theorem dX12_culprits_139 : decode cX12_culprits 139 = .ok (.istore 4, 2) := by decide +kernel
theorem dX12_culprits_141 : decode cX12_culprits 141 = .ok (.iconst 0, 1) := by decide +kernel
theorem dX12_culprits_142 : decode cX12_culprits 142 = .ok (.istore 5, 2) := by decide +kernel
theorem dX12_culprits_144 : decode cX12_culprits 144 = .ok (.iload 5, 2) := by decide +kernel
theorem dX12_culprits_146 : decode cX12_culprits 146 = .ok (.aload_n 0, 1) := by decide +kernel
theorem dX12_culprits_147 : decode cX12_culprits 147 = .ok (.getfield 7, 3) := by decide +kernel
theorem dX12_culprits_150 : decode cX12_culprits 150 = .ok (.iconst 3, 1) := by decide +kernel
theorem dX12_culprits_151 : decode cX12_culprits 151 = .ok (.iaload, 1) := by decide +kernel
theorem dX12_culprits_152 : decode cX12_culprits 152 = .ok (.if_icmp .ge 33, 3) := by decide +kernel
theorem dX12_culprits_155 : decode cX12_culprits 155 = .ok (.iload 4, 2) := by decide +kernel
theorem dX12_culprits_157 : decode cX12_culprits 157 = .ok (.aload_n 0, 1) := by decide +kernel
theorem dX12_culprits_158 : decode cX12_culprits 158 = .ok (.iload 5, 2) := by decide +kernel
theorem dX12_culprits_160 : decode cX12_culprits 160 = .ok (.iload_n 1, 1) := by decide +kernel
theorem dX12_culprits_161 : decode cX12_culprits 161 = .ok (.iload_n 2, 1) := by decide +kernel
theorem dX12_culprits_162 : decode cX12_culprits 162 = .ok (.invokevirtual 419, 3) := by decide +kernel
theorem dX12_culprits_165 : decode cX12_culprits 165 = .ok (.ifCond .eq 10, 3) := by decide +kernel
theorem dX12_culprits_168 : decode cX12_culprits 168 = .ok (.iconst 1, 1) := by decide +kernel
theorem dX12_culprits_169 : decode cX12_culprits 169 = .ok (.iload 5, 2) := by decide +kernel
theorem dX12_culprits_171 : decode cX12_culprits 171 = .ok (.ishl, 1) := by decide +kernel
theorem dX12_culprits_172 : decode cX12_culprits 172 = .ok (.goto 4, 3) := by decide +kernel
theorem dX12_culprits_175 : decode cX12_culprits 175 = .ok (.iconst 0, 1) := by decide +kernel
theorem dX12_culprits_176 : decode cX12_culprits 176 = .ok (.ior, 1) := by decide +kernel
theorem dX12_culprits_177 : decode cX12_culprits 177 = .ok (.istore 4, 2) := by decide +kernel
theorem dX12_culprits_179 : decode cX12_culprits 179 = .ok (.iinc 5 1, 3) := by decide +kernel
theorem dX12_culprits_182 : decode cX12_culprits 182 = .ok (.goto (-38), 3) := by decide +kernel
theorem dX12_culprits_185 : decode cX12_culprits 185 = .ok (.aload_n 0, 1) := by decide +kernel
theorem dX12_culprits_186 : decode cX12_culprits 186 = .ok (.iload 4, 2) := by decide +kernel
theorem dX12_culprits_188 : decode cX12_culprits 188 = .ok (.invokevirtual 97, 3) := by decide +kernel
theorem dX12_culprits_191 : decode cX12_culprits 191 = .ok (.ireturn, 1) := by decide +kernel
set_option maxRecDepth 100000 in
def f_X12_culprits_19 (l0 : Nat) (μ : dtM) : Option (Int32 × dtM) :=
  (opRv 12 μ l0).bind fun _ => opCall (f_X12_refuse l0 (1 : Int32) μ) fun x4 μ2 => some (x4, μ2)
set_option maxRecDepth 100000 in
def f_X12_culprits_176 (k144 : Nat → Int32 → Int32 → Int32 → Int32 → dtM → Option (Int32 × dtM)) (l0 : Nat) (l1 : Int32) (l2 : Int32) (l5 : Int32) (s0 : Int32) (s1 : Int32) (μ : dtM) : Option (Int32 × dtM) :=
  (some (s0 ||| s1)).bind fun x1 => k144 l0 l1 l2 x1 (l5 + 1) μ
set_option maxRecDepth 100000 in
def f_X12_culprits_144 : Nat → Nat → Int32 → Int32 → Int32 → Int32 → dtM → Option (Int32 × dtM)
  | 0, _, _, _, _, _, _ => none
  | n + 1, l0, l1, l2, l4, l5, μ =>
    (opGR 12 0 μ l0).bind fun x1 => (opLI 1 μ x1 (3 : Int32)).bind fun x3 => if x3 ≤ l5 then ((opRv 12 μ l0).bind fun _ => opCall (f_X12_gives l0 l4 μ) fun x11 μ9 => some (x11, μ9)) else ((opRv 12 μ l0).bind fun _ => opCall (f_X12_canHave l0 l5 l1 l2 μ) fun x15 μ13 => if x15 = 0 then (f_X12_culprits_176 (f_X12_culprits_144 n) l0 l1 l2 l5 l4 (0 : Int32) μ13) else (f_X12_culprits_176 (f_X12_culprits_144 n) l0 l1 l2 l5 l4 ((1 : Int32) <<< (l5 &&& 31)) μ13))
set_option maxRecDepth 100000 in
def f_X12_culprits_116 (l0 : Nat) (μ : dtM) : Option (Int32 × dtM) :=
  (opRv 12 μ l0).bind fun _ => opCall (f_X12_refuse l0 (5 : Int32) μ) fun x4 μ2 => some (x4, μ2)
set_option maxRecDepth 100000 in
def f_X12_culprits_67 : Nat → Nat → Int32 → Int32 → Int32 → Int32 → dtM → Option (Int32 × dtM)
  | 0, _, _, _, _, _, _ => none
  | n + 1, l0, l1, l2, l3, l4, μ =>
    if l2 ≤ l4 then (f_X12_culprits_144 dtFuel l0 l1 l2 (0 : Int32) (0 : Int32) μ) else ((opGR 12 7 μ l0).bind fun x4 => (opLJ 3 μ x4 (((60 : Int32) * l1) + l4)).bind fun x6 => (opGR 12 0 μ l0).bind fun x8 => (opLI 1 μ x8 (1 : Int32)).bind fun x10 => opCall (f_X12_isFrom x6 (0 : Int64) ((x10.toInt64) - (1 : Int64)) μ) fun x14 μ12 => if x14 = 0 then (f_X12_culprits_116 l0 μ12) else ((opRv 12 μ12 l0).bind fun _ => opCall (f_X12_isIn l0 l3 (x6.toInt32) μ12) fun x21 μ19 => if x21 = 0 then (f_X12_culprits_116 l0 μ19) else ((some (l3 &&& (((1 : Int32) <<< ((x6.toInt32) &&& 31)) ^^^ (-1 : Int32)))).bind fun x25 => f_X12_culprits_67 n l0 l1 l2 x25 (l4 + 1) μ19)))
set_option maxRecDepth 100000 in
def f_X12_culprits (p0 : Nat) (p1 : Int32) (p2 : Int32) (μ : dtM) : Option (Int32 × dtM) :=
  opCall (f_X12_isTray p1 μ) fun x3 μ1 => if x3 = 0 then (f_X12_culprits_19 p0 μ1) else (opCall (f_X12_isFrom (p2.toInt64) (0 : Int64) (6 : Int64) μ1) fun x9 μ7 => if x9 = 0 then (f_X12_culprits_19 p0 μ7) else ((opGR 12 6 μ7 p0).bind fun x13 => (opLI 1 μ7 x13 p1).bind fun x15 => if x15 = (-1 : Int32) then ((opRv 12 μ7 p0).bind fun _ => opCall (f_X12_refuse p0 (2 : Int32) μ7) fun x38 μ36 => some (x38, μ36)) else ((opGR 12 6 μ7 p0).bind fun x20 => (opLI 1 μ7 x20 p1).bind fun x22 => if p2 ≤ x22 then ((opGR 12 0 μ7 p0).bind fun x27 => (opLI 1 μ7 x27 (5 : Int32)).bind fun x29 => f_X12_culprits_67 dtFuel p0 p1 p2 x29 (0 : Int32) μ7) else ((opRv 12 μ7 p0).bind fun _ => opCall (f_X12_refuse p0 (3 : Int32) μ7) fun x34 μ32 => some (x34, μ32)))))
set_option maxRecDepth 100000 in
theorem c_X12_culprits_19 {r : Int32} {F : dtM} (l0 : Nat) (μ : dtM) (h : f_X12_culprits_19 l0 μ = some (r, F)) : dtW yX12_culprits cX12_culprits 7 (some .int) 5 (some (.int r)) F 19 [some (.ref l0)] [] μ := by
  rw [f_X12_culprits_19] at h
  refine dr_aload_n l0 dX12_culprits_19 rfl ?_
  refine dr_iconst (1 : Int32) dX12_culprits_20 (by decide) ?_
  obtain ⟨_, hb1, h⟩ := dtBind h
  obtain ⟨x4, μ2, e3, h⟩ := dtCall h
  refine dr_callV_i (S0 := []) [.int (1 : Int32)] x4 μ2 dX12_culprits_21 (c_X12_refuse l0 (1 : Int32) μ e3) mf_X12_refuse wt_1552 ws_59 wt_1550 rfl (dtRv hb1) (by decide) rfl (Nat.le_of_ble_eq_true rfl) (Nat.le_of_ble_eq_true rfl) rfl ?_
  cases h
  exact dr_ireturn dX12_culprits_24 rfl
set_option maxRecDepth 100000 in
theorem c_X12_culprits_176 {r : Int32} {F : dtM} (k144 : Nat → Int32 → Int32 → Int32 → Int32 → dtM → Option (Int32 × dtM)) (hk144 : ∀ (l0 : Nat) (l1 : Int32) (l2 : Int32) (l4 : Int32) (l5 : Int32) (μ : dtM), k144 l0 l1 l2 l4 l5 μ = some (r, F) → dtW yX12_culprits cX12_culprits 7 (some .int) 5 (some (.int r)) F 144 [some (.ref l0), some (.int l1), some (.int l2), none, some (.int l4), some (.int l5)] [] μ) (l0 : Nat) (l1 : Int32) (l2 : Int32) (l5 : Int32) (s0 : Int32) (s1 : Int32) (μ : dtM) (h : f_X12_culprits_176 k144 l0 l1 l2 l5 s0 s1 μ = some (r, F)) : dtW yX12_culprits cX12_culprits 7 (some .int) 5 (some (.int r)) F 176 [some (.ref l0), some (.int l1), some (.int l2), none, none, some (.int l5)] [.int s1, .int s0] μ := by
  rw [f_X12_culprits_176] at h
  refine dr_ior dX12_culprits_176 ?_
  obtain ⟨x1, e2, h⟩ := dtBind h
  refine dr_nmi e2 ?_
  refine dr_istore [some (.ref l0), some (.int l1), some (.int l2), none, some (.int x1), some (.int l5)] dX12_culprits_177 rfl rfl rfl ?_
  refine dr_iinc l5 (l5 + 1) [some (.ref l0), some (.int l1), some (.int l2), none, some (.int x1), some (.int (l5 + 1))] dX12_culprits_179 rfl rfl rfl rfl rfl ?_
  refine dr_goto 144 dX12_culprits_182 (by decide) ?_
  exact hk144 l0 l1 l2 x1 (l5 + 1) μ h
set_option maxRecDepth 100000 in
theorem c_X12_culprits_144 {r : Int32} {F : dtM} : ∀ (n : Nat) (l0 : Nat) (l1 : Int32) (l2 : Int32) (l4 : Int32) (l5 : Int32) (μ : dtM), f_X12_culprits_144 n l0 l1 l2 l4 l5 μ = some (r, F) → dtW yX12_culprits cX12_culprits 7 (some .int) 5 (some (.int r)) F 144 [some (.ref l0), some (.int l1), some (.int l2), none, some (.int l4), some (.int l5)] [] μ := by
  intro n
  induction n with
  | zero => intro l0 l1 l2 l4 l5 μ h; cases h
  | succ n ih =>
    intro l0 l1 l2 l4 l5 μ h
    have h := (show f_X12_culprits_144 (n + 1) l0 l1 l2 l4 l5 μ = some _ from h)
    rw [f_X12_culprits_144] at h
    refine dr_iload l5 dX12_culprits_144 rfl ?_
    refine dr_aload_n l0 dX12_culprits_146 rfl ?_
    obtain ⟨x1, e2, h⟩ := dtBind h
    refine dr_getR x1 dX12_culprits_147 fl_RX12_7 e2 ?_
    refine dr_iconst (3 : Int32) dX12_culprits_150 (by decide) ?_
    obtain ⟨x3, e4, h⟩ := dtBind h
    refine dr_iaload x3 dX12_culprits_151 e4 ?_
    obtain ⟨ht6, hf7⟩ := dtIte h
    refine dr_icmp_ge 185 dX12_culprits_152 (by decide) (fun hc5 => ?_) (fun hc5 => ?_)
    · have h := ht6 hc5
      refine dr_aload_n l0 dX12_culprits_185 rfl ?_
      refine dr_iload l4 dX12_culprits_186 rfl ?_
      obtain ⟨_, hb8, h⟩ := dtBind h
      obtain ⟨x11, μ9, e10, h⟩ := dtCall h
      refine dr_callV_i (S0 := []) [.int l4] x11 μ9 dX12_culprits_188 (c_X12_gives l0 l4 μ e10) mf_X12_gives wt_1668 ws_85 wt_1666 rfl (dtRv hb8) (by decide) rfl (Nat.le_of_ble_eq_true rfl) (Nat.le_of_ble_eq_true rfl) rfl ?_
      cases h
      exact dr_ireturn dX12_culprits_191 rfl
    · have h := hf7 hc5
      refine dr_iload l4 dX12_culprits_155 rfl ?_
      refine dr_aload_n l0 dX12_culprits_157 rfl ?_
      refine dr_iload l5 dX12_culprits_158 rfl ?_
      refine dr_iload_n l1 dX12_culprits_160 rfl ?_
      refine dr_iload_n l2 dX12_culprits_161 rfl ?_
      obtain ⟨_, hb12, h⟩ := dtBind h
      obtain ⟨x15, μ13, e14, h⟩ := dtCall h
      refine dr_callV_i (S0 := [.int l4]) [.int l5, .int l1, .int l2] x15 μ13 dX12_culprits_162 (c_X12_canHave l0 l5 l1 l2 μ e14) mf_X12_canHave wt_1986 ws_123 wt_1984 rfl (dtRv hb12) (by decide) rfl (Nat.le_of_ble_eq_true rfl) (Nat.le_of_ble_eq_true rfl) rfl ?_
      obtain ⟨ht17, hf18⟩ := dtIte h
      refine dr_if_eq 175 dX12_culprits_165 (by decide) (fun hc16 => ?_) (fun hc16 => ?_)
      · have h := ht17 hc16
        refine dr_iconst (0 : Int32) dX12_culprits_175 (by decide) ?_
        refine dr_mask [true, true, true, false, false, true] [some (.ref l0), some (.int l1), some (.int l2), none, none, some (.int l5)] rfl ?_
        exact c_X12_culprits_176 (f_X12_culprits_144 n) ih l0 l1 l2 l5 l4 (0 : Int32) μ13 h
      · have h := hf18 hc16
        refine dr_iconst (1 : Int32) dX12_culprits_168 (by decide) ?_
        refine dr_iload l5 dX12_culprits_169 rfl ?_
        refine dr_ishl dX12_culprits_171 ?_
        refine dr_goto 176 dX12_culprits_172 (by decide) ?_
        refine dr_mask [true, true, true, false, false, true] [some (.ref l0), some (.int l1), some (.int l2), none, none, some (.int l5)] rfl ?_
        exact c_X12_culprits_176 (f_X12_culprits_144 n) ih l0 l1 l2 l5 l4 ((1 : Int32) <<< (l5 &&& 31)) μ13 h
set_option maxRecDepth 100000 in
theorem c_X12_culprits_116 {r : Int32} {F : dtM} (l0 : Nat) (μ : dtM) (h : f_X12_culprits_116 l0 μ = some (r, F)) : dtW yX12_culprits cX12_culprits 7 (some .int) 5 (some (.int r)) F 116 [some (.ref l0)] [] μ := by
  rw [f_X12_culprits_116] at h
  refine dr_aload_n l0 dX12_culprits_116 rfl ?_
  refine dr_iconst (5 : Int32) dX12_culprits_117 (by decide) ?_
  obtain ⟨_, hb1, h⟩ := dtBind h
  obtain ⟨x4, μ2, e3, h⟩ := dtCall h
  refine dr_callV_i (S0 := []) [.int (5 : Int32)] x4 μ2 dX12_culprits_118 (c_X12_refuse l0 (5 : Int32) μ e3) mf_X12_refuse wt_1552 ws_59 wt_1550 rfl (dtRv hb1) (by decide) rfl (Nat.le_of_ble_eq_true rfl) (Nat.le_of_ble_eq_true rfl) rfl ?_
  cases h
  exact dr_ireturn dX12_culprits_121 rfl
set_option maxRecDepth 100000 in
theorem c_X12_culprits_67 {r : Int32} {F : dtM} : ∀ (n : Nat) (l0 : Nat) (l1 : Int32) (l2 : Int32) (l3 : Int32) (l4 : Int32) (μ : dtM), f_X12_culprits_67 n l0 l1 l2 l3 l4 μ = some (r, F) → dtW yX12_culprits cX12_culprits 7 (some .int) 5 (some (.int r)) F 67 [some (.ref l0), some (.int l1), some (.int l2), some (.int l3), some (.int l4)] [] μ := by
  intro n
  induction n with
  | zero => intro l0 l1 l2 l3 l4 μ h; cases h
  | succ n ih =>
    intro l0 l1 l2 l3 l4 μ h
    have h := (show f_X12_culprits_67 (n + 1) l0 l1 l2 l3 l4 μ = some _ from h)
    rw [f_X12_culprits_67] at h
    refine dr_iload l4 dX12_culprits_67 rfl ?_
    refine dr_iload_n l2 dX12_culprits_69 rfl ?_
    obtain ⟨ht2, hf3⟩ := dtIte h
    refine dr_icmp_ge 138 dX12_culprits_70 (by decide) (fun hc1 => ?_) (fun hc1 => ?_)
    · have h := ht2 hc1
      refine dr_iconst (0 : Int32) dX12_culprits_138 (by decide) ?_
      refine dr_istore [some (.ref l0), some (.int l1), some (.int l2), some (.int l3), some (.int (0 : Int32))] dX12_culprits_139 rfl rfl rfl ?_
      refine dr_iconst (0 : Int32) dX12_culprits_141 (by decide) ?_
      refine dr_istore [some (.ref l0), some (.int l1), some (.int l2), some (.int l3), some (.int (0 : Int32)), some (.int (0 : Int32))] dX12_culprits_142 rfl rfl rfl ?_
      refine dr_mask [true, true, true, false, true, true] [some (.ref l0), some (.int l1), some (.int l2), none, some (.int (0 : Int32)), some (.int (0 : Int32))] rfl ?_
      exact c_X12_culprits_144 dtFuel l0 l1 l2 (0 : Int32) (0 : Int32) μ h
    · have h := hf3 hc1
      refine dr_aload_n l0 dX12_culprits_73 rfl ?_
      obtain ⟨x4, e5, h⟩ := dtBind h
      refine dr_getR x4 dX12_culprits_74 fl_RX12_27 e5 ?_
      refine dr_bipush (60 : Int32) dX12_culprits_77 (by decide) ?_
      refine dr_iload_n l1 dX12_culprits_79 rfl ?_
      refine dr_imul dX12_culprits_80 ?_
      refine dr_iload l4 dX12_culprits_81 rfl ?_
      refine dr_iadd dX12_culprits_83 ?_
      obtain ⟨x6, e7, h⟩ := dtBind h
      refine dr_laload x6 dX12_culprits_84 e7 ?_
      refine dr_lstore [some (.ref l0), some (.int l1), some (.int l2), some (.int l3), some (.int l4), some (.long x6), none] dX12_culprits_85 rfl rfl rfl ?_
      refine dr_lload x6 dX12_culprits_87 rfl ?_
      refine dr_lconst (0 : Int64) dX12_culprits_89 (by decide) ?_
      refine dr_aload_n l0 dX12_culprits_90 rfl ?_
      obtain ⟨x8, e9, h⟩ := dtBind h
      refine dr_getR x8 dX12_culprits_91 fl_RX12_7 e9 ?_
      refine dr_iconst (1 : Int32) dX12_culprits_94 (by decide) ?_
      obtain ⟨x10, e11, h⟩ := dtBind h
      refine dr_iaload x10 dX12_culprits_95 e11 ?_
      refine dr_i2l dX12_culprits_96 ?_
      refine dr_lconst (1 : Int64) dX12_culprits_97 (by decide) ?_
      refine dr_lsub dX12_culprits_98 ?_
      obtain ⟨x14, μ12, e13, h⟩ := dtCall h
      refine dr_callS_i (S0 := []) [.long x6, .long (0 : Int64), .long ((x10.toInt64) - (1 : Int64))] x14 μ12 dX12_culprits_99 (c_X12_isFrom x6 (0 : Int64) ((x10.toInt64) - (1 : Int64)) μ e13) mf_X12_isFrom wt_1854 wt_1853 rfl (Nat.le_of_ble_eq_true rfl) (Nat.le_of_ble_eq_true rfl) rfl ?_
      obtain ⟨ht16, hf17⟩ := dtIte h
      refine dr_if_eq 116 dX12_culprits_102 (by decide) (fun hc15 => ?_) (fun hc15 => ?_)
      · have h := ht16 hc15
        refine dr_mask [true] [some (.ref l0)] rfl ?_
        exact c_X12_culprits_116 l0 μ12 h
      · have h := hf17 hc15
        refine dr_aload_n l0 dX12_culprits_105 rfl ?_
        refine dr_iload_n l3 dX12_culprits_106 rfl ?_
        refine dr_lload x6 dX12_culprits_107 rfl ?_
        refine dr_l2i dX12_culprits_109 ?_
        obtain ⟨_, hb18, h⟩ := dtBind h
        obtain ⟨x21, μ19, e20, h⟩ := dtCall h
        refine dr_callV_i (S0 := []) [.int l3, .int (x6.toInt32)] x21 μ19 dX12_culprits_110 (c_X12_isIn l0 l3 (x6.toInt32) μ12 e20) mf_X12_isIn wt_1656 ws_82 wt_1654 rfl (dtRv hb18) (by decide) rfl (Nat.le_of_ble_eq_true rfl) (Nat.le_of_ble_eq_true rfl) rfl ?_
        obtain ⟨ht23, hf24⟩ := dtIte h
        refine dr_if_ne 122 dX12_culprits_113 (by decide) (fun hc22 => ?_) (fun hc22 => ?_)
        · have h := hf24 hc22
          refine dr_iload_n l3 dX12_culprits_122 rfl ?_
          refine dr_iconst (1 : Int32) dX12_culprits_123 (by decide) ?_
          refine dr_lload x6 dX12_culprits_124 rfl ?_
          refine dr_l2i dX12_culprits_126 ?_
          refine dr_ishl dX12_culprits_127 ?_
          refine dr_iconst (-1 : Int32) dX12_culprits_128 (by decide) ?_
          refine dr_ixor dX12_culprits_129 ?_
          refine dr_iand dX12_culprits_130 ?_
          obtain ⟨x25, e26, h⟩ := dtBind h
          refine dr_nmi e26 ?_
          refine dr_istore_n 3 [some (.ref l0), some (.int l1), some (.int l2), some (.int x25), some (.int l4), some (.long x6), none] dX12_culprits_131 rfl rfl rfl rfl ?_
          refine dr_iinc l4 (l4 + 1) [some (.ref l0), some (.int l1), some (.int l2), some (.int x25), some (.int (l4 + 1)), some (.long x6), none] dX12_culprits_132 rfl rfl rfl rfl rfl ?_
          refine dr_goto 67 dX12_culprits_135 (by decide) ?_
          refine dr_mask [true, true, true, true, true] [some (.ref l0), some (.int l1), some (.int l2), some (.int x25), some (.int (l4 + 1))] rfl ?_
          exact ih l0 l1 l2 x25 (l4 + 1) μ19 h
        · have h := ht23 hc22
          refine dr_mask [true] [some (.ref l0)] rfl ?_
          exact c_X12_culprits_116 l0 μ19 h
set_option maxRecDepth 100000 in
theorem c_X12_culprits {r : Int32} {F : dtM} (p0 : Nat) (p1 : Int32) (p2 : Int32) (μ : dtM) (h : f_X12_culprits p0 p1 p2 μ = some (r, F)) : dtMet yX12_culprits cX12_culprits 7 (some .int) 5 [.ref p0, .int p1, .int p2] μ (some (.int r)) F := by
  refine dtMet.of (by decide +kernel) (Nat.le_of_ble_eq_true rfl) (show dtW yX12_culprits cX12_culprits 7 (some .int) 5 (some (.int r)) F 0 [some (.ref p0), some (.int p1), some (.int p2)] [] μ from ?_)
  rw [f_X12_culprits] at h
  refine dr_iload_n p1 dX12_culprits_0 rfl ?_
  obtain ⟨x3, μ1, e2, h⟩ := dtCall h
  refine dr_callS_i (S0 := []) [.int p1] x3 μ1 dX12_culprits_1 (c_X12_isTray p1 μ e2) mf_X12_isTray wt_1488 wt_1487 rfl (Nat.le_of_ble_eq_true rfl) (Nat.le_of_ble_eq_true rfl) rfl ?_
  obtain ⟨ht5, hf6⟩ := dtIte h
  refine dr_if_eq 19 dX12_culprits_4 (by decide) (fun hc4 => ?_) (fun hc4 => ?_)
  · have h := ht5 hc4
    refine dr_mask [true] [some (.ref p0)] rfl ?_
    exact c_X12_culprits_19 p0 μ1 h
  · have h := hf6 hc4
    refine dr_iload_n p2 dX12_culprits_7 rfl ?_
    refine dr_i2l dX12_culprits_8 ?_
    refine dr_lconst (0 : Int64) dX12_culprits_9 (by decide) ?_
    refine dr_ldc2 (6 : Int64) dX12_culprits_10 wt_1983 ?_
    obtain ⟨x9, μ7, e8, h⟩ := dtCall h
    refine dr_callS_i (S0 := []) [.long (p2.toInt64), .long (0 : Int64), .long (6 : Int64)] x9 μ7 dX12_culprits_13 (c_X12_isFrom (p2.toInt64) (0 : Int64) (6 : Int64) μ1 e8) mf_X12_isFrom wt_1854 wt_1853 rfl (Nat.le_of_ble_eq_true rfl) (Nat.le_of_ble_eq_true rfl) rfl ?_
    obtain ⟨ht11, hf12⟩ := dtIte h
    refine dr_if_ne 25 dX12_culprits_16 (by decide) (fun hc10 => ?_) (fun hc10 => ?_)
    · have h := hf12 hc10
      refine dr_aload_n p0 dX12_culprits_25 rfl ?_
      obtain ⟨x13, e14, h⟩ := dtBind h
      refine dr_getR x13 dX12_culprits_26 fl_RX12_24 e14 ?_
      refine dr_iload_n p1 dX12_culprits_29 rfl ?_
      obtain ⟨x15, e16, h⟩ := dtBind h
      refine dr_iaload x15 dX12_culprits_30 e16 ?_
      refine dr_iconst (-1 : Int32) dX12_culprits_31 (by decide) ?_
      obtain ⟨ht18, hf19⟩ := dtIte h
      refine dr_icmp_ne 41 dX12_culprits_32 (by decide) (fun hc17 => ?_) (fun hc17 => ?_)
      · have h := hf19 hc17
        refine dr_aload_n p0 dX12_culprits_41 rfl ?_
        obtain ⟨x20, e21, h⟩ := dtBind h
        refine dr_getR x20 dX12_culprits_42 fl_RX12_24 e21 ?_
        refine dr_iload_n p1 dX12_culprits_45 rfl ?_
        obtain ⟨x22, e23, h⟩ := dtBind h
        refine dr_iaload x22 dX12_culprits_46 e23 ?_
        refine dr_iload_n p2 dX12_culprits_47 rfl ?_
        obtain ⟨ht25, hf26⟩ := dtIte h
        refine dr_icmp_ge 57 dX12_culprits_48 (by decide) (fun hc24 => ?_) (fun hc24 => ?_)
        · have h := ht25 hc24
          refine dr_aload_n p0 dX12_culprits_57 rfl ?_
          obtain ⟨x27, e28, h⟩ := dtBind h
          refine dr_getR x27 dX12_culprits_58 fl_RX12_7 e28 ?_
          refine dr_iconst (5 : Int32) dX12_culprits_61 (by decide) ?_
          obtain ⟨x29, e30, h⟩ := dtBind h
          refine dr_iaload x29 dX12_culprits_62 e30 ?_
          refine dr_istore_n 3 [some (.ref p0), some (.int p1), some (.int p2), some (.int x29)] dX12_culprits_63 rfl rfl rfl rfl ?_
          refine dr_iconst (0 : Int32) dX12_culprits_64 (by decide) ?_
          refine dr_istore [some (.ref p0), some (.int p1), some (.int p2), some (.int x29), some (.int (0 : Int32))] dX12_culprits_65 rfl rfl rfl ?_
          exact c_X12_culprits_67 dtFuel p0 p1 p2 x29 (0 : Int32) μ7 h
        · have h := hf26 hc24
          refine dr_aload_n p0 dX12_culprits_51 rfl ?_
          refine dr_iconst (3 : Int32) dX12_culprits_52 (by decide) ?_
          obtain ⟨_, hb31, h⟩ := dtBind h
          obtain ⟨x34, μ32, e33, h⟩ := dtCall h
          refine dr_callV_i (S0 := []) [.int (3 : Int32)] x34 μ32 dX12_culprits_53 (c_X12_refuse p0 (3 : Int32) μ7 e33) mf_X12_refuse wt_1552 ws_59 wt_1550 rfl (dtRv hb31) (by decide) rfl (Nat.le_of_ble_eq_true rfl) (Nat.le_of_ble_eq_true rfl) rfl ?_
          cases h
          exact dr_ireturn dX12_culprits_56 rfl
      · have h := ht18 hc17
        refine dr_aload_n p0 dX12_culprits_35 rfl ?_
        refine dr_iconst (2 : Int32) dX12_culprits_36 (by decide) ?_
        obtain ⟨_, hb35, h⟩ := dtBind h
        obtain ⟨x38, μ36, e37, h⟩ := dtCall h
        refine dr_callV_i (S0 := []) [.int (2 : Int32)] x38 μ36 dX12_culprits_37 (c_X12_refuse p0 (2 : Int32) μ7 e37) mf_X12_refuse wt_1552 ws_59 wt_1550 rfl (dtRv hb35) (by decide) rfl (Nat.le_of_ble_eq_true rfl) (Nat.le_of_ble_eq_true rfl) rfl ?_
        cases h
        exact dr_ireturn dX12_culprits_40 rfl
    · have h := ht11 hc10
      refine dr_mask [true] [some (.ref p0)] rfl ?_
      exact c_X12_culprits_19 p0 μ7 h
/-! X12_settles -/
theorem dX12_settles_0 : decode cX12_settles 0 = .ok (.aload_n 0, 1) := by decide +kernel
theorem dX12_settles_1 : decode cX12_settles 1 = .ok (.getfield 68, 3) := by decide +kernel
theorem dX12_settles_4 : decode cX12_settles 4 = .ok (.iload_n 1, 1) := by decide +kernel
theorem dX12_settles_5 : decode cX12_settles 5 = .ok (.iaload, 1) := by decide +kernel
theorem dX12_settles_6 : decode cX12_settles 6 = .ok (.iconst (-1), 1) := by decide +kernel
theorem dX12_settles_7 : decode cX12_settles 7 = .ok (.if_icmp .ne 7, 3) := by decide +kernel
theorem dX12_settles_10 : decode cX12_settles 10 = .ok (.iconst 1, 1) := by decide +kernel
theorem dX12_settles_11 : decode cX12_settles 11 = .ok (.goto 4, 3) := by decide +kernel
theorem dX12_settles_14 : decode cX12_settles 14 = .ok (.iconst 0, 1) := by decide +kernel
theorem dX12_settles_15 : decode cX12_settles 15 = .ok (.istore_n 3, 1) := by decide +kernel
theorem dX12_settles_16 : decode cX12_settles 16 = .ok (.iload_n 3, 1) := by decide +kernel
theorem dX12_settles_17 : decode cX12_settles 17 = .ok (.ifCond .ne 34, 3) := by decide +kernel
theorem dX12_settles_20 : decode cX12_settles 20 = .ok (.iload_n 1, 1) := by decide +kernel
theorem dX12_settles_21 : decode cX12_settles 21 = .ok (.iconst 2, 1) := by decide +kernel
theorem dX12_settles_22 : decode cX12_settles 22 = .ok (.irem, 1) := by decide +kernel
theorem dX12_settles_23 : decode cX12_settles 23 = .ok (.iconst 1, 1) := by decide +kernel
theorem dX12_settles_24 : decode cX12_settles 24 = .ok (.if_icmp .ne 16, 3) := by decide +kernel
theorem dX12_settles_27 : decode cX12_settles 27 = .ok (.iload_n 2, 1) := by decide +kernel
theorem dX12_settles_28 : decode cX12_settles 28 = .ok (.aload_n 0, 1) := by decide +kernel
theorem dX12_settles_29 : decode cX12_settles 29 = .ok (.getfield 65, 3) := by decide +kernel
theorem dX12_settles_32 : decode cX12_settles 32 = .ok (.iload_n 1, 1) := by decide +kernel
theorem dX12_settles_33 : decode cX12_settles 33 = .ok (.iaload, 1) := by decide +kernel
theorem dX12_settles_34 : decode cX12_settles 34 = .ok (.if_icmp .gt 17, 3) := by decide +kernel
theorem dX12_settles_37 : decode cX12_settles 37 = .ok (.goto 13, 3) := by decide +kernel
theorem dX12_settles_40 : decode cX12_settles 40 = .ok (.iload_n 2, 1) := by decide +kernel
theorem dX12_settles_41 : decode cX12_settles 41 = .ok (.aload_n 0, 1) := by decide +kernel
theorem dX12_settles_42 : decode cX12_settles 42 = .ok (.getfield 65, 3) := by decide +kernel
theorem dX12_settles_45 : decode cX12_settles 45 = .ok (.iload_n 1, 1) := by decide +kernel
theorem dX12_settles_46 : decode cX12_settles 46 = .ok (.iaload, 1) := by decide +kernel
theorem dX12_settles_47 : decode cX12_settles 47 = .ok (.if_icmp .lt 4, 3) := by decide +kernel
theorem dX12_settles_50 : decode cX12_settles 50 = .ok (.return_, 1) := by decide +kernel
theorem dX12_settles_51 : decode cX12_settles 51 = .ok (.aload_n 0, 1) := by decide +kernel
theorem dX12_settles_52 : decode cX12_settles 52 = .ok (.getfield 65, 3) := by decide +kernel
theorem dX12_settles_55 : decode cX12_settles 55 = .ok (.iload_n 1, 1) := by decide +kernel
theorem dX12_settles_56 : decode cX12_settles 56 = .ok (.iload_n 2, 1) := by decide +kernel
theorem dX12_settles_57 : decode cX12_settles 57 = .ok (.iastore, 1) := by decide +kernel
theorem dX12_settles_58 : decode cX12_settles 58 = .ok (.aload_n 0, 1) := by decide +kernel
theorem dX12_settles_59 : decode cX12_settles 59 = .ok (.getfield 68, 3) := by decide +kernel
theorem dX12_settles_62 : decode cX12_settles 62 = .ok (.iload_n 1, 1) := by decide +kernel
theorem dX12_settles_63 : decode cX12_settles 63 = .ok (.aload_n 0, 1) := by decide +kernel
theorem dX12_settles_64 : decode cX12_settles 64 = .ok (.getfield 62, 3) := by decide +kernel
theorem dX12_settles_67 : decode cX12_settles 67 = .ok (.iload_n 1, 1) := by decide +kernel
theorem dX12_settles_68 : decode cX12_settles 68 = .ok (.iaload, 1) := by decide +kernel
theorem dX12_settles_69 : decode cX12_settles 69 = .ok (.iastore, 1) := by decide +kernel
theorem dX12_settles_70 : decode cX12_settles 70 = .ok (.return_, 1) := by decide +kernel
set_option maxRecDepth 100000 in
def f_X12_settles_51 (l0 : Nat) (l1 : Int32) (l2 : Int32) (μ : dtM) : Option dtM :=
  (opGR 12 31 μ l0).bind fun x1 => (opSI μ x1 l1 l2).bind fun μ3 => (opGR 12 32 μ3 l0).bind fun x5 => (opGR 12 30 μ3 l0).bind fun x7 => (opLI 1 μ3 x7 l1).bind fun x9 => (opSI μ3 x5 l1 x9).bind fun μ11 => some μ11
set_option maxRecDepth 100000 in
def f_X12_settles_50  (μ : dtM) : Option dtM :=
  some μ
set_option maxRecDepth 100000 in
def f_X12_settles_15 (l0 : Nat) (l1 : Int32) (l2 : Int32) (s0 : Int32) (μ : dtM) : Option dtM :=
  if s0 = 0 then ((opRem l1 (2 : Int32)).bind fun x4 => if x4 = (1 : Int32) then ((opGR 12 31 μ l0).bind fun x16 => (opLI 1 μ x16 l1).bind fun x18 => if x18 < l2 then (f_X12_settles_51 l0 l1 l2 μ) else (f_X12_settles_50 μ)) else ((opGR 12 31 μ l0).bind fun x9 => (opLI 1 μ x9 l1).bind fun x11 => if l2 < x11 then (f_X12_settles_51 l0 l1 l2 μ) else (f_X12_settles_50 μ))) else (f_X12_settles_51 l0 l1 l2 μ)
set_option maxRecDepth 100000 in
def f_X12_settles (p0 : Nat) (p1 : Int32) (p2 : Int32) (μ : dtM) : Option dtM :=
  (opGR 12 32 μ p0).bind fun x1 => (opLI 1 μ x1 p1).bind fun x3 => if x3 = (-1 : Int32) then (f_X12_settles_15 p0 p1 p2 (1 : Int32) μ) else (f_X12_settles_15 p0 p1 p2 (0 : Int32) μ)
set_option maxRecDepth 100000 in
theorem c_X12_settles_51 {F : dtM} (l0 : Nat) (l1 : Int32) (l2 : Int32) (μ : dtM) (h : f_X12_settles_51 l0 l1 l2 μ = some F) : dtW yX12_settles cX12_settles 4 (none) 1 (none) F 51 [some (.ref l0), some (.int l1), some (.int l2)] [] μ := by
  rw [f_X12_settles_51] at h
  refine dr_aload_n l0 dX12_settles_51 rfl ?_
  obtain ⟨x1, e2, h⟩ := dtBind h
  refine dr_getR x1 dX12_settles_52 fl_RX12_65 e2 ?_
  refine dr_iload_n l1 dX12_settles_55 rfl ?_
  refine dr_iload_n l2 dX12_settles_56 rfl ?_
  obtain ⟨μ3, e4, h⟩ := dtBind h
  refine dr_iastore μ3 dX12_settles_57 e4 ?_
  refine dr_aload_n l0 dX12_settles_58 rfl ?_
  obtain ⟨x5, e6, h⟩ := dtBind h
  refine dr_getR x5 dX12_settles_59 fl_RX12_68 e6 ?_
  refine dr_iload_n l1 dX12_settles_62 rfl ?_
  refine dr_aload_n l0 dX12_settles_63 rfl ?_
  obtain ⟨x7, e8, h⟩ := dtBind h
  refine dr_getR x7 dX12_settles_64 fl_RX12_62 e8 ?_
  refine dr_iload_n l1 dX12_settles_67 rfl ?_
  obtain ⟨x9, e10, h⟩ := dtBind h
  refine dr_iaload x9 dX12_settles_68 e10 ?_
  obtain ⟨μ11, e12, h⟩ := dtBind h
  refine dr_iastore μ11 dX12_settles_69 e12 ?_
  cases h
  exact dr_return dX12_settles_70
set_option maxRecDepth 100000 in
theorem c_X12_settles_50 {F : dtM}  (μ : dtM) (h : f_X12_settles_50  μ = some F) : dtW yX12_settles cX12_settles 4 (none) 1 (none) F 50 [] [] μ := by
  rw [f_X12_settles_50] at h
  cases h
  exact dr_return dX12_settles_50
set_option maxRecDepth 100000 in
theorem c_X12_settles_15 {F : dtM} (l0 : Nat) (l1 : Int32) (l2 : Int32) (s0 : Int32) (μ : dtM) (h : f_X12_settles_15 l0 l1 l2 s0 μ = some F) : dtW yX12_settles cX12_settles 4 (none) 1 (none) F 15 [some (.ref l0), some (.int l1), some (.int l2)] [.int s0] μ := by
  rw [f_X12_settles_15] at h
  refine dr_istore_n 3 [some (.ref l0), some (.int l1), some (.int l2), some (.int s0)] dX12_settles_15 rfl rfl rfl rfl ?_
  refine dr_iload_n s0 dX12_settles_16 rfl ?_
  obtain ⟨ht2, hf3⟩ := dtIte h
  refine dr_if_ne 51 dX12_settles_17 (by decide) (fun hc1 => ?_) (fun hc1 => ?_)
  · have h := hf3 hc1
    refine dr_mask [true, true, true] [some (.ref l0), some (.int l1), some (.int l2)] rfl ?_
    exact c_X12_settles_51 l0 l1 l2 μ h
  · have h := ht2 hc1
    refine dr_iload_n l1 dX12_settles_20 rfl ?_
    refine dr_iconst (2 : Int32) dX12_settles_21 (by decide) ?_
    obtain ⟨x4, e5, h⟩ := dtBind h
    refine dr_irem_n x4 dX12_settles_22 e5 ?_
    refine dr_iconst (1 : Int32) dX12_settles_23 (by decide) ?_
    obtain ⟨ht7, hf8⟩ := dtIte h
    refine dr_icmp_ne 40 dX12_settles_24 (by decide) (fun hc6 => ?_) (fun hc6 => ?_)
    · have h := hf8 hc6
      refine dr_iload_n l2 dX12_settles_40 rfl ?_
      refine dr_aload_n l0 dX12_settles_41 rfl ?_
      obtain ⟨x9, e10, h⟩ := dtBind h
      refine dr_getR x9 dX12_settles_42 fl_RX12_65 e10 ?_
      refine dr_iload_n l1 dX12_settles_45 rfl ?_
      obtain ⟨x11, e12, h⟩ := dtBind h
      refine dr_iaload x11 dX12_settles_46 e12 ?_
      obtain ⟨ht14, hf15⟩ := dtIte h
      refine dr_icmp_lt 51 dX12_settles_47 (by decide) (fun hc13 => ?_) (fun hc13 => ?_)
      · have h := ht14 hc13
        refine dr_mask [true, true, true] [some (.ref l0), some (.int l1), some (.int l2)] rfl ?_
        exact c_X12_settles_51 l0 l1 l2 μ h
      · have h := hf15 hc13
        refine dr_mask [] [] rfl ?_
        exact c_X12_settles_50 μ h
    · have h := ht7 hc6
      refine dr_iload_n l2 dX12_settles_27 rfl ?_
      refine dr_aload_n l0 dX12_settles_28 rfl ?_
      obtain ⟨x16, e17, h⟩ := dtBind h
      refine dr_getR x16 dX12_settles_29 fl_RX12_65 e17 ?_
      refine dr_iload_n l1 dX12_settles_32 rfl ?_
      obtain ⟨x18, e19, h⟩ := dtBind h
      refine dr_iaload x18 dX12_settles_33 e19 ?_
      obtain ⟨ht21, hf22⟩ := dtIte h
      refine dr_icmp_gt 51 dX12_settles_34 (by decide) (fun hc20 => ?_) (fun hc20 => ?_)
      · have h := ht21 hc20
        refine dr_mask [true, true, true] [some (.ref l0), some (.int l1), some (.int l2)] rfl ?_
        exact c_X12_settles_51 l0 l1 l2 μ h
      · have h := hf22 hc20
        refine dr_goto 50 dX12_settles_37 (by decide) ?_
        refine dr_mask [] [] rfl ?_
        exact c_X12_settles_50 μ h
set_option maxRecDepth 100000 in
theorem c_X12_settles {F : dtM} (p0 : Nat) (p1 : Int32) (p2 : Int32) (μ : dtM) (h : f_X12_settles p0 p1 p2 μ = some F) : dtMet yX12_settles cX12_settles 4 (none) 1 [.ref p0, .int p1, .int p2] μ (none) F := by
  refine dtMet.of (by decide +kernel) (Nat.le_of_ble_eq_true rfl) (show dtW yX12_settles cX12_settles 4 (none) 1 (none) F 0 [some (.ref p0), some (.int p1), some (.int p2)] [] μ from ?_)
  rw [f_X12_settles] at h
  refine dr_aload_n p0 dX12_settles_0 rfl ?_
  obtain ⟨x1, e2, h⟩ := dtBind h
  refine dr_getR x1 dX12_settles_1 fl_RX12_68 e2 ?_
  refine dr_iload_n p1 dX12_settles_4 rfl ?_
  obtain ⟨x3, e4, h⟩ := dtBind h
  refine dr_iaload x3 dX12_settles_5 e4 ?_
  refine dr_iconst (-1 : Int32) dX12_settles_6 (by decide) ?_
  obtain ⟨ht6, hf7⟩ := dtIte h
  refine dr_icmp_ne 14 dX12_settles_7 (by decide) (fun hc5 => ?_) (fun hc5 => ?_)
  · have h := hf7 hc5
    refine dr_iconst (0 : Int32) dX12_settles_14 (by decide) ?_
    exact c_X12_settles_15 p0 p1 p2 (0 : Int32) μ h
  · have h := ht6 hc5
    refine dr_iconst (1 : Int32) dX12_settles_10 (by decide) ?_
    refine dr_goto 15 dX12_settles_11 (by decide) ?_
    exact c_X12_settles_15 p0 p1 p2 (1 : Int32) μ h
/-! X12_roomsBy -/
theorem dX12_roomsBy_0 : decode cX12_roomsBy 0 = .ok (.aload_n 0, 1) := by decide +kernel
theorem dX12_roomsBy_1 : decode cX12_roomsBy 1 = .ok (.iconst 1, 1) := by decide +kernel
theorem dX12_roomsBy_2 : decode cX12_roomsBy 2 = .ok (.aload_n 0, 1) := by decide +kernel
theorem dX12_roomsBy_3 : decode cX12_roomsBy 3 = .ok (.iload_n 1, 1) := by decide +kernel
theorem dX12_roomsBy_4 : decode cX12_roomsBy 4 = .ok (.iconst 0, 1) := by decide +kernel
theorem dX12_roomsBy_5 : decode cX12_roomsBy 5 = .ok (.invokevirtual 295, 3) := by decide +kernel
theorem dX12_roomsBy_8 : decode cX12_roomsBy 8 = .ok (.ishl, 1) := by decide +kernel
theorem dX12_roomsBy_9 : decode cX12_roomsBy 9 = .ok (.iload_n 2, 1) := by decide +kernel
theorem dX12_roomsBy_10 : decode cX12_roomsBy 10 = .ok (.invokevirtual 334, 3) := by decide +kernel
theorem dX12_roomsBy_13 : decode cX12_roomsBy 13 = .ok (.invokestatic 355, 3) := by decide +kernel
theorem dX12_roomsBy_16 : decode cX12_roomsBy 16 = .ok (.ireturn, 1) := by decide +kernel
set_option maxRecDepth 100000 in
def f_X12_roomsBy (p0 : Nat) (p1 : Int32) (p2 : Int32) (μ : dtM) : Option (Int32 × dtM) :=
  (opRv 12 μ p0).bind fun _ => opCall (f_X12_personOf p0 p1 (0 : Int32) μ) fun x4 μ2 => (opRv 12 μ2 p0).bind fun _ => opCall (f_X12_reaches p0 ((1 : Int32) <<< (x4 &&& 31)) p2 μ2) fun x8 μ6 => opCall (f_X12_bits x8 μ6) fun x11 μ9 => some (x11, μ9)
set_option maxRecDepth 100000 in
theorem c_X12_roomsBy {r : Int32} {F : dtM} (p0 : Nat) (p1 : Int32) (p2 : Int32) (μ : dtM) (h : f_X12_roomsBy p0 p1 p2 μ = some (r, F)) : dtMet yX12_roomsBy cX12_roomsBy 3 (some .int) 4 [.ref p0, .int p1, .int p2] μ (some (.int r)) F := by
  refine dtMet.of (by decide +kernel) (Nat.le_of_ble_eq_true rfl) (show dtW yX12_roomsBy cX12_roomsBy 3 (some .int) 4 (some (.int r)) F 0 [some (.ref p0), some (.int p1), some (.int p2)] [] μ from ?_)
  rw [f_X12_roomsBy] at h
  refine dr_aload_n p0 dX12_roomsBy_0 rfl ?_
  refine dr_iconst (1 : Int32) dX12_roomsBy_1 (by decide) ?_
  refine dr_aload_n p0 dX12_roomsBy_2 rfl ?_
  refine dr_iload_n p1 dX12_roomsBy_3 rfl ?_
  refine dr_iconst (0 : Int32) dX12_roomsBy_4 (by decide) ?_
  obtain ⟨_, hb1, h⟩ := dtBind h
  obtain ⟨x4, μ2, e3, h⟩ := dtCall h
  refine dr_callV_i (S0 := [.int (1 : Int32), .ref p0]) [.int p1, .int (0 : Int32)] x4 μ2 dX12_roomsBy_5 (c_X12_personOf p0 p1 (0 : Int32) μ e3) mf_X12_personOf wt_1736 ws_96 wt_1734 rfl (dtRv hb1) (by decide) rfl (Nat.le_of_ble_eq_true rfl) (Nat.le_of_ble_eq_true rfl) rfl ?_
  refine dr_ishl dX12_roomsBy_8 ?_
  refine dr_iload_n p2 dX12_roomsBy_9 rfl ?_
  obtain ⟨_, hb5, h⟩ := dtBind h
  obtain ⟨x8, μ6, e7, h⟩ := dtCall h
  refine dr_callV_i (S0 := []) [.int ((1 : Int32) <<< (x4 &&& 31)), .int p2] x8 μ6 dX12_roomsBy_10 (c_X12_reaches p0 ((1 : Int32) <<< (x4 &&& 31)) p2 μ2 e7) mf_X12_reaches wt_1791 ws_102 wt_1789 rfl (dtRv hb5) (by decide) rfl (Nat.le_of_ble_eq_true rfl) (Nat.le_of_ble_eq_true rfl) rfl ?_
  obtain ⟨x11, μ9, e10, h⟩ := dtCall h
  refine dr_callS_i (S0 := []) [.int x8] x11 μ9 dX12_roomsBy_13 (c_X12_bits x8 μ6 e10) mf_X12_bits wt_1826 wt_1825 rfl (Nat.le_of_ble_eq_true rfl) (Nat.le_of_ble_eq_true rfl) rfl ?_
  cases h
  exact dr_ireturn dX12_roomsBy_16 rfl
