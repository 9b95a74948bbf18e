/-! X11_write -/
theorem dX11_write_0 : decode cX11_write 0 = .ok (.aload_n 0, 1) := by decide +kernel
theorem dX11_write_1 : decode cX11_write 1 = .ok (.iload_n 1, 1) := by decide +kernel
theorem dX11_write_2 : decode cX11_write 2 = .ok (.iload_n 2, 1) := by decide +kernel
theorem dX11_write_3 : decode cX11_write 3 = .ok (.invokevirtual 130, 3) := by decide +kernel
theorem dX11_write_6 : decode cX11_write 6 = .ok (.istore 5, 2) := by decide +kernel
theorem dX11_write_8 : decode cX11_write 8 = .ok (.iload 5, 2) := by decide +kernel
theorem dX11_write_10 : decode cX11_write 10 = .ok (.ifCond .eq 10, 3) := by decide +kernel
theorem dX11_write_13 : decode cX11_write 13 = .ok (.aload_n 0, 1) := by decide +kernel
theorem dX11_write_14 : decode cX11_write 14 = .ok (.iload 5, 2) := by decide +kernel
theorem dX11_write_16 : decode cX11_write 16 = .ok (.invokevirtual 119, 3) := by decide +kernel
theorem dX11_write_19 : decode cX11_write 19 = .ok (.ireturn, 1) := by decide +kernel
theorem dX11_write_20 : decode cX11_write 20 = .ok (.aload_n 0, 1) := by decide +kernel
theorem dX11_write_21 : decode cX11_write 21 = .ok (.getfield 22, 3) := by decide +kernel
theorem dX11_write_24 : decode cX11_write 24 = .ok (.iload_n 1, 1) := by decide +kernel
theorem dX11_write_25 : decode cX11_write 25 = .ok (.aaload, 1) := by decide +kernel
theorem dX11_write_26 : decode cX11_write 26 = .ok (.iload_n 2, 1) := by decide +kernel
theorem dX11_write_27 : decode cX11_write 27 = .ok (.lload_n 3, 1) := by decide +kernel
theorem dX11_write_28 : decode cX11_write 28 = .ok (.invokevirtual 134, 3) := by decide +kernel
theorem dX11_write_31 : decode cX11_write 31 = .ok (.aload_n 0, 1) := by decide +kernel
theorem dX11_write_32 : decode cX11_write 32 = .ok (.invokevirtual 126, 3) := by decide +kernel
theorem dX11_write_35 : decode cX11_write 35 = .ok (.ireturn, 1) := by decide +kernel
set_option maxRecDepth 100000 in
def f_X11_write (p0 : Nat) (p1 : Int32) (p2 : Int32) (p3 : Int64) (μ : dtM) : Option (Int32 × dtM) :=
  (opRv 11 μ p0).bind fun _ => opCall (f_X11_placeStatus p0 p1 p2 μ) fun x4 μ2 => if x4 = 0 then ((opGR 11 3 μ2 p0).bind fun x8 => (opLR 4 μ2 x8 p1).bind fun x10 => (opRv 9 μ2 x10).bind fun _ => (f_X9_put x10 p2 p3 μ2).bind fun μ13 => (opRv 11 μ13 p0).bind fun _ => opCall (f_X11_agree p0 μ13) fun x18 μ16 => opRet x18 μ16) else ((opRv 11 μ2 p0).bind fun _ => opCall (f_X11_refuse p0 x4 μ2) fun x22 μ20 => opRet x22 μ20)
set_option maxRecDepth 100000 in
theorem c_X11_write {r : Int32} {F : dtM} (p0 : Nat) (p1 : Int32) (p2 : Int32) (p3 : Int64) (μ : dtM) (h : f_X11_write p0 p1 p2 p3 μ = some (r, F)) : dtMet yX11_write cX11_write 6 (some .boolean) 4 [.ref p0, .int p1, .int p2, .long p3] μ (some (.int r)) F := by
  refine dtMet.of (by decide +kernel) (Nat.le_of_ble_eq_true rfl) (show dtW yX11_write cX11_write 6 (some .boolean) 4 (some (.int r)) F 0 [some (.ref p0), some (.int p1), some (.int p2), some (.long p3), none] [] μ from ?_)
  rw [f_X11_write] at h
  refine dr_aload_n p0 dX11_write_0 rfl ?_
  refine dr_iload_n p1 dX11_write_1 rfl ?_
  refine dr_iload_n p2 dX11_write_2 rfl ?_
  obtain ⟨_, hb1, h⟩ := dtBind h
  obtain ⟨x4, μ2, e3, h⟩ := dtCall h
  refine dr_callV_i (S0 := []) [.int p1, .int p2] x4 μ2 dX11_write_3 (c_X11_placeStatus p0 p1 p2 μ e3) mf_X11_placeStatus wt_498 ws_2 wt_496 rfl (dtRv hb1) (by decide) rfl (Nat.le_of_ble_eq_true rfl) (Nat.le_of_ble_eq_true rfl) rfl ?_
  refine dr_istore [some (.ref p0), some (.int p1), some (.int p2), some (.long p3), none, some (.int x4)] dX11_write_6 rfl rfl rfl ?_
  refine dr_iload x4 dX11_write_8 rfl ?_
  obtain ⟨ht6, hf7⟩ := dtIte h
  refine dr_if_eq 20 dX11_write_10 (by decide) (fun hc5 => ?_) (fun hc5 => ?_)
  · have h := ht6 hc5
    refine dr_aload_n p0 dX11_write_20 rfl ?_
    obtain ⟨x8, e9, h⟩ := dtBind h
    refine dr_getR x8 dX11_write_21 fl_RX11_22 e9 ?_
    refine dr_iload_n p1 dX11_write_24 rfl ?_
    obtain ⟨x10, e11, h⟩ := dtBind h
    refine dr_aaload4 x10 dX11_write_25 e11 ?_
    refine dr_iload_n p2 dX11_write_26 rfl ?_
    refine dr_lload_n p3 dX11_write_27 rfl ?_
    obtain ⟨_, hb12, h⟩ := dtBind h
    obtain ⟨μ13, e14, h⟩ := dtBind h
    refine dr_callV_v (S0 := []) [.int p2, .long p3] μ13 dX11_write_28 (c_X9_put x10 p2 p3 μ2 e14) mf_X9_put wt_501 wt_502 wt_500 rfl (dtRv hb12) (by decide) rfl (Nat.le_of_ble_eq_true rfl) (Nat.le_of_ble_eq_true rfl) rfl ?_
    refine dr_aload_n p0 dX11_write_31 rfl ?_
    obtain ⟨_, hb15, h⟩ := dtBind h
    obtain ⟨x18, μ16, e17, h⟩ := dtCall h
    refine dr_callV_i (S0 := []) [] x18 μ16 dX11_write_32 (c_X11_agree p0 μ13 e17) mf_X11_agree wt_490 ws_1 wt_488 rfl (dtRv hb15) (by decide) rfl (Nat.le_of_ble_eq_true rfl) (Nat.le_of_ble_eq_true rfl) rfl ?_
    obtain ⟨hz, rfl, rfl⟩ := dtRet h
    exact dr_ireturn dX11_write_35 (dtNz hz)
  · have h := hf7 hc5
    refine dr_aload_n p0 dX11_write_13 rfl ?_
    refine dr_iload x4 dX11_write_14 rfl ?_
    obtain ⟨_, hb19, h⟩ := dtBind h
    obtain ⟨x22, μ20, e21, h⟩ := dtCall h
    refine dr_callV_i (S0 := []) [.int x4] x22 μ20 dX11_write_16 (c_X11_refuse p0 x4 μ2 e21) mf_X11_refuse wt_482 ws_0 wt_480 rfl (dtRv hb19) (by decide) rfl (Nat.le_of_ble_eq_true rfl) (Nat.le_of_ble_eq_true rfl) rfl ?_
    obtain ⟨hz, rfl, rfl⟩ := dtRet h
    exact dr_ireturn dX11_write_19 (dtNz hz)
/-! X11_fail -/
theorem dX11_fail_0 : decode cX11_fail 0 = .ok (.aload_n 0, 1) := by decide +kernel
theorem dX11_fail_1 : decode cX11_fail 1 = .ok (.iload_n 1, 1) := by decide +kernel
theorem dX11_fail_2 : decode cX11_fail 2 = .ok (.putfield 7, 3) := by decide +kernel
theorem dX11_fail_5 : decode cX11_fail 5 = .ok (.iconst (-1), 1) := by decide +kernel
theorem dX11_fail_6 : decode cX11_fail 6 = .ok (.ireturn, 1) := by decide +kernel
set_option maxRecDepth 100000 in
def f_X11_fail (p0 : Nat) (p1 : Int32) (μ : dtM) : Option (Int32 × dtM) :=
  (opPI 11 0 μ p0 p1).bind fun μ1 => some ((-1 : Int32), μ1)
set_option maxRecDepth 100000 in
theorem c_X11_fail {r : Int32} {F : dtM} (p0 : Nat) (p1 : Int32) (μ : dtM) (h : f_X11_fail p0 p1 μ = some (r, F)) : dtMet yX11_fail cX11_fail 2 (some .int) 1 [.ref p0, .int p1] μ (some (.int r)) F := by
  refine dtMet.of (by decide +kernel) (Nat.le_of_ble_eq_true rfl) (show dtW yX11_fail cX11_fail 2 (some .int) 1 (some (.int r)) F 0 [some (.ref p0), some (.int p1)] [] μ from ?_)
  rw [f_X11_fail] at h
  refine dr_aload_n p0 dX11_fail_0 rfl ?_
  refine dr_iload_n p1 dX11_fail_1 rfl ?_
  obtain ⟨μ1, e2, h⟩ := dtBind h
  refine dr_putI μ1 dX11_fail_2 fl_RX11_7 rfl e2 ?_
  refine dr_iconst (-1 : Int32) dX11_fail_5 (by decide) ?_
  cases h
  exact dr_ireturn dX11_fail_6 rfl
/-! X11_read -/
theorem dX11_read_0 : decode cX11_read 0 = .ok (.aload_n 0, 1) := by decide +kernel
theorem dX11_read_1 : decode cX11_read 1 = .ok (.iload_n 1, 1) := by decide +kernel
theorem dX11_read_2 : decode cX11_read 2 = .ok (.iload_n 2, 1) := by decide +kernel
theorem dX11_read_3 : decode cX11_read 3 = .ok (.invokevirtual 130, 3) := by decide +kernel
theorem dX11_read_6 : decode cX11_read 6 = .ok (.istore_n 3, 1) := by decide +kernel
theorem dX11_read_7 : decode cX11_read 7 = .ok (.iload_n 3, 1) := by decide +kernel
theorem dX11_read_8 : decode cX11_read 8 = .ok (.ifCond .eq 10, 3) := by decide +kernel
theorem dX11_read_11 : decode cX11_read 11 = .ok (.aload_n 0, 1) := by decide +kernel
theorem dX11_read_12 : decode cX11_read 12 = .ok (.iload_n 3, 1) := by decide +kernel
theorem dX11_read_13 : decode cX11_read 13 = .ok (.invokevirtual 138, 3) := by decide +kernel
theorem dX11_read_16 : decode cX11_read 16 = .ok (.i2l, 1) := by decide +kernel
theorem dX11_read_17 : decode cX11_read 17 = .ok (.lreturn, 1) := by decide +kernel
theorem dX11_read_18 : decode cX11_read 18 = .ok (.aload_n 0, 1) := by decide +kernel
theorem dX11_read_19 : decode cX11_read 19 = .ok (.iconst 0, 1) := by decide +kernel
theorem dX11_read_20 : decode cX11_read 20 = .ok (.putfield 7, 3) := by decide +kernel
theorem dX11_read_23 : decode cX11_read 23 = .ok (.aload_n 0, 1) := by decide +kernel
theorem dX11_read_24 : decode cX11_read 24 = .ok (.getfield 22, 3) := by decide +kernel
theorem dX11_read_27 : decode cX11_read 27 = .ok (.iload_n 1, 1) := by decide +kernel
theorem dX11_read_28 : decode cX11_read 28 = .ok (.aaload, 1) := by decide +kernel
theorem dX11_read_29 : decode cX11_read 29 = .ok (.getfield 142, 3) := by decide +kernel
theorem dX11_read_32 : decode cX11_read 32 = .ok (.iload_n 2, 1) := by decide +kernel
theorem dX11_read_33 : decode cX11_read 33 = .ok (.laload, 1) := by decide +kernel
theorem dX11_read_34 : decode cX11_read 34 = .ok (.lreturn, 1) := by decide +kernel
set_option maxRecDepth 100000 in
def f_X11_read (p0 : Nat) (p1 : Int32) (p2 : Int32) (μ : dtM) : Option (Int64 × dtM) :=
  (opRv 11 μ p0).bind fun _ => opCall (f_X11_placeStatus p0 p1 p2 μ) fun x4 μ2 => if x4 = 0 then ((opPI 11 0 μ2 p0 (0 : Int32)).bind fun μ8 => (opGR 11 3 μ8 p0).bind fun x10 => (opLR 4 μ8 x10 p1).bind fun x12 => (opGR 9 3 μ8 x12).bind fun x14 => (opLJ 3 μ8 x14 p2).bind fun x16 => some (x16, μ8)) else ((opRv 11 μ2 p0).bind fun _ => opCall (f_X11_fail p0 x4 μ2) fun x21 μ19 => some ((x21.toInt64), μ19))
set_option maxRecDepth 100000 in
theorem c_X11_read {r : Int64} {F : dtM} (p0 : Nat) (p1 : Int32) (p2 : Int32) (μ : dtM) (h : f_X11_read p0 p1 p2 μ = some (r, F)) : dtMet yX11_read cX11_read 4 (some .long) 4 [.ref p0, .int p1, .int p2] μ (some (.long r)) F := by
  refine dtMet.of (by decide +kernel) (Nat.le_of_ble_eq_true rfl) (show dtW yX11_read cX11_read 4 (some .long) 4 (some (.long r)) F 0 [some (.ref p0), some (.int p1), some (.int p2)] [] μ from ?_)
  rw [f_X11_read] at h
  refine dr_aload_n p0 dX11_read_0 rfl ?_
  refine dr_iload_n p1 dX11_read_1 rfl ?_
  refine dr_iload_n p2 dX11_read_2 rfl ?_
  obtain ⟨_, hb1, h⟩ := dtBind h
  obtain ⟨x4, μ2, e3, h⟩ := dtCall h
  refine dr_callV_i (S0 := []) [.int p1, .int p2] x4 μ2 dX11_read_3 (c_X11_placeStatus p0 p1 p2 μ e3) mf_X11_placeStatus wt_498 ws_2 wt_496 rfl (dtRv hb1) (by decide) rfl (Nat.le_of_ble_eq_true rfl) (Nat.le_of_ble_eq_true rfl) rfl ?_
  refine dr_istore_n 3 [some (.ref p0), some (.int p1), some (.int p2), some (.int x4)] dX11_read_6 rfl rfl rfl rfl ?_
  refine dr_iload_n x4 dX11_read_7 rfl ?_
  obtain ⟨ht6, hf7⟩ := dtIte h
  refine dr_if_eq 18 dX11_read_8 (by decide) (fun hc5 => ?_) (fun hc5 => ?_)
  · have h := ht6 hc5
    refine dr_aload_n p0 dX11_read_18 rfl ?_
    refine dr_iconst (0 : Int32) dX11_read_19 (by decide) ?_
    obtain ⟨μ8, e9, h⟩ := dtBind h
    refine dr_putI μ8 dX11_read_20 fl_RX11_7 rfl e9 ?_
    refine dr_aload_n p0 dX11_read_23 rfl ?_
    obtain ⟨x10, e11, h⟩ := dtBind h
    refine dr_getR x10 dX11_read_24 fl_RX11_22 e11 ?_
    refine dr_iload_n p1 dX11_read_27 rfl ?_
    obtain ⟨x12, e13, h⟩ := dtBind h
    refine dr_aaload4 x12 dX11_read_28 e13 ?_
    obtain ⟨x14, e15, h⟩ := dtBind h
    refine dr_getR x14 dX11_read_29 fl_RX11_142 e15 ?_
    refine dr_iload_n p2 dX11_read_32 rfl ?_
    obtain ⟨x16, e17, h⟩ := dtBind h
    refine dr_laload x16 dX11_read_33 e17 ?_
    cases h
    exact dr_lreturn dX11_read_34
  · have h := hf7 hc5
    refine dr_aload_n p0 dX11_read_11 rfl ?_
    refine dr_iload_n x4 dX11_read_12 rfl ?_
    obtain ⟨_, hb18, h⟩ := dtBind h
    obtain ⟨x21, μ19, e20, h⟩ := dtCall h
    refine dr_callV_i (S0 := []) [.int x4] x21 μ19 dX11_read_13 (c_X11_fail p0 x4 μ2 e20) mf_X11_fail wt_510 ws_3 wt_508 rfl (dtRv hb18) (by decide) rfl (Nat.le_of_ble_eq_true rfl) (Nat.le_of_ble_eq_true rfl) rfl ?_
    refine dr_i2l dX11_read_16 ?_
    cases h
    exact dr_lreturn dX11_read_17
/-! X11_pour -/
theorem dX11_pour_0 : decode cX11_pour 0 = .ok (.iload_n 1, 1) := by decide +kernel
theorem dX11_pour_1 : decode cX11_pour 1 = .ok (.invokestatic 111, 3) := by decide +kernel
theorem dX11_pour_4 : decode cX11_pour 4 = .ok (.ifCond .eq 24, 3) := by decide +kernel
theorem dX11_pour_7 : decode cX11_pour 7 = .ok (.iload_n 3, 1) := by decide +kernel
theorem dX11_pour_8 : decode cX11_pour 8 = .ok (.invokestatic 111, 3) := by decide +kernel
theorem dX11_pour_11 : decode cX11_pour 11 = .ok (.ifCond .eq 17, 3) := by decide +kernel
theorem dX11_pour_14 : decode cX11_pour 14 = .ok (.iload_n 2, 1) := by decide +kernel
theorem dX11_pour_15 : decode cX11_pour 15 = .ok (.ifCond .lt 13, 3) := by decide +kernel
theorem dX11_pour_18 : decode cX11_pour 18 = .ok (.iload 4, 2) := by decide +kernel
theorem dX11_pour_20 : decode cX11_pour 20 = .ok (.ifCond .lt 8, 3) := by decide +kernel
theorem dX11_pour_23 : decode cX11_pour 23 = .ok (.iload 5, 2) := by decide +kernel
theorem dX11_pour_25 : decode cX11_pour 25 = .ok (.ifCond .ge 9, 3) := by decide +kernel
theorem dX11_pour_28 : decode cX11_pour 28 = .ok (.aload_n 0, 1) := by decide +kernel
theorem dX11_pour_29 : decode cX11_pour 29 = .ok (.iconst 1, 1) := by decide +kernel
theorem dX11_pour_30 : decode cX11_pour 30 = .ok (.invokevirtual 119, 3) := by decide +kernel
theorem dX11_pour_33 : decode cX11_pour 33 = .ok (.ireturn, 1) := by decide +kernel
theorem dX11_pour_34 : decode cX11_pour 34 = .ok (.aload_n 0, 1) := by decide +kernel
theorem dX11_pour_35 : decode cX11_pour 35 = .ok (.getfield 22, 3) := by decide +kernel
theorem dX11_pour_38 : decode cX11_pour 38 = .ok (.iload_n 1, 1) := by decide +kernel
theorem dX11_pour_39 : decode cX11_pour 39 = .ok (.aaload, 1) := by decide +kernel
theorem dX11_pour_40 : decode cX11_pour 40 = .ok (.astore 6, 2) := by decide +kernel
theorem dX11_pour_42 : decode cX11_pour 42 = .ok (.aload_n 0, 1) := by decide +kernel
theorem dX11_pour_43 : decode cX11_pour 43 = .ok (.getfield 22, 3) := by decide +kernel
theorem dX11_pour_46 : decode cX11_pour 46 = .ok (.iload_n 3, 1) := by decide +kernel
theorem dX11_pour_47 : decode cX11_pour 47 = .ok (.aaload, 1) := by decide +kernel
theorem dX11_pour_48 : decode cX11_pour 48 = .ok (.astore 7, 2) := by decide +kernel
theorem dX11_pour_50 : decode cX11_pour 50 = .ok (.aload 6, 2) := by decide +kernel
theorem dX11_pour_52 : decode cX11_pour 52 = .ok (.getfield 146, 3) := by decide +kernel
theorem dX11_pour_55 : decode cX11_pour 55 = .ok (.ifCond .eq 11, 3) := by decide +kernel
theorem dX11_pour_58 : decode cX11_pour 58 = .ok (.aload 7, 2) := by decide +kernel
theorem dX11_pour_60 : decode cX11_pour 60 = .ok (.getfield 146, 3) := by decide +kernel
theorem dX11_pour_63 : decode cX11_pour 63 = .ok (.ifCond .ne 9, 3) := by decide +kernel
theorem dX11_pour_66 : decode cX11_pour 66 = .ok (.aload_n 0, 1) := by decide +kernel
theorem dX11_pour_67 : decode cX11_pour 67 = .ok (.iconst 2, 1) := by decide +kernel
theorem dX11_pour_68 : decode cX11_pour 68 = .ok (.invokevirtual 119, 3) := by decide +kernel
theorem dX11_pour_71 : decode cX11_pour 71 = .ok (.ireturn, 1) := by decide +kernel
theorem dX11_pour_72 : decode cX11_pour 72 = .ok (.aload 6, 2) := by decide +kernel
theorem dX11_pour_74 : decode cX11_pour 74 = .ok (.getfield 150, 3) := by decide +kernel
theorem dX11_pour_77 : decode cX11_pour 77 = .ok (.aload 7, 2) := by decide +kernel
theorem dX11_pour_79 : decode cX11_pour 79 = .ok (.getfield 150, 3) := by decide +kernel
theorem dX11_pour_82 : decode cX11_pour 82 = .ok (.if_icmp .eq 10, 3) := by decide +kernel
theorem dX11_pour_85 : decode cX11_pour 85 = .ok (.aload_n 0, 1) := by decide +kernel
theorem dX11_pour_86 : decode cX11_pour 86 = .ok (.bipush 8, 2) := by decide +kernel
theorem dX11_pour_88 : decode cX11_pour 88 = .ok (.invokevirtual 119, 3) := by decide +kernel
theorem dX11_pour_91 : decode cX11_pour 91 = .ok (.ireturn, 1) := by decide +kernel
theorem dX11_pour_92 : decode cX11_pour 92 = .ok (.aload 6, 2) := by decide +kernel
theorem dX11_pour_94 : decode cX11_pour 94 = .ok (.iload_n 2, 1) := by decide +kernel
theorem dX11_pour_95 : decode cX11_pour 95 = .ok (.iload 5, 2) := by decide +kernel
theorem dX11_pour_97 : decode cX11_pour 97 = .ok (.invokevirtual 153, 3) := by decide +kernel
theorem dX11_pour_100 : decode cX11_pour 100 = .ok (.ifCond .eq 15, 3) := by decide +kernel
theorem dX11_pour_103 : decode cX11_pour 103 = .ok (.aload 7, 2) := by decide +kernel
theorem dX11_pour_105 : decode cX11_pour 105 = .ok (.iload 4, 2) := by decide +kernel
theorem dX11_pour_107 : decode cX11_pour 107 = .ok (.iload 5, 2) := by decide +kernel
theorem dX11_pour_109 : decode cX11_pour 109 = .ok (.invokevirtual 153, 3) := by decide +kernel
theorem dX11_pour_112 : decode cX11_pour 112 = .ok (.ifCond .ne 9, 3) := by decide +kernel
theorem dX11_pour_115 : decode cX11_pour 115 = .ok (.aload_n 0, 1) := by decide +kernel
theorem dX11_pour_116 : decode cX11_pour 116 = .ok (.iconst 3, 1) := by decide +kernel
theorem dX11_pour_117 : decode cX11_pour 117 = .ok (.invokevirtual 119, 3) := by decide +kernel
theorem dX11_pour_120 : decode cX11_pour 120 = .ok (.ireturn, 1) := by decide +kernel
theorem dX11_pour_121 : decode cX11_pour 121 = .ok (.aload 6, 2) := by decide +kernel
theorem dX11_pour_123 : decode cX11_pour 123 = .ok (.getfield 142, 3) := by decide +kernel
theorem dX11_pour_126 : decode cX11_pour 126 = .ok (.iload_n 2, 1) := by decide +kernel
theorem dX11_pour_127 : decode cX11_pour 127 = .ok (.aload 7, 2) := by decide +kernel
theorem dX11_pour_129 : decode cX11_pour 129 = .ok (.getfield 142, 3) := by decide +kernel
theorem dX11_pour_132 : decode cX11_pour 132 = .ok (.iload 4, 2) := by decide +kernel
theorem dX11_pour_134 : decode cX11_pour 134 = .ok (.iload 5, 2) := by decide +kernel
theorem dX11_pour_136 : decode cX11_pour 136 = .ok (.invokestatic 157, 3) := by decide +kernel
theorem dX11_pour_139 : decode cX11_pour 139 = .ok (.aload_n 0, 1) := by decide +kernel
theorem dX11_pour_140 : decode cX11_pour 140 = .ok (.invokevirtual 126, 3) := by decide +kernel
theorem dX11_pour_143 : decode cX11_pour 143 = .ok (.ireturn, 1) := by decide +kernel
set_option maxRecDepth 100000 in
def f_X11_pour_28 (l0 : Nat) (μ : dtM) : Option (Int32 × dtM) :=
  (opRv 11 μ l0).bind fun _ => opCall (f_X11_refuse l0 (1 : Int32) μ) fun x4 μ2 => opRet x4 μ2
set_option maxRecDepth 100000 in
def f_X11_pour_66 (l0 : Nat) (μ : dtM) : Option (Int32 × dtM) :=
  (opRv 11 μ l0).bind fun _ => opCall (f_X11_refuse l0 (2 : Int32) μ) fun x4 μ2 => opRet x4 μ2
set_option maxRecDepth 100000 in
def f_X11_pour_115 (l0 : Nat) (μ : dtM) : Option (Int32 × dtM) :=
  (opRv 11 μ l0).bind fun _ => opCall (f_X11_refuse l0 (3 : Int32) μ) fun x4 μ2 => opRet x4 μ2
set_option maxRecDepth 100000 in
def f_X11_pour (p0 : Nat) (p1 : Int32) (p2 : Int32) (p3 : Int32) (p4 : Int32) (p5 : Int32) (μ : dtM) : Option (Int32 × dtM) :=
  opCall (f_X11_isTray p1 μ) fun x3 μ1 => if x3 = 0 then (f_X11_pour_28 p0 μ1) else (opCall (f_X11_isTray p3 μ1) fun x9 μ7 => if x9 = 0 then (f_X11_pour_28 p0 μ7) else (if p2 < 0 then (f_X11_pour_28 p0 μ7) else (if p4 < 0 then (f_X11_pour_28 p0 μ7) else (if 0 ≤ p5 then ((opGR 11 3 μ7 p0).bind fun x22 => (opLR 4 μ7 x22 p1).bind fun x24 => (opGR 11 3 μ7 p0).bind fun x26 => (opLR 4 μ7 x26 p3).bind fun x28 => (opGI 9 0 μ7 x24).bind fun x30 => if x30 = 0 then (f_X11_pour_66 p0 μ7) else ((opGI 9 0 μ7 x28).bind fun x35 => if x35 = 0 then (f_X11_pour_66 p0 μ7) else ((opGI 9 1 μ7 x24).bind fun x40 => (opGI 9 1 μ7 x28).bind fun x42 => if x40 = x42 then ((opRv 9 μ7 x24).bind fun _ => opCall (f_X9_hasRun x24 p2 p5 μ7) fun x50 μ48 => if x50 = 0 then (f_X11_pour_115 p0 μ48) else ((opRv 9 μ48 x28).bind fun _ => opCall (f_X9_hasRun x28 p4 p5 μ48) fun x57 μ55 => if x57 = 0 then (f_X11_pour_115 p0 μ55) else ((opGR 9 3 μ55 x24).bind fun x61 => (opGR 9 3 μ55 x28).bind fun x63 => (opCJ μ55 x61 p2 x63 p4 p5).bind fun μ65 => (opRv 11 μ65 p0).bind fun _ => opCall (f_X11_agree p0 μ65) fun x70 μ68 => opRet x70 μ68))) else ((opRv 11 μ7 p0).bind fun _ => opCall (f_X11_refuse p0 (8 : Int32) μ7) fun x74 μ72 => opRet x74 μ72)))) else (f_X11_pour_28 p0 μ7)))))
set_option maxRecDepth 100000 in
theorem c_X11_pour_28 {r : Int32} {F : dtM} (l0 : Nat) (μ : dtM) (h : f_X11_pour_28 l0 μ = some (r, F)) : dtW yX11_pour cX11_pour 8 (some .boolean) 3 (some (.int r)) F 28 [some (.ref l0)] [] μ := by
  rw [f_X11_pour_28] at h
  refine dr_aload_n l0 dX11_pour_28 rfl ?_
  refine dr_iconst (1 : Int32) dX11_pour_29 (by decide) ?_
  obtain ⟨_, hb1, h⟩ := dtBind h
  obtain ⟨x4, μ2, e3, h⟩ := dtCall h
  refine dr_callV_i (S0 := []) [.int (1 : Int32)] x4 μ2 dX11_pour_30 (c_X11_refuse l0 (1 : Int32) μ e3) mf_X11_refuse wt_482 ws_0 wt_480 rfl (dtRv hb1) (by decide) rfl (Nat.le_of_ble_eq_true rfl) (Nat.le_of_ble_eq_true rfl) rfl ?_
  obtain ⟨hz, rfl, rfl⟩ := dtRet h
  exact dr_ireturn dX11_pour_33 (dtNz hz)
set_option maxRecDepth 100000 in
theorem c_X11_pour_66 {r : Int32} {F : dtM} (l0 : Nat) (μ : dtM) (h : f_X11_pour_66 l0 μ = some (r, F)) : dtW yX11_pour cX11_pour 8 (some .boolean) 3 (some (.int r)) F 66 [some (.ref l0)] [] μ := by
  rw [f_X11_pour_66] at h
  refine dr_aload_n l0 dX11_pour_66 rfl ?_
  refine dr_iconst (2 : Int32) dX11_pour_67 (by decide) ?_
  obtain ⟨_, hb1, h⟩ := dtBind h
  obtain ⟨x4, μ2, e3, h⟩ := dtCall h
  refine dr_callV_i (S0 := []) [.int (2 : Int32)] x4 μ2 dX11_pour_68 (c_X11_refuse l0 (2 : Int32) μ e3) mf_X11_refuse wt_482 ws_0 wt_480 rfl (dtRv hb1) (by decide) rfl (Nat.le_of_ble_eq_true rfl) (Nat.le_of_ble_eq_true rfl) rfl ?_
  obtain ⟨hz, rfl, rfl⟩ := dtRet h
  exact dr_ireturn dX11_pour_71 (dtNz hz)
set_option maxRecDepth 100000 in
theorem c_X11_pour_115 {r : Int32} {F : dtM} (l0 : Nat) (μ : dtM) (h : f_X11_pour_115 l0 μ = some (r, F)) : dtW yX11_pour cX11_pour 8 (some .boolean) 3 (some (.int r)) F 115 [some (.ref l0)] [] μ := by
  rw [f_X11_pour_115] at h
  refine dr_aload_n l0 dX11_pour_115 rfl ?_
  refine dr_iconst (3 : Int32) dX11_pour_116 (by decide) ?_
  obtain ⟨_, hb1, h⟩ := dtBind h
  obtain ⟨x4, μ2, e3, h⟩ := dtCall h
  refine dr_callV_i (S0 := []) [.int (3 : Int32)] x4 μ2 dX11_pour_117 (c_X11_refuse l0 (3 : Int32) μ e3) mf_X11_refuse wt_482 ws_0 wt_480 rfl (dtRv hb1) (by decide) rfl (Nat.le_of_ble_eq_true rfl) (Nat.le_of_ble_eq_true rfl) rfl ?_
  obtain ⟨hz, rfl, rfl⟩ := dtRet h
  exact dr_ireturn dX11_pour_120 (dtNz hz)
set_option maxRecDepth 100000 in
theorem c_X11_pour {r : Int32} {F : dtM} (p0 : Nat) (p1 : Int32) (p2 : Int32) (p3 : Int32) (p4 : Int32) (p5 : Int32) (μ : dtM) (h : f_X11_pour p0 p1 p2 p3 p4 p5 μ = some (r, F)) : dtMet yX11_pour cX11_pour 8 (some .boolean) 3 [.ref p0, .int p1, .int p2, .int p3, .int p4, .int p5] μ (some (.int r)) F := by
  refine dtMet.of (by decide +kernel) (Nat.le_of_ble_eq_true rfl) (show dtW yX11_pour cX11_pour 8 (some .boolean) 3 (some (.int r)) F 0 [some (.ref p0), some (.int p1), some (.int p2), some (.int p3), some (.int p4), some (.int p5)] [] μ from ?_)
  rw [f_X11_pour] at h
  refine dr_iload_n p1 dX11_pour_0 rfl ?_
  obtain ⟨x3, μ1, e2, h⟩ := dtCall h
  refine dr_callS_i (S0 := []) [.int p1] x3 μ1 dX11_pour_1 (c_X11_isTray p1 μ e2) mf_X11_isTray wt_475 wt_474 rfl (Nat.le_of_ble_eq_true rfl) (Nat.le_of_ble_eq_true rfl) rfl ?_
  obtain ⟨ht5, hf6⟩ := dtIte h
  refine dr_if_eq 28 dX11_pour_4 (by decide) (fun hc4 => ?_) (fun hc4 => ?_)
  · have h := ht5 hc4
    refine dr_mask [true] [some (.ref p0)] rfl ?_
    exact c_X11_pour_28 p0 μ1 h
  · have h := hf6 hc4
    refine dr_iload_n p3 dX11_pour_7 rfl ?_
    obtain ⟨x9, μ7, e8, h⟩ := dtCall h
    refine dr_callS_i (S0 := []) [.int p3] x9 μ7 dX11_pour_8 (c_X11_isTray p3 μ1 e8) mf_X11_isTray wt_475 wt_474 rfl (Nat.le_of_ble_eq_true rfl) (Nat.le_of_ble_eq_true rfl) rfl ?_
    obtain ⟨ht11, hf12⟩ := dtIte h
    refine dr_if_eq 28 dX11_pour_11 (by decide) (fun hc10 => ?_) (fun hc10 => ?_)
    · have h := ht11 hc10
      refine dr_mask [true] [some (.ref p0)] rfl ?_
      exact c_X11_pour_28 p0 μ7 h
    · have h := hf12 hc10
      refine dr_iload_n p2 dX11_pour_14 rfl ?_
      obtain ⟨ht14, hf15⟩ := dtIte h
      refine dr_if_lt 28 dX11_pour_15 (by decide) (fun hc13 => ?_) (fun hc13 => ?_)
      · have h := ht14 hc13
        refine dr_mask [true] [some (.ref p0)] rfl ?_
        exact c_X11_pour_28 p0 μ7 h
      · have h := hf15 hc13
        refine dr_iload p4 dX11_pour_18 rfl ?_
        obtain ⟨ht17, hf18⟩ := dtIte h
        refine dr_if_lt 28 dX11_pour_20 (by decide) (fun hc16 => ?_) (fun hc16 => ?_)
        · have h := ht17 hc16
          refine dr_mask [true] [some (.ref p0)] rfl ?_
          exact c_X11_pour_28 p0 μ7 h
        · have h := hf18 hc16
          refine dr_iload p5 dX11_pour_23 rfl ?_
          obtain ⟨ht20, hf21⟩ := dtIte h
          refine dr_if_ge 34 dX11_pour_25 (by decide) (fun hc19 => ?_) (fun hc19 => ?_)
          · have h := ht20 hc19
            refine dr_aload_n p0 dX11_pour_34 rfl ?_
            obtain ⟨x22, e23, h⟩ := dtBind h
            refine dr_getR x22 dX11_pour_35 fl_RX11_22 e23 ?_
            refine dr_iload_n p1 dX11_pour_38 rfl ?_
            obtain ⟨x24, e25, h⟩ := dtBind h
            refine dr_aaload4 x24 dX11_pour_39 e25 ?_
            refine dr_astore [some (.ref p0), some (.int p1), some (.int p2), some (.int p3), some (.int p4), some (.int p5), some (.ref x24)] dX11_pour_40 rfl rfl rfl ?_
            refine dr_aload_n p0 dX11_pour_42 rfl ?_
            obtain ⟨x26, e27, h⟩ := dtBind h
            refine dr_getR x26 dX11_pour_43 fl_RX11_22 e27 ?_
            refine dr_iload_n p3 dX11_pour_46 rfl ?_
            obtain ⟨x28, e29, h⟩ := dtBind h
            refine dr_aaload4 x28 dX11_pour_47 e29 ?_
            refine dr_astore [some (.ref p0), some (.int p1), some (.int p2), some (.int p3), some (.int p4), some (.int p5), some (.ref x24), some (.ref x28)] dX11_pour_48 rfl rfl rfl ?_
            refine dr_aload x24 dX11_pour_50 rfl ?_
            obtain ⟨x30, e31, h⟩ := dtBind h
            refine dr_getZ x30 dX11_pour_52 fl_RX11_146 e31 ?_
            obtain ⟨ht33, hf34⟩ := dtIte h
            refine dr_if_eq 66 dX11_pour_55 (by decide) (fun hc32 => ?_) (fun hc32 => ?_)
            · have h := ht33 hc32
              refine dr_mask [true] [some (.ref p0)] rfl ?_
              exact c_X11_pour_66 p0 μ7 h
            · have h := hf34 hc32
              refine dr_aload x28 dX11_pour_58 rfl ?_
              obtain ⟨x35, e36, h⟩ := dtBind h
              refine dr_getZ x35 dX11_pour_60 fl_RX11_146 e36 ?_
              obtain ⟨ht38, hf39⟩ := dtIte h
              refine dr_if_ne 72 dX11_pour_63 (by decide) (fun hc37 => ?_) (fun hc37 => ?_)
              · have h := hf39 hc37
                refine dr_aload x24 dX11_pour_72 rfl ?_
                obtain ⟨x40, e41, h⟩ := dtBind h
                refine dr_getI x40 dX11_pour_74 fl_RX11_150 e41 ?_
                refine dr_aload x28 dX11_pour_77 rfl ?_
                obtain ⟨x42, e43, h⟩ := dtBind h
                refine dr_getI x42 dX11_pour_79 fl_RX11_150 e43 ?_
                obtain ⟨ht45, hf46⟩ := dtIte h
                refine dr_icmp_eq 92 dX11_pour_82 (by decide) (fun hc44 => ?_) (fun hc44 => ?_)
                · have h := ht45 hc44
                  refine dr_aload x24 dX11_pour_92 rfl ?_
                  refine dr_iload_n p2 dX11_pour_94 rfl ?_
                  refine dr_iload p5 dX11_pour_95 rfl ?_
                  obtain ⟨_, hb47, h⟩ := dtBind h
                  obtain ⟨x50, μ48, e49, h⟩ := dtCall h
                  refine dr_callV_i (S0 := []) [.int p2, .int p5] x50 μ48 dX11_pour_97 (c_X9_hasRun x24 p2 p5 μ7 e49) mf_X9_hasRun wt_517 wt_518 wt_516 rfl (dtRv hb47) (by decide) rfl (Nat.le_of_ble_eq_true rfl) (Nat.le_of_ble_eq_true rfl) rfl ?_
                  obtain ⟨ht52, hf53⟩ := dtIte h
                  refine dr_if_eq 115 dX11_pour_100 (by decide) (fun hc51 => ?_) (fun hc51 => ?_)
                  · have h := ht52 hc51
                    refine dr_mask [true] [some (.ref p0)] rfl ?_
                    exact c_X11_pour_115 p0 μ48 h
                  · have h := hf53 hc51
                    refine dr_aload x28 dX11_pour_103 rfl ?_
                    refine dr_iload p4 dX11_pour_105 rfl ?_
                    refine dr_iload p5 dX11_pour_107 rfl ?_
                    obtain ⟨_, hb54, h⟩ := dtBind h
                    obtain ⟨x57, μ55, e56, h⟩ := dtCall h
                    refine dr_callV_i (S0 := []) [.int p4, .int p5] x57 μ55 dX11_pour_109 (c_X9_hasRun x28 p4 p5 μ48 e56) mf_X9_hasRun wt_517 wt_518 wt_516 rfl (dtRv hb54) (by decide) rfl (Nat.le_of_ble_eq_true rfl) (Nat.le_of_ble_eq_true rfl) rfl ?_
                    obtain ⟨ht59, hf60⟩ := dtIte h
                    refine dr_if_ne 121 dX11_pour_112 (by decide) (fun hc58 => ?_) (fun hc58 => ?_)
                    · have h := hf60 hc58
                      refine dr_aload x24 dX11_pour_121 rfl ?_
                      obtain ⟨x61, e62, h⟩ := dtBind h
                      refine dr_getR x61 dX11_pour_123 fl_RX11_142 e62 ?_
                      refine dr_iload_n p2 dX11_pour_126 rfl ?_
                      refine dr_aload x28 dX11_pour_127 rfl ?_
                      obtain ⟨x63, e64, h⟩ := dtBind h
                      refine dr_getR x63 dX11_pour_129 fl_RX11_142 e64 ?_
                      refine dr_iload p4 dX11_pour_132 rfl ?_
                      refine dr_iload p5 dX11_pour_134 rfl ?_
                      obtain ⟨μ65, e66, h⟩ := dtBind h
                      refine dr_copy_l μ65 dX11_pour_136 wt_520 wt_522 wt_521 wt_14 (Nat.le_of_ble_eq_true rfl) rfl e66 ?_
                      refine dr_aload_n p0 dX11_pour_139 rfl ?_
                      obtain ⟨_, hb67, h⟩ := dtBind h
                      obtain ⟨x70, μ68, e69, h⟩ := dtCall h
                      refine dr_callV_i (S0 := []) [] x70 μ68 dX11_pour_140 (c_X11_agree p0 μ65 e69) mf_X11_agree wt_490 ws_1 wt_488 rfl (dtRv hb67) (by decide) rfl (Nat.le_of_ble_eq_true rfl) (Nat.le_of_ble_eq_true rfl) rfl ?_
                      obtain ⟨hz, rfl, rfl⟩ := dtRet h
                      exact dr_ireturn dX11_pour_143 (dtNz hz)
                    · have h := ht59 hc58
                      refine dr_mask [true] [some (.ref p0)] rfl ?_
                      exact c_X11_pour_115 p0 μ55 h
                · have h := hf46 hc44
                  refine dr_aload_n p0 dX11_pour_85 rfl ?_
                  refine dr_bipush (8 : Int32) dX11_pour_86 (by decide) ?_
                  obtain ⟨_, hb71, h⟩ := dtBind h
                  obtain ⟨x74, μ72, e73, h⟩ := dtCall h
                  refine dr_callV_i (S0 := []) [.int (8 : Int32)] x74 μ72 dX11_pour_88 (c_X11_refuse p0 (8 : Int32) μ7 e73) mf_X11_refuse wt_482 ws_0 wt_480 rfl (dtRv hb71) (by decide) rfl (Nat.le_of_ble_eq_true rfl) (Nat.le_of_ble_eq_true rfl) rfl ?_
                  obtain ⟨hz, rfl, rfl⟩ := dtRet h
                  exact dr_ireturn dX11_pour_91 (dtNz hz)
              · have h := ht38 hc37
                refine dr_mask [true] [some (.ref p0)] rfl ?_
                exact c_X11_pour_66 p0 μ7 h
          · have h := hf21 hc19
            refine dr_mask [true] [some (.ref p0)] rfl ?_
            exact c_X11_pour_28 p0 μ7 h
/-! X11_feed -/
theorem dX11_feed_0 : decode cX11_feed 0 = .ok (.aload_n 0, 1) := by decide +kernel
theorem dX11_feed_1 : decode cX11_feed 1 = .ok (.getfield 30, 3) := by decide +kernel
theorem dX11_feed_4 : decode cX11_feed 4 = .ok (.getfield 163, 3) := by decide +kernel
theorem dX11_feed_7 : decode cX11_feed 7 = .ok (.bipush 20, 2) := by decide +kernel
theorem dX11_feed_9 : decode cX11_feed 9 = .ok (.iadd, 1) := by decide +kernel
theorem dX11_feed_10 : decode cX11_feed 10 = .ok (.sipush 900, 3) := by decide +kernel
theorem dX11_feed_13 : decode cX11_feed 13 = .ok (.if_icmp .le 5, 3) := by decide +kernel
theorem dX11_feed_16 : decode cX11_feed 16 = .ok (.iconst (-1), 1) := by decide +kernel
theorem dX11_feed_17 : decode cX11_feed 17 = .ok (.ireturn, 1) := by decide +kernel
theorem dX11_feed_18 : decode cX11_feed 18 = .ok (.aload_n 0, 1) := by decide +kernel
theorem dX11_feed_19 : decode cX11_feed 19 = .ok (.getfield 30, 3) := by decide +kernel
theorem dX11_feed_22 : decode cX11_feed 22 = .ok (.iload_n 1, 1) := by decide +kernel
theorem dX11_feed_23 : decode cX11_feed 23 = .ok (.invokevirtual 166, 3) := by decide +kernel
theorem dX11_feed_26 : decode cX11_feed 26 = .ok (.aload_n 0, 1) := by decide +kernel
theorem dX11_feed_27 : decode cX11_feed 27 = .ok (.getfield 30, 3) := by decide +kernel
theorem dX11_feed_30 : decode cX11_feed 30 = .ok (.iload_n 2, 1) := by decide +kernel
theorem dX11_feed_31 : decode cX11_feed 31 = .ok (.invokevirtual 166, 3) := by decide +kernel
theorem dX11_feed_34 : decode cX11_feed 34 = .ok (.aload_n 0, 1) := by decide +kernel
theorem dX11_feed_35 : decode cX11_feed 35 = .ok (.getfield 30, 3) := by decide +kernel
theorem dX11_feed_38 : decode cX11_feed 38 = .ok (.iload_n 3, 1) := by decide +kernel
theorem dX11_feed_39 : decode cX11_feed 39 = .ok (.invokevirtual 166, 3) := by decide +kernel
theorem dX11_feed_42 : decode cX11_feed 42 = .ok (.aload_n 0, 1) := by decide +kernel
theorem dX11_feed_43 : decode cX11_feed 43 = .ok (.getfield 30, 3) := by decide +kernel
theorem dX11_feed_46 : decode cX11_feed 46 = .ok (.iload 4, 2) := by decide +kernel
theorem dX11_feed_48 : decode cX11_feed 48 = .ok (.invokevirtual 166, 3) := by decide +kernel
theorem dX11_feed_51 : decode cX11_feed 51 = .ok (.aload_n 0, 1) := by decide +kernel
theorem dX11_feed_52 : decode cX11_feed 52 = .ok (.getfield 30, 3) := by decide +kernel
theorem dX11_feed_55 : decode cX11_feed 55 = .ok (.iload 5, 2) := by decide +kernel
theorem dX11_feed_57 : decode cX11_feed 57 = .ok (.invokevirtual 166, 3) := by decide +kernel
theorem dX11_feed_60 : decode cX11_feed 60 = .ok (.aload_n 0, 1) := by decide +kernel
theorem dX11_feed_61 : decode cX11_feed 61 = .ok (.getfield 30, 3) := by decide +kernel
theorem dX11_feed_64 : decode cX11_feed 64 = .ok (.getfield 163, 3) := by decide +kernel
theorem dX11_feed_67 : decode cX11_feed 67 = .ok (.ireturn, 1) := by decide +kernel
set_option maxRecDepth 100000 in
def f_X11_feed (p0 : Nat) (p1 : Int32) (p2 : Int32) (p3 : Int32) (p4 : Int32) (p5 : Int32) (μ : dtM) : Option (Int32 × dtM) :=
  (opGR 11 4 μ p0).bind fun x1 => (opGI 7 1 μ x1).bind fun x3 => if (x3 + (20 : Int32)) ≤ (900 : Int32) then ((opGR 11 4 μ p0).bind fun x8 => (opRv 7 μ x8).bind fun _ => (f_X7_append x8 p1 μ).bind fun μ11 => (opGR 11 4 μ11 p0).bind fun x13 => (opRv 7 μ11 x13).bind fun _ => (f_X7_append x13 p2 μ11).bind fun μ16 => (opGR 11 4 μ16 p0).bind fun x18 => (opRv 7 μ16 x18).bind fun _ => (f_X7_append x18 p3 μ16).bind fun μ21 => (opGR 11 4 μ21 p0).bind fun x23 => (opRv 7 μ21 x23).bind fun _ => (f_X7_append x23 p4 μ21).bind fun μ26 => (opGR 11 4 μ26 p0).bind fun x28 => (opRv 7 μ26 x28).bind fun _ => (f_X7_append x28 p5 μ26).bind fun μ31 => (opGR 11 4 μ31 p0).bind fun x33 => (opGI 7 1 μ31 x33).bind fun x35 => some (x35, μ31)) else (some ((-1 : Int32), μ))
set_option maxRecDepth 100000 in
theorem c_X11_feed {r : Int32} {F : dtM} (p0 : Nat) (p1 : Int32) (p2 : Int32) (p3 : Int32) (p4 : Int32) (p5 : Int32) (μ : dtM) (h : f_X11_feed p0 p1 p2 p3 p4 p5 μ = some (r, F)) : dtMet yX11_feed cX11_feed 6 (some .int) 2 [.ref p0, .int p1, .int p2, .int p3, .int p4, .int p5] μ (some (.int r)) F := by
  refine dtMet.of (by decide +kernel) (Nat.le_of_ble_eq_true rfl) (show dtW yX11_feed cX11_feed 6 (some .int) 2 (some (.int r)) F 0 [some (.ref p0), some (.int p1), some (.int p2), some (.int p3), some (.int p4), some (.int p5)] [] μ from ?_)
  rw [f_X11_feed] at h
  refine dr_aload_n p0 dX11_feed_0 rfl ?_
  obtain ⟨x1, e2, h⟩ := dtBind h
  refine dr_getR x1 dX11_feed_1 fl_RX11_30 e2 ?_
  obtain ⟨x3, e4, h⟩ := dtBind h
  refine dr_getI x3 dX11_feed_4 fl_RX11_163 e4 ?_
  refine dr_bipush (20 : Int32) dX11_feed_7 (by decide) ?_
  refine dr_iadd dX11_feed_9 ?_
  refine dr_sipush (900 : Int32) dX11_feed_10 (by decide) ?_
  obtain ⟨ht6, hf7⟩ := dtIte h
  refine dr_icmp_le 18 dX11_feed_13 (by decide) (fun hc5 => ?_) (fun hc5 => ?_)
  · have h := ht6 hc5
    refine dr_aload_n p0 dX11_feed_18 rfl ?_
    obtain ⟨x8, e9, h⟩ := dtBind h
    refine dr_getR x8 dX11_feed_19 fl_RX11_30 e9 ?_
    refine dr_iload_n p1 dX11_feed_22 rfl ?_
    obtain ⟨_, hb10, h⟩ := dtBind h
    obtain ⟨μ11, e12, h⟩ := dtBind h
    refine dr_callV_v (S0 := []) [.int p1] μ11 dX11_feed_23 (c_X7_append x8 p1 μ e12) mf_X7_append wt_528 wt_529 wt_527 rfl (dtRv hb10) (by decide) rfl (Nat.le_of_ble_eq_true rfl) (Nat.le_of_ble_eq_true rfl) rfl ?_
    refine dr_aload_n p0 dX11_feed_26 rfl ?_
    obtain ⟨x13, e14, h⟩ := dtBind h
    refine dr_getR x13 dX11_feed_27 fl_RX11_30 e14 ?_
    refine dr_iload_n p2 dX11_feed_30 rfl ?_
    obtain ⟨_, hb15, h⟩ := dtBind h
    obtain ⟨μ16, e17, h⟩ := dtBind h
    refine dr_callV_v (S0 := []) [.int p2] μ16 dX11_feed_31 (c_X7_append x13 p2 μ11 e17) mf_X7_append wt_528 wt_529 wt_527 rfl (dtRv hb15) (by decide) rfl (Nat.le_of_ble_eq_true rfl) (Nat.le_of_ble_eq_true rfl) rfl ?_
    refine dr_aload_n p0 dX11_feed_34 rfl ?_
    obtain ⟨x18, e19, h⟩ := dtBind h
    refine dr_getR x18 dX11_feed_35 fl_RX11_30 e19 ?_
    refine dr_iload_n p3 dX11_feed_38 rfl ?_
    obtain ⟨_, hb20, h⟩ := dtBind h
    obtain ⟨μ21, e22, h⟩ := dtBind h
    refine dr_callV_v (S0 := []) [.int p3] μ21 dX11_feed_39 (c_X7_append x18 p3 μ16 e22) mf_X7_append wt_528 wt_529 wt_527 rfl (dtRv hb20) (by decide) rfl (Nat.le_of_ble_eq_true rfl) (Nat.le_of_ble_eq_true rfl) rfl ?_
    refine dr_aload_n p0 dX11_feed_42 rfl ?_
    obtain ⟨x23, e24, h⟩ := dtBind h
    refine dr_getR x23 dX11_feed_43 fl_RX11_30 e24 ?_
    refine dr_iload p4 dX11_feed_46 rfl ?_
    obtain ⟨_, hb25, h⟩ := dtBind h
    obtain ⟨μ26, e27, h⟩ := dtBind h
    refine dr_callV_v (S0 := []) [.int p4] μ26 dX11_feed_48 (c_X7_append x23 p4 μ21 e27) mf_X7_append wt_528 wt_529 wt_527 rfl (dtRv hb25) (by decide) rfl (Nat.le_of_ble_eq_true rfl) (Nat.le_of_ble_eq_true rfl) rfl ?_
    refine dr_aload_n p0 dX11_feed_51 rfl ?_
    obtain ⟨x28, e29, h⟩ := dtBind h
    refine dr_getR x28 dX11_feed_52 fl_RX11_30 e29 ?_
    refine dr_iload p5 dX11_feed_55 rfl ?_
    obtain ⟨_, hb30, h⟩ := dtBind h
    obtain ⟨μ31, e32, h⟩ := dtBind h
    refine dr_callV_v (S0 := []) [.int p5] μ31 dX11_feed_57 (c_X7_append x28 p5 μ26 e32) mf_X7_append wt_528 wt_529 wt_527 rfl (dtRv hb30) (by decide) rfl (Nat.le_of_ble_eq_true rfl) (Nat.le_of_ble_eq_true rfl) rfl ?_
    refine dr_aload_n p0 dX11_feed_60 rfl ?_
    obtain ⟨x33, e34, h⟩ := dtBind h
    refine dr_getR x33 dX11_feed_61 fl_RX11_30 e34 ?_
    obtain ⟨x35, e36, h⟩ := dtBind h
    refine dr_getI x35 dX11_feed_64 fl_RX11_163 e36 ?_
    cases h
    exact dr_ireturn dX11_feed_67 rfl
  · have h := hf7 hc5
    refine dr_iconst (-1 : Int32) dX11_feed_16 (by decide) ?_
    cases h
    exact dr_ireturn dX11_feed_17 rfl
/-! X11_answer -/
theorem dX11_answer_0 : decode cX11_answer 0 = .ok (.aload_n 0, 1) := by decide +kernel
theorem dX11_answer_1 : decode cX11_answer 1 = .ok (.iconst 0, 1) := by decide +kernel
theorem dX11_answer_2 : decode cX11_answer 2 = .ok (.putfield 7, 3) := by decide +kernel
theorem dX11_answer_5 : decode cX11_answer 5 = .ok (.iload_n 1, 1) := by decide +kernel
theorem dX11_answer_6 : decode cX11_answer 6 = .ok (.ireturn, 1) := by decide +kernel
set_option maxRecDepth 100000 in
def f_X11_answer (p0 : Nat) (p1 : Int32) (μ : dtM) : Option (Int32 × dtM) :=
  (opPI 11 0 μ p0 (0 : Int32)).bind fun μ1 => some (p1, μ1)
set_option maxRecDepth 100000 in
theorem c_X11_answer {r : Int32} {F : dtM} (p0 : Nat) (p1 : Int32) (μ : dtM) (h : f_X11_answer p0 p1 μ = some (r, F)) : dtMet yX11_answer cX11_answer 2 (some .int) 1 [.ref p0, .int p1] μ (some (.int r)) F := by
  refine dtMet.of (by decide +kernel) (Nat.le_of_ble_eq_true rfl) (show dtW yX11_answer cX11_answer 2 (some .int) 1 (some (.int r)) F 0 [some (.ref p0), some (.int p1)] [] μ from ?_)
  rw [f_X11_answer] at h
  refine dr_aload_n p0 dX11_answer_0 rfl ?_
  refine dr_iconst (0 : Int32) dX11_answer_1 (by decide) ?_
  obtain ⟨μ1, e2, h⟩ := dtBind h
  refine dr_putI μ1 dX11_answer_2 fl_RX11_7 rfl e2 ?_
  refine dr_iload_n p1 dX11_answer_5 rfl ?_
  cases h
  exact dr_ireturn dX11_answer_6 rfl
/-! X11_house -/
theorem dX11_house_0 : decode cX11_house 0 = .ok (.iload_n 1, 1) := by decide +kernel
theorem dX11_house_1 : decode cX11_house 1 = .ok (.iconst 0, 1) := by decide +kernel
theorem dX11_house_2 : decode cX11_house 2 = .ok (.aload_n 0, 1) := by decide +kernel
theorem dX11_house_3 : decode cX11_house 3 = .ok (.getfield 30, 3) := by decide +kernel
theorem dX11_house_6 : decode cX11_house 6 = .ok (.getfield 163, 3) := by decide +kernel
theorem dX11_house_9 : decode cX11_house 9 = .ok (.invokestatic 115, 3) := by decide +kernel
theorem dX11_house_12 : decode cX11_house 12 = .ok (.ifCond .ne 9, 3) := by decide +kernel
theorem dX11_house_15 : decode cX11_house 15 = .ok (.aload_n 0, 1) := by decide +kernel
theorem dX11_house_16 : decode cX11_house 16 = .ok (.iconst 1, 1) := by decide +kernel
theorem dX11_house_17 : decode cX11_house 17 = .ok (.invokevirtual 138, 3) := by decide +kernel
theorem dX11_house_20 : decode cX11_house 20 = .ok (.ireturn, 1) := by decide +kernel
theorem dX11_house_21 : decode cX11_house 21 = .ok (.aload_n 0, 1) := by decide +kernel
theorem dX11_house_22 : decode cX11_house 22 = .ok (.getfield 68, 3) := by decide +kernel
theorem dX11_house_25 : decode cX11_house 25 = .ok (.aload_n 0, 1) := by decide +kernel
theorem dX11_house_26 : decode cX11_house 26 = .ok (.getfield 41, 3) := by decide +kernel
theorem dX11_house_29 : decode cX11_house 29 = .ok (.aload_n 0, 1) := by decide +kernel
theorem dX11_house_30 : decode cX11_house 30 = .ok (.getfield 30, 3) := by decide +kernel
theorem dX11_house_33 : decode cX11_house 33 = .ok (.getfield 170, 3) := by decide +kernel
theorem dX11_house_36 : decode cX11_house 36 = .ok (.iload_n 1, 1) := by decide +kernel
theorem dX11_house_37 : decode cX11_house 37 = .ok (.invokevirtual 174, 3) := by decide +kernel
theorem dX11_house_40 : decode cX11_house 40 = .ok (.istore_n 2, 1) := by decide +kernel
theorem dX11_house_41 : decode cX11_house 41 = .ok (.aload_n 0, 1) := by decide +kernel
theorem dX11_house_42 : decode cX11_house 42 = .ok (.getfield 30, 3) := by decide +kernel
theorem dX11_house_45 : decode cX11_house 45 = .ok (.iconst 0, 1) := by decide +kernel
theorem dX11_house_46 : decode cX11_house 46 = .ok (.putfield 163, 3) := by decide +kernel
theorem dX11_house_49 : decode cX11_house 49 = .ok (.aload_n 0, 1) := by decide +kernel
theorem dX11_house_50 : decode cX11_house 50 = .ok (.getfield 30, 3) := by decide +kernel
theorem dX11_house_53 : decode cX11_house 53 = .ok (.aload_n 0, 1) := by decide +kernel
theorem dX11_house_54 : decode cX11_house 54 = .ok (.getfield 68, 3) := by decide +kernel
theorem dX11_house_57 : decode cX11_house 57 = .ok (.getfield 178, 3) := by decide +kernel
theorem dX11_house_60 : decode cX11_house 60 = .ok (.invokevirtual 182, 3) := by decide +kernel
theorem dX11_house_63 : decode cX11_house 63 = .ok (.iload_n 2, 1) := by decide +kernel
theorem dX11_house_64 : decode cX11_house 64 = .ok (.ifCond .ne 10, 3) := by decide +kernel
theorem dX11_house_67 : decode cX11_house 67 = .ok (.aload_n 0, 1) := by decide +kernel
theorem dX11_house_68 : decode cX11_house 68 = .ok (.bipush 9, 2) := by decide +kernel
theorem dX11_house_70 : decode cX11_house 70 = .ok (.invokevirtual 138, 3) := by decide +kernel
theorem dX11_house_73 : decode cX11_house 73 = .ok (.ireturn, 1) := by decide +kernel
theorem dX11_house_74 : decode cX11_house 74 = .ok (.aload_n 0, 1) := by decide +kernel
theorem dX11_house_75 : decode cX11_house 75 = .ok (.getfield 37, 3) := by decide +kernel
theorem dX11_house_78 : decode cX11_house 78 = .ok (.astore_n 3, 1) := by decide +kernel
theorem dX11_house_79 : decode cX11_house 79 = .ok (.aload_n 0, 1) := by decide +kernel
theorem dX11_house_80 : decode cX11_house 80 = .ok (.aload_n 0, 1) := by decide +kernel
theorem dX11_house_81 : decode cX11_house 81 = .ok (.getfield 41, 3) := by decide +kernel
theorem dX11_house_84 : decode cX11_house 84 = .ok (.putfield 37, 3) := by decide +kernel
theorem dX11_house_87 : decode cX11_house 87 = .ok (.aload_n 0, 1) := by decide +kernel
theorem dX11_house_88 : decode cX11_house 88 = .ok (.aload_n 3, 1) := by decide +kernel
theorem dX11_house_89 : decode cX11_house 89 = .ok (.putfield 41, 3) := by decide +kernel
theorem dX11_house_92 : decode cX11_house 92 = .ok (.aload_n 0, 1) := by decide +kernel
theorem dX11_house_93 : decode cX11_house 93 = .ok (.getfield 47, 3) := by decide +kernel
theorem dX11_house_96 : decode cX11_house 96 = .ok (.invokevirtual 186, 3) := by decide +kernel
theorem dX11_house_99 : decode cX11_house 99 = .ok (.aload_n 0, 1) := by decide +kernel
theorem dX11_house_100 : decode cX11_house 100 = .ok (.aload_n 0, 1) := by decide +kernel
theorem dX11_house_101 : decode cX11_house 101 = .ok (.getfield 37, 3) := by decide +kernel
theorem dX11_house_104 : decode cX11_house 104 = .ok (.getfield 189, 3) := by decide +kernel
theorem dX11_house_107 : decode cX11_house 107 = .ok (.invokevirtual 192, 3) := by decide +kernel
theorem dX11_house_110 : decode cX11_house 110 = .ok (.ireturn, 1) := by decide +kernel
set_option maxRecDepth 100000 in
def f_X11_house (p0 : Nat) (p1 : Int32) (μ : dtM) : Option (Int32 × dtM) :=
  (opGR 11 4 μ p0).bind fun x1 => (opGI 7 1 μ x1).bind fun x3 => opCall (f_X11_within p1 (0 : Int32) x3 μ) fun x7 μ5 => if x7 = 0 then ((opRv 11 μ5 p0).bind fun _ => opCall (f_X11_fail p0 (1 : Int32) μ5) fun x67 μ65 => some (x67, μ65)) else ((opGR 11 12 μ5 p0).bind fun x11 => (opGR 11 6 μ5 p0).bind fun x13 => (opGR 11 4 μ5 p0).bind fun x15 => (opGR 7 0 μ5 x15).bind fun x17 => (opRv 4 μ5 x11).bind fun _ => opCall (f_X4_readInto x11 x13 x17 p1 μ5) fun x22 μ20 => (opGR 11 4 μ20 p0).bind fun x23 => (opPI 7 1 μ20 x23 (0 : Int32)).bind fun μ25 => (opGR 11 4 μ25 p0).bind fun x27 => (opGR 11 12 μ25 p0).bind fun x29 => (opGR 4 0 μ25 x29).bind fun x31 => (opRv 7 μ25 x27).bind fun _ => (f_X7_tellFault x27 x31 μ25).bind fun μ34 => if x22 = 0 then ((opRv 11 μ34 p0).bind fun _ => opCall (f_X11_fail p0 (9 : Int32) μ34) fun x63 μ61 => some (x63, μ61)) else ((opGR 11 5 μ34 p0).bind fun x39 => (opGR 11 6 μ34 p0).bind fun x41 => (opPR 11 5 μ34 p0 x41).bind fun μ43 => (opPR 11 6 μ43 p0 x39).bind fun μ45 => (opGR 11 7 μ45 p0).bind fun x47 => (opRv 0 μ45 x47).bind fun _ => (f_X0_clear x47 μ45).bind fun μ50 => (opGR 11 5 μ50 p0).bind fun x52 => (opGI 3 3 μ50 x52).bind fun x54 => (opRv 11 μ50 p0).bind fun _ => opCall (f_X11_answer p0 x54 μ50) fun x59 μ57 => some (x59, μ57)))
set_option maxRecDepth 100000 in
theorem c_X11_house {r : Int32} {F : dtM} (p0 : Nat) (p1 : Int32) (μ : dtM) (h : f_X11_house p0 p1 μ = some (r, F)) : dtMet yX11_house cX11_house 4 (some .int) 12 [.ref p0, .int p1] μ (some (.int r)) F := by
  refine dtMet.of (by decide +kernel) (Nat.le_of_ble_eq_true rfl) (show dtW yX11_house cX11_house 4 (some .int) 12 (some (.int r)) F 0 [some (.ref p0), some (.int p1)] [] μ from ?_)
  rw [f_X11_house] at h
  refine dr_iload_n p1 dX11_house_0 rfl ?_
  refine dr_iconst (0 : Int32) dX11_house_1 (by decide) ?_
  refine dr_aload_n p0 dX11_house_2 rfl ?_
  obtain ⟨x1, e2, h⟩ := dtBind h
  refine dr_getR x1 dX11_house_3 fl_RX11_30 e2 ?_
  obtain ⟨x3, e4, h⟩ := dtBind h
  refine dr_getI x3 dX11_house_6 fl_RX11_163 e4 ?_
  obtain ⟨x7, μ5, e6, h⟩ := dtCall h
  refine dr_callS_i (S0 := []) [.int p1, .int (0 : Int32), .int x3] x7 μ5 dX11_house_9 (c_X11_within p1 (0 : Int32) x3 μ e6) mf_X11_within wt_478 wt_477 rfl (Nat.le_of_ble_eq_true rfl) (Nat.le_of_ble_eq_true rfl) rfl ?_
  obtain ⟨ht9, hf10⟩ := dtIte h
  refine dr_if_ne 21 dX11_house_12 (by decide) (fun hc8 => ?_) (fun hc8 => ?_)
  · have h := hf10 hc8
    refine dr_aload_n p0 dX11_house_21 rfl ?_
    obtain ⟨x11, e12, h⟩ := dtBind h
    refine dr_getR x11 dX11_house_22 fl_RX11_68 e12 ?_
    refine dr_aload_n p0 dX11_house_25 rfl ?_
    obtain ⟨x13, e14, h⟩ := dtBind h
    refine dr_getR x13 dX11_house_26 fl_RX11_41 e14 ?_
    refine dr_aload_n p0 dX11_house_29 rfl ?_
    obtain ⟨x15, e16, h⟩ := dtBind h
    refine dr_getR x15 dX11_house_30 fl_RX11_30 e16 ?_
    obtain ⟨x17, e18, h⟩ := dtBind h
    refine dr_getR x17 dX11_house_33 fl_RX11_170 e18 ?_
    refine dr_iload_n p1 dX11_house_36 rfl ?_
    obtain ⟨_, hb19, h⟩ := dtBind h
    obtain ⟨x22, μ20, e21, h⟩ := dtCall h
    refine dr_callV_i (S0 := []) [.ref x13, .ref x17, .int p1] x22 μ20 dX11_house_37 (c_X4_readInto x11 x13 x17 p1 μ5 e21) mf_X4_readInto wt_536 wt_537 wt_535 rfl (dtRv hb19) (by decide) rfl (Nat.le_of_ble_eq_true rfl) (Nat.le_of_ble_eq_true rfl) rfl ?_
    refine dr_istore_n 2 [some (.ref p0), some (.int p1), some (.int x22)] dX11_house_40 rfl rfl rfl rfl ?_
    refine dr_aload_n p0 dX11_house_41 rfl ?_
    obtain ⟨x23, e24, h⟩ := dtBind h
    refine dr_getR x23 dX11_house_42 fl_RX11_30 e24 ?_
    refine dr_iconst (0 : Int32) dX11_house_45 (by decide) ?_
    obtain ⟨μ25, e26, h⟩ := dtBind h
    refine dr_putI μ25 dX11_house_46 fl_RX11_163 rfl e26 ?_
    refine dr_aload_n p0 dX11_house_49 rfl ?_
    obtain ⟨x27, e28, h⟩ := dtBind h
    refine dr_getR x27 dX11_house_50 fl_RX11_30 e28 ?_
    refine dr_aload_n p0 dX11_house_53 rfl ?_
    obtain ⟨x29, e30, h⟩ := dtBind h
    refine dr_getR x29 dX11_house_54 fl_RX11_68 e30 ?_
    obtain ⟨x31, e32, h⟩ := dtBind h
    refine dr_getR x31 dX11_house_57 fl_RX11_178 e32 ?_
    obtain ⟨_, hb33, h⟩ := dtBind h
    obtain ⟨μ34, e35, h⟩ := dtBind h
    refine dr_callV_v (S0 := []) [.ref x31] μ34 dX11_house_60 (c_X7_tellFault x27 x31 μ25 e35) mf_X7_tellFault wt_755 wt_756 wt_754 rfl (dtRv hb33) (by decide) rfl (Nat.le_of_ble_eq_true rfl) (Nat.le_of_ble_eq_true rfl) rfl ?_
    refine dr_iload_n x22 dX11_house_63 rfl ?_
    obtain ⟨ht37, hf38⟩ := dtIte h
    refine dr_if_ne 74 dX11_house_64 (by decide) (fun hc36 => ?_) (fun hc36 => ?_)
    · have h := hf38 hc36
      refine dr_aload_n p0 dX11_house_74 rfl ?_
      obtain ⟨x39, e40, h⟩ := dtBind h
      refine dr_getR x39 dX11_house_75 fl_RX11_37 e40 ?_
      refine dr_astore_n 3 [some (.ref p0), some (.int p1), some (.int x22), some (.ref x39)] dX11_house_78 rfl rfl rfl rfl ?_
      refine dr_aload_n p0 dX11_house_79 rfl ?_
      refine dr_aload_n p0 dX11_house_80 rfl ?_
      obtain ⟨x41, e42, h⟩ := dtBind h
      refine dr_getR x41 dX11_house_81 fl_RX11_41 e42 ?_
      obtain ⟨μ43, e44, h⟩ := dtBind h
      refine dr_putR μ43 dX11_house_84 fl_RX11_37 rfl e44 ?_
      refine dr_aload_n p0 dX11_house_87 rfl ?_
      refine dr_aload_n x39 dX11_house_88 rfl ?_
      obtain ⟨μ45, e46, h⟩ := dtBind h
      refine dr_putR μ45 dX11_house_89 fl_RX11_41 rfl e46 ?_
      refine dr_aload_n p0 dX11_house_92 rfl ?_
      obtain ⟨x47, e48, h⟩ := dtBind h
      refine dr_getR x47 dX11_house_93 fl_RX11_47 e48 ?_
      obtain ⟨_, hb49, h⟩ := dtBind h
      obtain ⟨μ50, e51, h⟩ := dtBind h
      refine dr_callV_v (S0 := []) [] μ50 dX11_house_96 (c_X0_clear x47 μ45 e51) mf_X0_clear wt_759 wt_760 wt_758 rfl (dtRv hb49) (by decide) rfl (Nat.le_of_ble_eq_true rfl) (Nat.le_of_ble_eq_true rfl) rfl ?_
      refine dr_aload_n p0 dX11_house_99 rfl ?_
      refine dr_aload_n p0 dX11_house_100 rfl ?_
      obtain ⟨x52, e53, h⟩ := dtBind h
      refine dr_getR x52 dX11_house_101 fl_RX11_37 e53 ?_
      obtain ⟨x54, e55, h⟩ := dtBind h
      refine dr_getI x54 dX11_house_104 fl_RX11_189 e55 ?_
      obtain ⟨_, hb56, h⟩ := dtBind h
      obtain ⟨x59, μ57, e58, h⟩ := dtCall h
      refine dr_callV_i (S0 := []) [.int x54] x59 μ57 dX11_house_107 (c_X11_answer p0 x54 μ50 e58) mf_X11_answer wt_764 ws_19 wt_762 rfl (dtRv hb56) (by decide) rfl (Nat.le_of_ble_eq_true rfl) (Nat.le_of_ble_eq_true rfl) rfl ?_
      cases h
      exact dr_ireturn dX11_house_110 rfl
    · have h := ht37 hc36
      refine dr_aload_n p0 dX11_house_67 rfl ?_
      refine dr_bipush (9 : Int32) dX11_house_68 (by decide) ?_
      obtain ⟨_, hb60, h⟩ := dtBind h
      obtain ⟨x63, μ61, e62, h⟩ := dtCall h
      refine dr_callV_i (S0 := []) [.int (9 : Int32)] x63 μ61 dX11_house_70 (c_X11_fail p0 (9 : Int32) μ34 e62) mf_X11_fail wt_510 ws_3 wt_508 rfl (dtRv hb60) (by decide) rfl (Nat.le_of_ble_eq_true rfl) (Nat.le_of_ble_eq_true rfl) rfl ?_
      cases h
      exact dr_ireturn dX11_house_73 rfl
  · have h := ht9 hc8
    refine dr_aload_n p0 dX11_house_15 rfl ?_
    refine dr_iconst (1 : Int32) dX11_house_16 (by decide) ?_
    obtain ⟨_, hb64, h⟩ := dtBind h
    obtain ⟨x67, μ65, e66, h⟩ := dtCall h
    refine dr_callV_i (S0 := []) [.int (1 : Int32)] x67 μ65 dX11_house_17 (c_X11_fail p0 (1 : Int32) μ5 e66) mf_X11_fail wt_510 ws_3 wt_508 rfl (dtRv hb64) (by decide) rfl (Nat.le_of_ble_eq_true rfl) (Nat.le_of_ble_eq_true rfl) rfl ?_
    cases h
    exact dr_ireturn dX11_house_20 rfl
/-! X11_days -/
theorem dX11_days_0 : decode cX11_days 0 = .ok (.iload_n 1, 1) := by decide +kernel
theorem dX11_days_1 : decode cX11_days 1 = .ok (.iconst 0, 1) := by decide +kernel
theorem dX11_days_2 : decode cX11_days 2 = .ok (.aload_n 0, 1) := by decide +kernel
theorem dX11_days_3 : decode cX11_days 3 = .ok (.getfield 30, 3) := by decide +kernel
theorem dX11_days_6 : decode cX11_days 6 = .ok (.getfield 163, 3) := by decide +kernel
theorem dX11_days_9 : decode cX11_days 9 = .ok (.invokestatic 115, 3) := by decide +kernel
theorem dX11_days_12 : decode cX11_days 12 = .ok (.ifCond .eq 10, 3) := by decide +kernel
theorem dX11_days_15 : decode cX11_days 15 = .ok (.iload_n 1, 1) := by decide +kernel
theorem dX11_days_16 : decode cX11_days 16 = .ok (.sipush 300, 3) := by decide +kernel
theorem dX11_days_19 : decode cX11_days 19 = .ok (.if_icmp .le 9, 3) := by decide +kernel
theorem dX11_days_22 : decode cX11_days 22 = .ok (.aload_n 0, 1) := by decide +kernel
theorem dX11_days_23 : decode cX11_days 23 = .ok (.iconst 1, 1) := by decide +kernel
theorem dX11_days_24 : decode cX11_days 24 = .ok (.invokevirtual 138, 3) := by decide +kernel
theorem dX11_days_27 : decode cX11_days 27 = .ok (.ireturn, 1) := by decide +kernel
theorem dX11_days_28 : decode cX11_days 28 = .ok (.aload_n 0, 1) := by decide +kernel
theorem dX11_days_29 : decode cX11_days 29 = .ok (.getfield 75, 3) := by decide +kernel
theorem dX11_days_32 : decode cX11_days 32 = .ok (.aload_n 0, 1) := by decide +kernel
theorem dX11_days_33 : decode cX11_days 33 = .ok (.getfield 51, 3) := by decide +kernel
theorem dX11_days_36 : decode cX11_days 36 = .ok (.aload_n 0, 1) := by decide +kernel
theorem dX11_days_37 : decode cX11_days 37 = .ok (.getfield 37, 3) := by decide +kernel
theorem dX11_days_40 : decode cX11_days 40 = .ok (.aload_n 0, 1) := by decide +kernel
theorem dX11_days_41 : decode cX11_days 41 = .ok (.getfield 30, 3) := by decide +kernel
theorem dX11_days_44 : decode cX11_days 44 = .ok (.getfield 170, 3) := by decide +kernel
theorem dX11_days_47 : decode cX11_days 47 = .ok (.iload_n 1, 1) := by decide +kernel
theorem dX11_days_48 : decode cX11_days 48 = .ok (.invokevirtual 195, 3) := by decide +kernel
theorem dX11_days_51 : decode cX11_days 51 = .ok (.istore_n 2, 1) := by decide +kernel
theorem dX11_days_52 : decode cX11_days 52 = .ok (.aload_n 0, 1) := by decide +kernel
theorem dX11_days_53 : decode cX11_days 53 = .ok (.getfield 30, 3) := by decide +kernel
theorem dX11_days_56 : decode cX11_days 56 = .ok (.iconst 0, 1) := by decide +kernel
theorem dX11_days_57 : decode cX11_days 57 = .ok (.putfield 163, 3) := by decide +kernel
theorem dX11_days_60 : decode cX11_days 60 = .ok (.aload_n 0, 1) := by decide +kernel
theorem dX11_days_61 : decode cX11_days 61 = .ok (.getfield 30, 3) := by decide +kernel
theorem dX11_days_64 : decode cX11_days 64 = .ok (.aload_n 0, 1) := by decide +kernel
theorem dX11_days_65 : decode cX11_days 65 = .ok (.getfield 75, 3) := by decide +kernel
theorem dX11_days_68 : decode cX11_days 68 = .ok (.getfield 198, 3) := by decide +kernel
theorem dX11_days_71 : decode cX11_days 71 = .ok (.invokevirtual 182, 3) := by decide +kernel
theorem dX11_days_74 : decode cX11_days 74 = .ok (.iload_n 2, 1) := by decide +kernel
theorem dX11_days_75 : decode cX11_days 75 = .ok (.ifCond .ne 10, 3) := by decide +kernel
theorem dX11_days_78 : decode cX11_days 78 = .ok (.aload_n 0, 1) := by decide +kernel
theorem dX11_days_79 : decode cX11_days 79 = .ok (.bipush 9, 2) := by decide +kernel
theorem dX11_days_81 : decode cX11_days 81 = .ok (.invokevirtual 138, 3) := by decide +kernel
theorem dX11_days_84 : decode cX11_days 84 = .ok (.ireturn, 1) := by decide +kernel
theorem dX11_days_85 : decode cX11_days 85 = .ok (.aload_n 0, 1) := by decide +kernel
theorem dX11_days_86 : decode cX11_days 86 = .ok (.getfield 47, 3) := by decide +kernel
theorem dX11_days_89 : decode cX11_days 89 = .ok (.astore_n 3, 1) := by decide +kernel
theorem dX11_days_90 : decode cX11_days 90 = .ok (.aload_n 0, 1) := by decide +kernel
theorem dX11_days_91 : decode cX11_days 91 = .ok (.aload_n 0, 1) := by decide +kernel
theorem dX11_days_92 : decode cX11_days 92 = .ok (.getfield 51, 3) := by decide +kernel
theorem dX11_days_95 : decode cX11_days 95 = .ok (.putfield 47, 3) := by decide +kernel
theorem dX11_days_98 : decode cX11_days 98 = .ok (.aload_n 0, 1) := by decide +kernel
theorem dX11_days_99 : decode cX11_days 99 = .ok (.aload_n 3, 1) := by decide +kernel
theorem dX11_days_100 : decode cX11_days 100 = .ok (.putfield 51, 3) := by decide +kernel
theorem dX11_days_103 : decode cX11_days 103 = .ok (.aload_n 0, 1) := by decide +kernel
theorem dX11_days_104 : decode cX11_days 104 = .ok (.aload_n 0, 1) := by decide +kernel
theorem dX11_days_105 : decode cX11_days 105 = .ok (.getfield 47, 3) := by decide +kernel
theorem dX11_days_108 : decode cX11_days 108 = .ok (.getfield 199, 3) := by decide +kernel
theorem dX11_days_111 : decode cX11_days 111 = .ok (.invokevirtual 192, 3) := by decide +kernel
theorem dX11_days_114 : decode cX11_days 114 = .ok (.ireturn, 1) := by decide +kernel
set_option maxRecDepth 100000 in
def f_X11_days_22 (l0 : Nat) (μ : dtM) : Option (Int32 × dtM) :=
  (opRv 11 μ l0).bind fun _ => opCall (f_X11_fail l0 (1 : Int32) μ) fun x4 μ2 => some (x4, μ2)
set_option maxRecDepth 100000 in
def f_X11_days (p0 : Nat) (p1 : Int32) (μ : dtM) : Option (Int32 × dtM) :=
  (opGR 11 4 μ p0).bind fun x1 => (opGI 7 1 μ x1).bind fun x3 => opCall (f_X11_within p1 (0 : Int32) x3 μ) fun x7 μ5 => if x7 = 0 then (f_X11_days_22 p0 μ5) else (if p1 ≤ (300 : Int32) then ((opGR 11 13 μ5 p0).bind fun x14 => (opGR 11 8 μ5 p0).bind fun x16 => (opGR 11 5 μ5 p0).bind fun x18 => (opGR 11 4 μ5 p0).bind fun x20 => (opGR 7 0 μ5 x20).bind fun x22 => (opRv 1 μ5 x14).bind fun _ => opCall (f_X1_readInto x14 x16 x18 x22 p1 μ5) fun x27 μ25 => (opGR 11 4 μ25 p0).bind fun x28 => (opPI 7 1 μ25 x28 (0 : Int32)).bind fun μ30 => (opGR 11 4 μ30 p0).bind fun x32 => (opGR 11 13 μ30 p0).bind fun x34 => (opGR 1 0 μ30 x34).bind fun x36 => (opRv 7 μ30 x32).bind fun _ => (f_X7_tellFault x32 x36 μ30).bind fun μ39 => if x27 = 0 then ((opRv 11 μ39 p0).bind fun _ => opCall (f_X11_fail p0 (9 : Int32) μ39) fun x63 μ61 => some (x63, μ61)) else ((opGR 11 7 μ39 p0).bind fun x44 => (opGR 11 8 μ39 p0).bind fun x46 => (opPR 11 7 μ39 p0 x46).bind fun μ48 => (opPR 11 8 μ48 p0 x44).bind fun μ50 => (opGR 11 7 μ50 p0).bind fun x52 => (opGI 0 1 μ50 x52).bind fun x54 => (opRv 11 μ50 p0).bind fun _ => opCall (f_X11_answer p0 x54 μ50) fun x59 μ57 => some (x59, μ57))) else (f_X11_days_22 p0 μ5))
set_option maxRecDepth 100000 in
theorem c_X11_days_22 {r : Int32} {F : dtM} (l0 : Nat) (μ : dtM) (h : f_X11_days_22 l0 μ = some (r, F)) : dtW yX11_days cX11_days 4 (some .int) 12 (some (.int r)) F 22 [some (.ref l0)] [] μ := by
  rw [f_X11_days_22] at h
  refine dr_aload_n l0 dX11_days_22 rfl ?_
  refine dr_iconst (1 : Int32) dX11_days_23 (by decide) ?_
  obtain ⟨_, hb1, h⟩ := dtBind h
  obtain ⟨x4, μ2, e3, h⟩ := dtCall h
  refine dr_callV_i (S0 := []) [.int (1 : Int32)] x4 μ2 dX11_days_24 (c_X11_fail l0 (1 : Int32) μ e3) mf_X11_fail wt_510 ws_3 wt_508 rfl (dtRv hb1) (by decide) rfl (Nat.le_of_ble_eq_true rfl) (Nat.le_of_ble_eq_true rfl) rfl ?_
  cases h
  exact dr_ireturn dX11_days_27 rfl
set_option maxRecDepth 100000 in
theorem c_X11_days {r : Int32} {F : dtM} (p0 : Nat) (p1 : Int32) (μ : dtM) (h : f_X11_days p0 p1 μ = some (r, F)) : dtMet yX11_days cX11_days 4 (some .int) 12 [.ref p0, .int p1] μ (some (.int r)) F := by
  refine dtMet.of (by decide +kernel) (Nat.le_of_ble_eq_true rfl) (show dtW yX11_days cX11_days 4 (some .int) 12 (some (.int r)) F 0 [some (.ref p0), some (.int p1)] [] μ from ?_)
  rw [f_X11_days] at h
  refine dr_iload_n p1 dX11_days_0 rfl ?_
  refine dr_iconst (0 : Int32) dX11_days_1 (by decide) ?_
  refine dr_aload_n p0 dX11_days_2 rfl ?_
  obtain ⟨x1, e2, h⟩ := dtBind h
  refine dr_getR x1 dX11_days_3 fl_RX11_30 e2 ?_
  obtain ⟨x3, e4, h⟩ := dtBind h
  refine dr_getI x3 dX11_days_6 fl_RX11_163 e4 ?_
  obtain ⟨x7, μ5, e6, h⟩ := dtCall h
  refine dr_callS_i (S0 := []) [.int p1, .int (0 : Int32), .int x3] x7 μ5 dX11_days_9 (c_X11_within p1 (0 : Int32) x3 μ e6) mf_X11_within wt_478 wt_477 rfl (Nat.le_of_ble_eq_true rfl) (Nat.le_of_ble_eq_true rfl) rfl ?_
  obtain ⟨ht9, hf10⟩ := dtIte h
  refine dr_if_eq 22 dX11_days_12 (by decide) (fun hc8 => ?_) (fun hc8 => ?_)
  · have h := ht9 hc8
    refine dr_mask [true] [some (.ref p0)] rfl ?_
    exact c_X11_days_22 p0 μ5 h
  · have h := hf10 hc8
    refine dr_iload_n p1 dX11_days_15 rfl ?_
    refine dr_sipush (300 : Int32) dX11_days_16 (by decide) ?_
    obtain ⟨ht12, hf13⟩ := dtIte h
    refine dr_icmp_le 28 dX11_days_19 (by decide) (fun hc11 => ?_) (fun hc11 => ?_)
    · have h := ht12 hc11
      refine dr_aload_n p0 dX11_days_28 rfl ?_
      obtain ⟨x14, e15, h⟩ := dtBind h
      refine dr_getR x14 dX11_days_29 fl_RX11_75 e15 ?_
      refine dr_aload_n p0 dX11_days_32 rfl ?_
      obtain ⟨x16, e17, h⟩ := dtBind h
      refine dr_getR x16 dX11_days_33 fl_RX11_51 e17 ?_
      refine dr_aload_n p0 dX11_days_36 rfl ?_
      obtain ⟨x18, e19, h⟩ := dtBind h
      refine dr_getR x18 dX11_days_37 fl_RX11_37 e19 ?_
      refine dr_aload_n p0 dX11_days_40 rfl ?_
      obtain ⟨x20, e21, h⟩ := dtBind h
      refine dr_getR x20 dX11_days_41 fl_RX11_30 e21 ?_
      obtain ⟨x22, e23, h⟩ := dtBind h
      refine dr_getR x22 dX11_days_44 fl_RX11_170 e23 ?_
      refine dr_iload_n p1 dX11_days_47 rfl ?_
      obtain ⟨_, hb24, h⟩ := dtBind h
      obtain ⟨x27, μ25, e26, h⟩ := dtCall h
      refine dr_callV_i (S0 := []) [.ref x16, .ref x18, .ref x22, .int p1] x27 μ25 dX11_days_48 (c_X1_readInto x14 x16 x18 x22 p1 μ5 e26) mf_X1_readInto wt_771 wt_772 wt_770 rfl (dtRv hb24) (by decide) rfl (Nat.le_of_ble_eq_true rfl) (Nat.le_of_ble_eq_true rfl) rfl ?_
      refine dr_istore_n 2 [some (.ref p0), some (.int p1), some (.int x27)] dX11_days_51 rfl rfl rfl rfl ?_
      refine dr_aload_n p0 dX11_days_52 rfl ?_
      obtain ⟨x28, e29, h⟩ := dtBind h
      refine dr_getR x28 dX11_days_53 fl_RX11_30 e29 ?_
      refine dr_iconst (0 : Int32) dX11_days_56 (by decide) ?_
      obtain ⟨μ30, e31, h⟩ := dtBind h
      refine dr_putI μ30 dX11_days_57 fl_RX11_163 rfl e31 ?_
      refine dr_aload_n p0 dX11_days_60 rfl ?_
      obtain ⟨x32, e33, h⟩ := dtBind h
      refine dr_getR x32 dX11_days_61 fl_RX11_30 e33 ?_
      refine dr_aload_n p0 dX11_days_64 rfl ?_
      obtain ⟨x34, e35, h⟩ := dtBind h
      refine dr_getR x34 dX11_days_65 fl_RX11_75 e35 ?_
      obtain ⟨x36, e37, h⟩ := dtBind h
      refine dr_getR x36 dX11_days_68 fl_RX11_198 e37 ?_
      obtain ⟨_, hb38, h⟩ := dtBind h
      obtain ⟨μ39, e40, h⟩ := dtBind h
      refine dr_callV_v (S0 := []) [.ref x36] μ39 dX11_days_71 (c_X7_tellFault x32 x36 μ30 e40) mf_X7_tellFault wt_755 wt_756 wt_754 rfl (dtRv hb38) (by decide) rfl (Nat.le_of_ble_eq_true rfl) (Nat.le_of_ble_eq_true rfl) rfl ?_
      refine dr_iload_n x27 dX11_days_74 rfl ?_
      obtain ⟨ht42, hf43⟩ := dtIte h
      refine dr_if_ne 85 dX11_days_75 (by decide) (fun hc41 => ?_) (fun hc41 => ?_)
      · have h := hf43 hc41
        refine dr_aload_n p0 dX11_days_85 rfl ?_
        obtain ⟨x44, e45, h⟩ := dtBind h
        refine dr_getR x44 dX11_days_86 fl_RX11_47 e45 ?_
        refine dr_astore_n 3 [some (.ref p0), some (.int p1), some (.int x27), some (.ref x44)] dX11_days_89 rfl rfl rfl rfl ?_
        refine dr_aload_n p0 dX11_days_90 rfl ?_
        refine dr_aload_n p0 dX11_days_91 rfl ?_
        obtain ⟨x46, e47, h⟩ := dtBind h
        refine dr_getR x46 dX11_days_92 fl_RX11_51 e47 ?_
        obtain ⟨μ48, e49, h⟩ := dtBind h
        refine dr_putR μ48 dX11_days_95 fl_RX11_47 rfl e49 ?_
        refine dr_aload_n p0 dX11_days_98 rfl ?_
        refine dr_aload_n x44 dX11_days_99 rfl ?_
        obtain ⟨μ50, e51, h⟩ := dtBind h
        refine dr_putR μ50 dX11_days_100 fl_RX11_51 rfl e51 ?_
        refine dr_aload_n p0 dX11_days_103 rfl ?_
        refine dr_aload_n p0 dX11_days_104 rfl ?_
        obtain ⟨x52, e53, h⟩ := dtBind h
        refine dr_getR x52 dX11_days_105 fl_RX11_47 e53 ?_
        obtain ⟨x54, e55, h⟩ := dtBind h
        refine dr_getI x54 dX11_days_108 fl_RX11_199 e55 ?_
        obtain ⟨_, hb56, h⟩ := dtBind h
        obtain ⟨x59, μ57, e58, h⟩ := dtCall h
        refine dr_callV_i (S0 := []) [.int x54] x59 μ57 dX11_days_111 (c_X11_answer p0 x54 μ50 e58) mf_X11_answer wt_764 ws_19 wt_762 rfl (dtRv hb56) (by decide) rfl (Nat.le_of_ble_eq_true rfl) (Nat.le_of_ble_eq_true rfl) rfl ?_
        cases h
        exact dr_ireturn dX11_days_114 rfl
      · have h := ht42 hc41
        refine dr_aload_n p0 dX11_days_78 rfl ?_
        refine dr_bipush (9 : Int32) dX11_days_79 (by decide) ?_
        obtain ⟨_, hb60, h⟩ := dtBind h
        obtain ⟨x63, μ61, e62, h⟩ := dtCall h
        refine dr_callV_i (S0 := []) [.int (9 : Int32)] x63 μ61 dX11_days_81 (c_X11_fail p0 (9 : Int32) μ39 e62) mf_X11_fail wt_510 ws_3 wt_508 rfl (dtRv hb60) (by decide) rfl (Nat.le_of_ble_eq_true rfl) (Nat.le_of_ble_eq_true rfl) rfl ?_
        cases h
        exact dr_ireturn dX11_days_84 rfl
    · have h := hf13 hc11
      refine dr_mask [true] [some (.ref p0)] rfl ?_
      exact c_X11_days_22 p0 μ5 h
/-! X11_fault -/
theorem dX11_fault_0 : decode cX11_fault 0 = .ok (.iload_n 1, 1) := by decide +kernel
theorem dX11_fault_1 : decode cX11_fault 1 = .ok (.ifCond .ne 11, 3) := by decide +kernel
theorem dX11_fault_4 : decode cX11_fault 4 = .ok (.aload_n 0, 1) := by decide +kernel
theorem dX11_fault_5 : decode cX11_fault 5 = .ok (.getfield 30, 3) := by decide +kernel
theorem dX11_fault_8 : decode cX11_fault 8 = .ok (.getfield 202, 3) := by decide +kernel
theorem dX11_fault_11 : decode cX11_fault 11 = .ok (.ireturn, 1) := by decide +kernel
theorem dX11_fault_12 : decode cX11_fault 12 = .ok (.iload_n 1, 1) := by decide +kernel
theorem dX11_fault_13 : decode cX11_fault 13 = .ok (.iconst 1, 1) := by decide +kernel
theorem dX11_fault_14 : decode cX11_fault 14 = .ok (.if_icmp .ne 13, 3) := by decide +kernel
theorem dX11_fault_17 : decode cX11_fault 17 = .ok (.aload_n 0, 1) := by decide +kernel
theorem dX11_fault_18 : decode cX11_fault 18 = .ok (.getfield 30, 3) := by decide +kernel
theorem dX11_fault_21 : decode cX11_fault 21 = .ok (.getfield 205, 3) := by decide +kernel
theorem dX11_fault_24 : decode cX11_fault 24 = .ok (.goto 4, 3) := by decide +kernel
theorem dX11_fault_27 : decode cX11_fault 27 = .ok (.iconst (-1), 1) := by decide +kernel
theorem dX11_fault_28 : decode cX11_fault 28 = .ok (.ireturn, 1) := by decide +kernel
set_option maxRecDepth 100000 in
def f_X11_fault_28 (s0 : Int32) (μ : dtM) : Option (Int32 × dtM) :=
  some (s0, μ)
set_option maxRecDepth 100000 in
def f_X11_fault (p0 : Nat) (p1 : Int32) (μ : dtM) : Option (Int32 × dtM) :=
  if p1 = 0 then ((opGR 11 4 μ p0).bind fun x11 => (opGI 7 2 μ x11).bind fun x13 => some (x13, μ)) else (if p1 = (1 : Int32) then ((opGR 11 4 μ p0).bind fun x7 => (opGI 7 3 μ x7).bind fun x9 => f_X11_fault_28 x9 μ) else (f_X11_fault_28 (-1 : Int32) μ))
set_option maxRecDepth 100000 in
theorem c_X11_fault_28 {r : Int32} {F : dtM} (s0 : Int32) (μ : dtM) (h : f_X11_fault_28 s0 μ = some (r, F)) : dtW yX11_fault cX11_fault 2 (some .int) 1 (some (.int r)) F 28 [] [.int s0] μ := by
  rw [f_X11_fault_28] at h
  cases h
  exact dr_ireturn dX11_fault_28 rfl
set_option maxRecDepth 100000 in
theorem c_X11_fault {r : Int32} {F : dtM} (p0 : Nat) (p1 : Int32) (μ : dtM) (h : f_X11_fault p0 p1 μ = some (r, F)) : dtMet yX11_fault cX11_fault 2 (some .int) 1 [.ref p0, .int p1] μ (some (.int r)) F := by
  refine dtMet.of (by decide +kernel) (Nat.le_of_ble_eq_true rfl) (show dtW yX11_fault cX11_fault 2 (some .int) 1 (some (.int r)) F 0 [some (.ref p0), some (.int p1)] [] μ from ?_)
  rw [f_X11_fault] at h
  refine dr_iload_n p1 dX11_fault_0 rfl ?_
  obtain ⟨ht2, hf3⟩ := dtIte h
  refine dr_if_ne 12 dX11_fault_1 (by decide) (fun hc1 => ?_) (fun hc1 => ?_)
  · have h := hf3 hc1
    refine dr_iload_n p1 dX11_fault_12 rfl ?_
    refine dr_iconst (1 : Int32) dX11_fault_13 (by decide) ?_
    obtain ⟨ht5, hf6⟩ := dtIte h
    refine dr_icmp_ne 27 dX11_fault_14 (by decide) (fun hc4 => ?_) (fun hc4 => ?_)
    · have h := hf6 hc4
      refine dr_iconst (-1 : Int32) dX11_fault_27 (by decide) ?_
      refine dr_mask [] [] rfl ?_
      exact c_X11_fault_28 (-1 : Int32) μ h
    · have h := ht5 hc4
      refine dr_aload_n p0 dX11_fault_17 rfl ?_
      obtain ⟨x7, e8, h⟩ := dtBind h
      refine dr_getR x7 dX11_fault_18 fl_RX11_30 e8 ?_
      obtain ⟨x9, e10, h⟩ := dtBind h
      refine dr_getI x9 dX11_fault_21 fl_RX11_205 e10 ?_
      refine dr_goto 28 dX11_fault_24 (by decide) ?_
      refine dr_mask [] [] rfl ?_
      exact c_X11_fault_28 x9 μ h
  · have h := ht2 hc1
    refine dr_aload_n p0 dX11_fault_4 rfl ?_
    obtain ⟨x11, e12, h⟩ := dtBind h
    refine dr_getR x11 dX11_fault_5 fl_RX11_30 e12 ?_
    obtain ⟨x13, e14, h⟩ := dtBind h
    refine dr_getI x13 dX11_fault_8 fl_RX11_202 e14 ?_
    cases h
    exact dr_ireturn dX11_fault_11 rfl
/-! X11_told -/
theorem dX11_told_0 : decode cX11_told 0 = .ok (.iload_n 1, 1) := by decide +kernel
theorem dX11_told_1 : decode cX11_told 1 = .ok (.tableswitch 127 0 6 #[43, 55, 67, 79, 91, 103, 115], 43) := by decide +kernel
theorem dX11_told_44 : decode cX11_told 44 = .ok (.aload_n 0, 1) := by decide +kernel
theorem dX11_told_45 : decode cX11_told 45 = .ok (.aload_n 0, 1) := by decide +kernel
theorem dX11_told_46 : decode cX11_told 46 = .ok (.getfield 37, 3) := by decide +kernel
theorem dX11_told_49 : decode cX11_told 49 = .ok (.getfield 208, 3) := by decide +kernel
theorem dX11_told_52 : decode cX11_told 52 = .ok (.invokevirtual 192, 3) := by decide +kernel
theorem dX11_told_55 : decode cX11_told 55 = .ok (.ireturn, 1) := by decide +kernel
theorem dX11_told_56 : decode cX11_told 56 = .ok (.aload_n 0, 1) := by decide +kernel
theorem dX11_told_57 : decode cX11_told 57 = .ok (.aload_n 0, 1) := by decide +kernel
theorem dX11_told_58 : decode cX11_told 58 = .ok (.getfield 37, 3) := by decide +kernel
theorem dX11_told_61 : decode cX11_told 61 = .ok (.getfield 211, 3) := by decide +kernel
theorem dX11_told_64 : decode cX11_told 64 = .ok (.invokevirtual 192, 3) := by decide +kernel
theorem dX11_told_67 : decode cX11_told 67 = .ok (.ireturn, 1) := by decide +kernel
theorem dX11_told_68 : decode cX11_told 68 = .ok (.aload_n 0, 1) := by decide +kernel
theorem dX11_told_69 : decode cX11_told 69 = .ok (.aload_n 0, 1) := by decide +kernel
theorem dX11_told_70 : decode cX11_told 70 = .ok (.getfield 37, 3) := by decide +kernel
theorem dX11_told_73 : decode cX11_told 73 = .ok (.getfield 214, 3) := by decide +kernel
theorem dX11_told_76 : decode cX11_told 76 = .ok (.invokevirtual 192, 3) := by decide +kernel
theorem dX11_told_79 : decode cX11_told 79 = .ok (.ireturn, 1) := by decide +kernel
theorem dX11_told_80 : decode cX11_told 80 = .ok (.aload_n 0, 1) := by decide +kernel
theorem dX11_told_81 : decode cX11_told 81 = .ok (.aload_n 0, 1) := by decide +kernel
theorem dX11_told_82 : decode cX11_told 82 = .ok (.getfield 37, 3) := by decide +kernel
theorem dX11_told_85 : decode cX11_told 85 = .ok (.getfield 189, 3) := by decide +kernel
theorem dX11_told_88 : decode cX11_told 88 = .ok (.invokevirtual 192, 3) := by decide +kernel
theorem dX11_told_91 : decode cX11_told 91 = .ok (.ireturn, 1) := by decide +kernel
theorem dX11_told_92 : decode cX11_told 92 = .ok (.aload_n 0, 1) := by decide +kernel
theorem dX11_told_93 : decode cX11_told 93 = .ok (.aload_n 0, 1) := by decide +kernel
theorem dX11_told_94 : decode cX11_told 94 = .ok (.getfield 37, 3) := by decide +kernel
theorem dX11_told_97 : decode cX11_told 97 = .ok (.getfield 217, 3) := by decide +kernel
theorem dX11_told_100 : decode cX11_told 100 = .ok (.invokevirtual 192, 3) := by decide +kernel
theorem dX11_told_103 : decode cX11_told 103 = .ok (.ireturn, 1) := by decide +kernel
theorem dX11_told_104 : decode cX11_told 104 = .ok (.aload_n 0, 1) := by decide +kernel
theorem dX11_told_105 : decode cX11_told 105 = .ok (.aload_n 0, 1) := by decide +kernel
theorem dX11_told_106 : decode cX11_told 106 = .ok (.getfield 37, 3) := by decide +kernel
theorem dX11_told_109 : decode cX11_told 109 = .ok (.getfield 220, 3) := by decide +kernel
theorem dX11_told_112 : decode cX11_told 112 = .ok (.invokevirtual 192, 3) := by decide +kernel
theorem dX11_told_115 : decode cX11_told 115 = .ok (.ireturn, 1) := by decide +kernel
theorem dX11_told_116 : decode cX11_told 116 = .ok (.aload_n 0, 1) := by decide +kernel
theorem dX11_told_117 : decode cX11_told 117 = .ok (.aload_n 0, 1) := by decide +kernel
theorem dX11_told_118 : decode cX11_told 118 = .ok (.getfield 37, 3) := by decide +kernel
theorem dX11_told_121 : decode cX11_told 121 = .ok (.getfield 223, 3) := by decide +kernel
theorem dX11_told_124 : decode cX11_told 124 = .ok (.invokevirtual 192, 3) := by decide +kernel
theorem dX11_told_127 : decode cX11_told 127 = .ok (.ireturn, 1) := by decide +kernel
theorem dX11_told_128 : decode cX11_told 128 = .ok (.aload_n 0, 1) := by decide +kernel
theorem dX11_told_129 : decode cX11_told 129 = .ok (.iconst 1, 1) := by decide +kernel
theorem dX11_told_130 : decode cX11_told 130 = .ok (.invokevirtual 138, 3) := by decide +kernel
theorem dX11_told_133 : decode cX11_told 133 = .ok (.ireturn, 1) := by decide +kernel
set_option maxRecDepth 100000 in
def f_X11_told_128 (l0 : Nat) (μ : dtM) : Option (Int32 × dtM) :=
  (opRv 11 μ l0).bind fun _ => opCall (f_X11_fail l0 (1 : Int32) μ) fun x4 μ2 => some (x4, μ2)
set_option maxRecDepth 100000 in
def f_X11_told_44 (l0 : Nat) (μ : dtM) : Option (Int32 × dtM) :=
  (opGR 11 5 μ l0).bind fun x1 => (opGI 3 0 μ x1).bind fun x3 => (opRv 11 μ l0).bind fun _ => opCall (f_X11_answer l0 x3 μ) fun x8 μ6 => some (x8, μ6)
set_option maxRecDepth 100000 in
def f_X11_told_56 (l0 : Nat) (μ : dtM) : Option (Int32 × dtM) :=
  (opGR 11 5 μ l0).bind fun x1 => (opGI 3 1 μ x1).bind fun x3 => (opRv 11 μ l0).bind fun _ => opCall (f_X11_answer l0 x3 μ) fun x8 μ6 => some (x8, μ6)
set_option maxRecDepth 100000 in
def f_X11_told_68 (l0 : Nat) (μ : dtM) : Option (Int32 × dtM) :=
  (opGR 11 5 μ l0).bind fun x1 => (opGI 3 2 μ x1).bind fun x3 => (opRv 11 μ l0).bind fun _ => opCall (f_X11_answer l0 x3 μ) fun x8 μ6 => some (x8, μ6)
set_option maxRecDepth 100000 in
def f_X11_told_80 (l0 : Nat) (μ : dtM) : Option (Int32 × dtM) :=
  (opGR 11 5 μ l0).bind fun x1 => (opGI 3 3 μ x1).bind fun x3 => (opRv 11 μ l0).bind fun _ => opCall (f_X11_answer l0 x3 μ) fun x8 μ6 => some (x8, μ6)
set_option maxRecDepth 100000 in
def f_X11_told_92 (l0 : Nat) (μ : dtM) : Option (Int32 × dtM) :=
  (opGR 11 5 μ l0).bind fun x1 => (opGI 3 4 μ x1).bind fun x3 => (opRv 11 μ l0).bind fun _ => opCall (f_X11_answer l0 x3 μ) fun x8 μ6 => some (x8, μ6)
set_option maxRecDepth 100000 in
def f_X11_told_104 (l0 : Nat) (μ : dtM) : Option (Int32 × dtM) :=
  (opGR 11 5 μ l0).bind fun x1 => (opGI 3 5 μ x1).bind fun x3 => (opRv 11 μ l0).bind fun _ => opCall (f_X11_answer l0 x3 μ) fun x8 μ6 => some (x8, μ6)
set_option maxRecDepth 100000 in
def f_X11_told_116 (l0 : Nat) (μ : dtM) : Option (Int32 × dtM) :=
  (opGR 11 5 μ l0).bind fun x1 => (opGI 3 6 μ x1).bind fun x3 => (opRv 11 μ l0).bind fun _ => opCall (f_X11_answer l0 x3 μ) fun x8 μ6 => some (x8, μ6)
set_option maxRecDepth 100000 in
def f_X11_told (p0 : Nat) (p1 : Int32) (μ : dtM) : Option (Int32 × dtM) :=
  if p1 = 0 then (f_X11_told_44 p0 μ) else if p1 = 1 then (f_X11_told_56 p0 μ) else if p1 = 2 then (f_X11_told_68 p0 μ) else if p1 = 3 then (f_X11_told_80 p0 μ) else if p1 = 4 then (f_X11_told_92 p0 μ) else if p1 = 5 then (f_X11_told_104 p0 μ) else if p1 = 6 then (f_X11_told_116 p0 μ) else f_X11_told_128 p0 μ
set_option maxRecDepth 100000 in
theorem c_X11_told_128 {r : Int32} {F : dtM} (l0 : Nat) (μ : dtM) (h : f_X11_told_128 l0 μ = some (r, F)) : dtW yX11_told cX11_told 2 (some .int) 2 (some (.int r)) F 128 [some (.ref l0)] [] μ := by
  rw [f_X11_told_128] at h
  refine dr_aload_n l0 dX11_told_128 rfl ?_
  refine dr_iconst (1 : Int32) dX11_told_129 (by decide) ?_
  obtain ⟨_, hb1, h⟩ := dtBind h
  obtain ⟨x4, μ2, e3, h⟩ := dtCall h
  refine dr_callV_i (S0 := []) [.int (1 : Int32)] x4 μ2 dX11_told_130 (c_X11_fail l0 (1 : Int32) μ e3) mf_X11_fail wt_510 ws_3 wt_508 rfl (dtRv hb1) (by decide) rfl (Nat.le_of_ble_eq_true rfl) (Nat.le_of_ble_eq_true rfl) rfl ?_
  cases h
  exact dr_ireturn dX11_told_133 rfl
set_option maxRecDepth 100000 in
theorem c_X11_told_44 {r : Int32} {F : dtM} (l0 : Nat) (μ : dtM) (h : f_X11_told_44 l0 μ = some (r, F)) : dtW yX11_told cX11_told 2 (some .int) 2 (some (.int r)) F 44 [some (.ref l0)] [] μ := by
  rw [f_X11_told_44] at h
  refine dr_aload_n l0 dX11_told_44 rfl ?_
  refine dr_aload_n l0 dX11_told_45 rfl ?_
  obtain ⟨x1, e2, h⟩ := dtBind h
  refine dr_getR x1 dX11_told_46 fl_RX11_37 e2 ?_
  obtain ⟨x3, e4, h⟩ := dtBind h
  refine dr_getI x3 dX11_told_49 fl_RX11_208 e4 ?_
  obtain ⟨_, hb5, h⟩ := dtBind h
  obtain ⟨x8, μ6, e7, h⟩ := dtCall h
  refine dr_callV_i (S0 := []) [.int x3] x8 μ6 dX11_told_52 (c_X11_answer l0 x3 μ e7) mf_X11_answer wt_764 ws_19 wt_762 rfl (dtRv hb5) (by decide) rfl (Nat.le_of_ble_eq_true rfl) (Nat.le_of_ble_eq_true rfl) rfl ?_
  cases h
  exact dr_ireturn dX11_told_55 rfl
set_option maxRecDepth 100000 in
theorem c_X11_told_56 {r : Int32} {F : dtM} (l0 : Nat) (μ : dtM) (h : f_X11_told_56 l0 μ = some (r, F)) : dtW yX11_told cX11_told 2 (some .int) 2 (some (.int r)) F 56 [some (.ref l0)] [] μ := by
  rw [f_X11_told_56] at h
  refine dr_aload_n l0 dX11_told_56 rfl ?_
  refine dr_aload_n l0 dX11_told_57 rfl ?_
  obtain ⟨x1, e2, h⟩ := dtBind h
  refine dr_getR x1 dX11_told_58 fl_RX11_37 e2 ?_
  obtain ⟨x3, e4, h⟩ := dtBind h
  refine dr_getI x3 dX11_told_61 fl_RX11_211 e4 ?_
  obtain ⟨_, hb5, h⟩ := dtBind h
  obtain ⟨x8, μ6, e7, h⟩ := dtCall h
  refine dr_callV_i (S0 := []) [.int x3] x8 μ6 dX11_told_64 (c_X11_answer l0 x3 μ e7) mf_X11_answer wt_764 ws_19 wt_762 rfl (dtRv hb5) (by decide) rfl (Nat.le_of_ble_eq_true rfl) (Nat.le_of_ble_eq_true rfl) rfl ?_
  cases h
  exact dr_ireturn dX11_told_67 rfl
set_option maxRecDepth 100000 in
theorem c_X11_told_68 {r : Int32} {F : dtM} (l0 : Nat) (μ : dtM) (h : f_X11_told_68 l0 μ = some (r, F)) : dtW yX11_told cX11_told 2 (some .int) 2 (some (.int r)) F 68 [some (.ref l0)] [] μ := by
  rw [f_X11_told_68] at h
  refine dr_aload_n l0 dX11_told_68 rfl ?_
  refine dr_aload_n l0 dX11_told_69 rfl ?_
  obtain ⟨x1, e2, h⟩ := dtBind h
  refine dr_getR x1 dX11_told_70 fl_RX11_37 e2 ?_
  obtain ⟨x3, e4, h⟩ := dtBind h
  refine dr_getI x3 dX11_told_73 fl_RX11_214 e4 ?_
  obtain ⟨_, hb5, h⟩ := dtBind h
  obtain ⟨x8, μ6, e7, h⟩ := dtCall h
  refine dr_callV_i (S0 := []) [.int x3] x8 μ6 dX11_told_76 (c_X11_answer l0 x3 μ e7) mf_X11_answer wt_764 ws_19 wt_762 rfl (dtRv hb5) (by decide) rfl (Nat.le_of_ble_eq_true rfl) (Nat.le_of_ble_eq_true rfl) rfl ?_
  cases h
  exact dr_ireturn dX11_told_79 rfl
set_option maxRecDepth 100000 in
theorem c_X11_told_80 {r : Int32} {F : dtM} (l0 : Nat) (μ : dtM) (h : f_X11_told_80 l0 μ = some (r, F)) : dtW yX11_told cX11_told 2 (some .int) 2 (some (.int r)) F 80 [some (.ref l0)] [] μ := by
  rw [f_X11_told_80] at h
  refine dr_aload_n l0 dX11_told_80 rfl ?_
  refine dr_aload_n l0 dX11_told_81 rfl ?_
  obtain ⟨x1, e2, h⟩ := dtBind h
  refine dr_getR x1 dX11_told_82 fl_RX11_37 e2 ?_
  obtain ⟨x3, e4, h⟩ := dtBind h
  refine dr_getI x3 dX11_told_85 fl_RX11_189 e4 ?_
  obtain ⟨_, hb5, h⟩ := dtBind h
  obtain ⟨x8, μ6, e7, h⟩ := dtCall h
  refine dr_callV_i (S0 := []) [.int x3] x8 μ6 dX11_told_88 (c_X11_answer l0 x3 μ e7) mf_X11_answer wt_764 ws_19 wt_762 rfl (dtRv hb5) (by decide) rfl (Nat.le_of_ble_eq_true rfl) (Nat.le_of_ble_eq_true rfl) rfl ?_
  cases h
  exact dr_ireturn dX11_told_91 rfl
set_option maxRecDepth 100000 in
theorem c_X11_told_92 {r : Int32} {F : dtM} (l0 : Nat) (μ : dtM) (h : f_X11_told_92 l0 μ = some (r, F)) : dtW yX11_told cX11_told 2 (some .int) 2 (some (.int r)) F 92 [some (.ref l0)] [] μ := by
  rw [f_X11_told_92] at h
  refine dr_aload_n l0 dX11_told_92 rfl ?_
  refine dr_aload_n l0 dX11_told_93 rfl ?_
  obtain ⟨x1, e2, h⟩ := dtBind h
  refine dr_getR x1 dX11_told_94 fl_RX11_37 e2 ?_
  obtain ⟨x3, e4, h⟩ := dtBind h
  refine dr_getI x3 dX11_told_97 fl_RX11_217 e4 ?_
  obtain ⟨_, hb5, h⟩ := dtBind h
  obtain ⟨x8, μ6, e7, h⟩ := dtCall h
  refine dr_callV_i (S0 := []) [.int x3] x8 μ6 dX11_told_100 (c_X11_answer l0 x3 μ e7) mf_X11_answer wt_764 ws_19 wt_762 rfl (dtRv hb5) (by decide) rfl (Nat.le_of_ble_eq_true rfl) (Nat.le_of_ble_eq_true rfl) rfl ?_
  cases h
  exact dr_ireturn dX11_told_103 rfl
set_option maxRecDepth 100000 in
theorem c_X11_told_104 {r : Int32} {F : dtM} (l0 : Nat) (μ : dtM) (h : f_X11_told_104 l0 μ = some (r, F)) : dtW yX11_told cX11_told 2 (some .int) 2 (some (.int r)) F 104 [some (.ref l0)] [] μ := by
  rw [f_X11_told_104] at h
  refine dr_aload_n l0 dX11_told_104 rfl ?_
  refine dr_aload_n l0 dX11_told_105 rfl ?_
  obtain ⟨x1, e2, h⟩ := dtBind h
  refine dr_getR x1 dX11_told_106 fl_RX11_37 e2 ?_
  obtain ⟨x3, e4, h⟩ := dtBind h
  refine dr_getI x3 dX11_told_109 fl_RX11_220 e4 ?_
  obtain ⟨_, hb5, h⟩ := dtBind h
  obtain ⟨x8, μ6, e7, h⟩ := dtCall h
  refine dr_callV_i (S0 := []) [.int x3] x8 μ6 dX11_told_112 (c_X11_answer l0 x3 μ e7) mf_X11_answer wt_764 ws_19 wt_762 rfl (dtRv hb5) (by decide) rfl (Nat.le_of_ble_eq_true rfl) (Nat.le_of_ble_eq_true rfl) rfl ?_
  cases h
  exact dr_ireturn dX11_told_115 rfl
set_option maxRecDepth 100000 in
theorem c_X11_told_116 {r : Int32} {F : dtM} (l0 : Nat) (μ : dtM) (h : f_X11_told_116 l0 μ = some (r, F)) : dtW yX11_told cX11_told 2 (some .int) 2 (some (.int r)) F 116 [some (.ref l0)] [] μ := by
  rw [f_X11_told_116] at h
  refine dr_aload_n l0 dX11_told_116 rfl ?_
  refine dr_aload_n l0 dX11_told_117 rfl ?_
  obtain ⟨x1, e2, h⟩ := dtBind h
  refine dr_getR x1 dX11_told_118 fl_RX11_37 e2 ?_
  obtain ⟨x3, e4, h⟩ := dtBind h
  refine dr_getI x3 dX11_told_121 fl_RX11_223 e4 ?_
  obtain ⟨_, hb5, h⟩ := dtBind h
  obtain ⟨x8, μ6, e7, h⟩ := dtCall h
  refine dr_callV_i (S0 := []) [.int x3] x8 μ6 dX11_told_124 (c_X11_answer l0 x3 μ e7) mf_X11_answer wt_764 ws_19 wt_762 rfl (dtRv hb5) (by decide) rfl (Nat.le_of_ble_eq_true rfl) (Nat.le_of_ble_eq_true rfl) rfl ?_
  cases h
  exact dr_ireturn dX11_told_127 rfl
set_option maxRecDepth 100000 in
theorem c_X11_told {r : Int32} {F : dtM} (p0 : Nat) (p1 : Int32) (μ : dtM) (h : f_X11_told p0 p1 μ = some (r, F)) : dtMet yX11_told cX11_told 2 (some .int) 2 [.ref p0, .int p1] μ (some (.int r)) F := by
  refine dtMet.of (by decide +kernel) (Nat.le_of_ble_eq_true rfl) (show dtW yX11_told cX11_told 2 (some .int) 2 (some (.int r)) F 0 [some (.ref p0), some (.int p1)] [] μ from ?_)
  rw [f_X11_told] at h
  refine dr_iload_n p1 dX11_told_0 rfl ?_
  obtain ⟨ht1, h⟩ := dtIte h
  refine Decidable.byCases (dec := inferInstance) (fun hc3 : p1 = 0 => ?_) (fun hc3 => ?_)
  · have h := ht1 hc3
    refine dr_tableIn (off := 43) 44 dX11_told_1 (by rw [hc3]; decide) (by rw [hc3]; decide) (by rw [hc3]; rfl) (by decide) ?_
    refine dr_mask [true] [some (.ref p0)] rfl ?_
    exact c_X11_told_44 p0 μ h
  have h := h hc3
  obtain ⟨ht4, h⟩ := dtIte h
  refine Decidable.byCases (dec := inferInstance) (fun hc6 : p1 = 1 => ?_) (fun hc6 => ?_)
  · have h := ht4 hc6
    refine dr_tableIn (off := 55) 56 dX11_told_1 (by rw [hc6]; decide) (by rw [hc6]; decide) (by rw [hc6]; rfl) (by decide) ?_
    refine dr_mask [true] [some (.ref p0)] rfl ?_
    exact c_X11_told_56 p0 μ h
  have h := h hc6
  obtain ⟨ht7, h⟩ := dtIte h
  refine Decidable.byCases (dec := inferInstance) (fun hc9 : p1 = 2 => ?_) (fun hc9 => ?_)
  · have h := ht7 hc9
    refine dr_tableIn (off := 67) 68 dX11_told_1 (by rw [hc9]; decide) (by rw [hc9]; decide) (by rw [hc9]; rfl) (by decide) ?_
    refine dr_mask [true] [some (.ref p0)] rfl ?_
    exact c_X11_told_68 p0 μ h
  have h := h hc9
  obtain ⟨ht10, h⟩ := dtIte h
  refine Decidable.byCases (dec := inferInstance) (fun hc12 : p1 = 3 => ?_) (fun hc12 => ?_)
  · have h := ht10 hc12
    refine dr_tableIn (off := 79) 80 dX11_told_1 (by rw [hc12]; decide) (by rw [hc12]; decide) (by rw [hc12]; rfl) (by decide) ?_
    refine dr_mask [true] [some (.ref p0)] rfl ?_
    exact c_X11_told_80 p0 μ h
  have h := h hc12
  obtain ⟨ht13, h⟩ := dtIte h
  refine Decidable.byCases (dec := inferInstance) (fun hc15 : p1 = 4 => ?_) (fun hc15 => ?_)
  · have h := ht13 hc15
    refine dr_tableIn (off := 91) 92 dX11_told_1 (by rw [hc15]; decide) (by rw [hc15]; decide) (by rw [hc15]; rfl) (by decide) ?_
    refine dr_mask [true] [some (.ref p0)] rfl ?_
    exact c_X11_told_92 p0 μ h
  have h := h hc15
  obtain ⟨ht16, h⟩ := dtIte h
  refine Decidable.byCases (dec := inferInstance) (fun hc18 : p1 = 5 => ?_) (fun hc18 => ?_)
  · have h := ht16 hc18
    refine dr_tableIn (off := 103) 104 dX11_told_1 (by rw [hc18]; decide) (by rw [hc18]; decide) (by rw [hc18]; rfl) (by decide) ?_
    refine dr_mask [true] [some (.ref p0)] rfl ?_
    exact c_X11_told_104 p0 μ h
  have h := h hc18
  obtain ⟨ht19, h⟩ := dtIte h
  refine Decidable.byCases (dec := inferInstance) (fun hc21 : p1 = 6 => ?_) (fun hc21 => ?_)
  · have h := ht19 hc21
    refine dr_tableIn (off := 115) 116 dX11_told_1 (by rw [hc21]; decide) (by rw [hc21]; decide) (by rw [hc21]; rfl) (by decide) ?_
    refine dr_mask [true] [some (.ref p0)] rfl ?_
    exact c_X11_told_116 p0 μ h
  have h := h hc21
  have kd22 : dtW yX11_told cX11_told 2 (some .int) 2 (some (.int r)) F 128 [some (.ref p0), some (.int p1)] [] μ := by
    refine dr_mask [true] [some (.ref p0)] rfl ?_
    exact c_X11_told_128 p0 μ h
  refine Decidable.byCases (dec := inferInstance) (fun hlo : (p1).toInt < 0 ∨ 6 < (p1).toInt => dr_tableOut 128 dX11_told_1 hlo (by decide) kd22) (fun hlo => ?_)
  obtain ⟨hl1, hl2⟩ := not_or.mp hlo
  have hv : (p1).toInt = 0 ∨ (p1).toInt = 1 ∨ (p1).toInt = 2 ∨ (p1).toInt = 3 ∨ (p1).toInt = 4 ∨ (p1).toInt = 5 ∨ (p1).toInt = 6 := by omega
  rcases hv with hv | hv | hv | hv | hv | hv | hv
  · exact absurd (Int32.toInt_inj.mp (hv.trans (show (0 : Int) = (0 : Int32).toInt by decide))) hc3
  · exact absurd (Int32.toInt_inj.mp (hv.trans (show (1 : Int) = (1 : Int32).toInt by decide))) hc6
  · exact absurd (Int32.toInt_inj.mp (hv.trans (show (2 : Int) = (2 : Int32).toInt by decide))) hc9
  · exact absurd (Int32.toInt_inj.mp (hv.trans (show (3 : Int) = (3 : Int32).toInt by decide))) hc12
  · exact absurd (Int32.toInt_inj.mp (hv.trans (show (4 : Int) = (4 : Int32).toInt by decide))) hc15
  · exact absurd (Int32.toInt_inj.mp (hv.trans (show (5 : Int) = (5 : Int32).toInt by decide))) hc18
  · exact absurd (Int32.toInt_inj.mp (hv.trans (show (6 : Int) = (6 : Int32).toInt by decide))) hc21
/-! X11_door -/
theorem dX11_door_0 : decode cX11_door 0 = .ok (.aload_n 0, 1) := by decide +kernel
theorem dX11_door_1 : decode cX11_door 1 = .ok (.getfield 37, 3) := by decide +kernel
theorem dX11_door_4 : decode cX11_door 4 = .ok (.iload_n 1, 1) := by decide +kernel
theorem dX11_door_5 : decode cX11_door 5 = .ok (.invokevirtual 226, 3) := by decide +kernel
theorem dX11_door_8 : decode cX11_door 8 = .ok (.ifCond .ne 9, 3) := by decide +kernel
theorem dX11_door_11 : decode cX11_door 11 = .ok (.aload_n 0, 1) := by decide +kernel
theorem dX11_door_12 : decode cX11_door 12 = .ok (.iconst 1, 1) := by decide +kernel
theorem dX11_door_13 : decode cX11_door 13 = .ok (.invokevirtual 138, 3) := by decide +kernel
theorem dX11_door_16 : decode cX11_door 16 = .ok (.ireturn, 1) := by decide +kernel
theorem dX11_door_17 : decode cX11_door 17 = .ok (.iload_n 2, 1) := by decide +kernel
theorem dX11_door_18 : decode cX11_door 18 = .ok (.tableswitch 93 0 3 #[30, 44, 58, 72], 30) := by decide +kernel
theorem dX11_door_48 : decode cX11_door 48 = .ok (.aload_n 0, 1) := by decide +kernel
theorem dX11_door_49 : decode cX11_door 49 = .ok (.aload_n 0, 1) := by decide +kernel
theorem dX11_door_50 : decode cX11_door 50 = .ok (.getfield 37, 3) := by decide +kernel
theorem dX11_door_53 : decode cX11_door 53 = .ok (.getfield 229, 3) := by decide +kernel
theorem dX11_door_56 : decode cX11_door 56 = .ok (.iload_n 1, 1) := by decide +kernel
theorem dX11_door_57 : decode cX11_door 57 = .ok (.iaload, 1) := by decide +kernel
theorem dX11_door_58 : decode cX11_door 58 = .ok (.invokevirtual 192, 3) := by decide +kernel
theorem dX11_door_61 : decode cX11_door 61 = .ok (.ireturn, 1) := by decide +kernel
theorem dX11_door_62 : decode cX11_door 62 = .ok (.aload_n 0, 1) := by decide +kernel
theorem dX11_door_63 : decode cX11_door 63 = .ok (.aload_n 0, 1) := by decide +kernel
theorem dX11_door_64 : decode cX11_door 64 = .ok (.getfield 37, 3) := by decide +kernel
theorem dX11_door_67 : decode cX11_door 67 = .ok (.getfield 232, 3) := by decide +kernel
theorem dX11_door_70 : decode cX11_door 70 = .ok (.iload_n 1, 1) := by decide +kernel
theorem dX11_door_71 : decode cX11_door 71 = .ok (.iaload, 1) := by decide +kernel
theorem dX11_door_72 : decode cX11_door 72 = .ok (.invokevirtual 192, 3) := by decide +kernel
theorem dX11_door_75 : decode cX11_door 75 = .ok (.ireturn, 1) := by decide +kernel
theorem dX11_door_76 : decode cX11_door 76 = .ok (.aload_n 0, 1) := by decide +kernel
theorem dX11_door_77 : decode cX11_door 77 = .ok (.aload_n 0, 1) := by decide +kernel
theorem dX11_door_78 : decode cX11_door 78 = .ok (.getfield 37, 3) := by decide +kernel
theorem dX11_door_81 : decode cX11_door 81 = .ok (.getfield 235, 3) := by decide +kernel
theorem dX11_door_84 : decode cX11_door 84 = .ok (.iload_n 1, 1) := by decide +kernel
theorem dX11_door_85 : decode cX11_door 85 = .ok (.iaload, 1) := by decide +kernel
theorem dX11_door_86 : decode cX11_door 86 = .ok (.invokevirtual 192, 3) := by decide +kernel
theorem dX11_door_89 : decode cX11_door 89 = .ok (.ireturn, 1) := by decide +kernel
theorem dX11_door_90 : decode cX11_door 90 = .ok (.aload_n 0, 1) := by decide +kernel
theorem dX11_door_91 : decode cX11_door 91 = .ok (.aload_n 0, 1) := by decide +kernel
theorem dX11_door_92 : decode cX11_door 92 = .ok (.getfield 37, 3) := by decide +kernel
theorem dX11_door_95 : decode cX11_door 95 = .ok (.iload_n 1, 1) := by decide +kernel
theorem dX11_door_96 : decode cX11_door 96 = .ok (.invokevirtual 238, 3) := by decide +kernel
theorem dX11_door_99 : decode cX11_door 99 = .ok (.ifCond .eq 7, 3) := by decide +kernel
theorem dX11_door_102 : decode cX11_door 102 = .ok (.iconst 1, 1) := by decide +kernel
theorem dX11_door_103 : decode cX11_door 103 = .ok (.goto 4, 3) := by decide +kernel
theorem dX11_door_106 : decode cX11_door 106 = .ok (.iconst 0, 1) := by decide +kernel
theorem dX11_door_107 : decode cX11_door 107 = .ok (.invokevirtual 192, 3) := by decide +kernel
theorem dX11_door_110 : decode cX11_door 110 = .ok (.ireturn, 1) := by decide +kernel
theorem dX11_door_111 : decode cX11_door 111 = .ok (.aload_n 0, 1) := by decide +kernel
theorem dX11_door_112 : decode cX11_door 112 = .ok (.iconst 1, 1) := by decide +kernel
theorem dX11_door_113 : decode cX11_door 113 = .ok (.invokevirtual 138, 3) := by decide +kernel
theorem dX11_door_116 : decode cX11_door 116 = .ok (.ireturn, 1) := by decide +kernel
set_option maxRecDepth 100000 in
def f_X11_door_111 (l0 : Nat) (μ : dtM) : Option (Int32 × dtM) :=
  (opRv 11 μ l0).bind fun _ => opCall (f_X11_fail l0 (1 : Int32) μ) fun x4 μ2 => some (x4, μ2)
set_option maxRecDepth 100000 in
def f_X11_door_48 (l0 : Nat) (l1 : Int32) (μ : dtM) : Option (Int32 × dtM) :=
  (opGR 11 5 μ l0).bind fun x1 => (opGR 3 9 μ x1).bind fun x3 => (opLI 1 μ x3 l1).bind fun x5 => (opRv 11 μ l0).bind fun _ => opCall (f_X11_answer l0 x5 μ) fun x10 μ8 => some (x10, μ8)
set_option maxRecDepth 100000 in
def f_X11_door_62 (l0 : Nat) (l1 : Int32) (μ : dtM) : Option (Int32 × dtM) :=
  (opGR 11 5 μ l0).bind fun x1 => (opGR 3 10 μ x1).bind fun x3 => (opLI 1 μ x3 l1).bind fun x5 => (opRv 11 μ l0).bind fun _ => opCall (f_X11_answer l0 x5 μ) fun x10 μ8 => some (x10, μ8)
set_option maxRecDepth 100000 in
def f_X11_door_76 (l0 : Nat) (l1 : Int32) (μ : dtM) : Option (Int32 × dtM) :=
  (opGR 11 5 μ l0).bind fun x1 => (opGR 3 11 μ x1).bind fun x3 => (opLI 1 μ x3 l1).bind fun x5 => (opRv 11 μ l0).bind fun _ => opCall (f_X11_answer l0 x5 μ) fun x10 μ8 => some (x10, μ8)
set_option maxRecDepth 100000 in
def f_X11_door_107 (s0 : Nat) (s1 : Int32) (μ : dtM) : Option (Int32 × dtM) :=
  (opRv 11 μ s0).bind fun _ => opCall (f_X11_answer s0 s1 μ) fun x4 μ2 => some (x4, μ2)
set_option maxRecDepth 100000 in
def f_X11_door_90 (l0 : Nat) (l1 : Int32) (μ : dtM) : Option (Int32 × dtM) :=
  (opGR 11 5 μ l0).bind fun x1 => (opRv 3 μ x1).bind fun _ => opCall (f_X3_isOpen x1 l1 μ) fun x6 μ4 => if x6 = 0 then (f_X11_door_107 l0 (0 : Int32) μ4) else (f_X11_door_107 l0 (1 : Int32) μ4)
set_option maxRecDepth 100000 in
def f_X11_door (p0 : Nat) (p1 : Int32) (p2 : Int32) (μ : dtM) : Option (Int32 × dtM) :=
  (opGR 11 5 μ p0).bind fun x1 => (opRv 3 μ x1).bind fun _ => opCall (f_X3_hasDoor x1 p1 μ) fun x6 μ4 => if x6 = 0 then ((opRv 11 μ4 p0).bind fun _ => opCall (f_X11_fail p0 (1 : Int32) μ4) fun x26 μ24 => some (x26, μ24)) else (if p2 = 0 then (f_X11_door_48 p0 p1 μ4) else if p2 = 1 then (f_X11_door_62 p0 p1 μ4) else if p2 = 2 then (f_X11_door_76 p0 p1 μ4) else if p2 = 3 then (f_X11_door_90 p0 p1 μ4) else f_X11_door_111 p0 μ4)
set_option maxRecDepth 100000 in
theorem c_X11_door_111 {r : Int32} {F : dtM} (l0 : Nat) (μ : dtM) (h : f_X11_door_111 l0 μ = some (r, F)) : dtW yX11_door cX11_door 3 (some .int) 3 (some (.int r)) F 111 [some (.ref l0)] [] μ := by
  rw [f_X11_door_111] at h
  refine dr_aload_n l0 dX11_door_111 rfl ?_
  refine dr_iconst (1 : Int32) dX11_door_112 (by decide) ?_
  obtain ⟨_, hb1, h⟩ := dtBind h
  obtain ⟨x4, μ2, e3, h⟩ := dtCall h
  refine dr_callV_i (S0 := []) [.int (1 : Int32)] x4 μ2 dX11_door_113 (c_X11_fail l0 (1 : Int32) μ e3) mf_X11_fail wt_510 ws_3 wt_508 rfl (dtRv hb1) (by decide) rfl (Nat.le_of_ble_eq_true rfl) (Nat.le_of_ble_eq_true rfl) rfl ?_
  cases h
  exact dr_ireturn dX11_door_116 rfl
set_option maxRecDepth 100000 in
theorem c_X11_door_48 {r : Int32} {F : dtM} (l0 : Nat) (l1 : Int32) (μ : dtM) (h : f_X11_door_48 l0 l1 μ = some (r, F)) : dtW yX11_door cX11_door 3 (some .int) 3 (some (.int r)) F 48 [some (.ref l0), some (.int l1)] [] μ := by
  rw [f_X11_door_48] at h
  refine dr_aload_n l0 dX11_door_48 rfl ?_
  refine dr_aload_n l0 dX11_door_49 rfl ?_
  obtain ⟨x1, e2, h⟩ := dtBind h
  refine dr_getR x1 dX11_door_50 fl_RX11_37 e2 ?_
  obtain ⟨x3, e4, h⟩ := dtBind h
  refine dr_getR x3 dX11_door_53 fl_RX11_229 e4 ?_
  refine dr_iload_n l1 dX11_door_56 rfl ?_
  obtain ⟨x5, e6, h⟩ := dtBind h
  refine dr_iaload x5 dX11_door_57 e6 ?_
  obtain ⟨_, hb7, h⟩ := dtBind h
  obtain ⟨x10, μ8, e9, h⟩ := dtCall h
  refine dr_callV_i (S0 := []) [.int x5] x10 μ8 dX11_door_58 (c_X11_answer l0 x5 μ e9) mf_X11_answer wt_764 ws_19 wt_762 rfl (dtRv hb7) (by decide) rfl (Nat.le_of_ble_eq_true rfl) (Nat.le_of_ble_eq_true rfl) rfl ?_
  cases h
  exact dr_ireturn dX11_door_61 rfl
set_option maxRecDepth 100000 in
theorem c_X11_door_62 {r : Int32} {F : dtM} (l0 : Nat) (l1 : Int32) (μ : dtM) (h : f_X11_door_62 l0 l1 μ = some (r, F)) : dtW yX11_door cX11_door 3 (some .int) 3 (some (.int r)) F 62 [some (.ref l0), some (.int l1)] [] μ := by
  rw [f_X11_door_62] at h
  refine dr_aload_n l0 dX11_door_62 rfl ?_
  refine dr_aload_n l0 dX11_door_63 rfl ?_
  obtain ⟨x1, e2, h⟩ := dtBind h
  refine dr_getR x1 dX11_door_64 fl_RX11_37 e2 ?_
  obtain ⟨x3, e4, h⟩ := dtBind h
  refine dr_getR x3 dX11_door_67 fl_RX11_232 e4 ?_
  refine dr_iload_n l1 dX11_door_70 rfl ?_
  obtain ⟨x5, e6, h⟩ := dtBind h
  refine dr_iaload x5 dX11_door_71 e6 ?_
  obtain ⟨_, hb7, h⟩ := dtBind h
  obtain ⟨x10, μ8, e9, h⟩ := dtCall h
  refine dr_callV_i (S0 := []) [.int x5] x10 μ8 dX11_door_72 (c_X11_answer l0 x5 μ e9) mf_X11_answer wt_764 ws_19 wt_762 rfl (dtRv hb7) (by decide) rfl (Nat.le_of_ble_eq_true rfl) (Nat.le_of_ble_eq_true rfl) rfl ?_
  cases h
  exact dr_ireturn dX11_door_75 rfl
set_option maxRecDepth 100000 in
theorem c_X11_door_76 {r : Int32} {F : dtM} (l0 : Nat) (l1 : Int32) (μ : dtM) (h : f_X11_door_76 l0 l1 μ = some (r, F)) : dtW yX11_door cX11_door 3 (some .int) 3 (some (.int r)) F 76 [some (.ref l0), some (.int l1)] [] μ := by
  rw [f_X11_door_76] at h
  refine dr_aload_n l0 dX11_door_76 rfl ?_
  refine dr_aload_n l0 dX11_door_77 rfl ?_
  obtain ⟨x1, e2, h⟩ := dtBind h
  refine dr_getR x1 dX11_door_78 fl_RX11_37 e2 ?_
  obtain ⟨x3, e4, h⟩ := dtBind h
  refine dr_getR x3 dX11_door_81 fl_RX11_235 e4 ?_
  refine dr_iload_n l1 dX11_door_84 rfl ?_
  obtain ⟨x5, e6, h⟩ := dtBind h
  refine dr_iaload x5 dX11_door_85 e6 ?_
  obtain ⟨_, hb7, h⟩ := dtBind h
  obtain ⟨x10, μ8, e9, h⟩ := dtCall h
  refine dr_callV_i (S0 := []) [.int x5] x10 μ8 dX11_door_86 (c_X11_answer l0 x5 μ e9) mf_X11_answer wt_764 ws_19 wt_762 rfl (dtRv hb7) (by decide) rfl (Nat.le_of_ble_eq_true rfl) (Nat.le_of_ble_eq_true rfl) rfl ?_
  cases h
  exact dr_ireturn dX11_door_89 rfl
set_option maxRecDepth 100000 in
theorem c_X11_door_107 {r : Int32} {F : dtM} (s0 : Nat) (s1 : Int32) (μ : dtM) (h : f_X11_door_107 s0 s1 μ = some (r, F)) : dtW yX11_door cX11_door 3 (some .int) 3 (some (.int r)) F 107 [] [.int s1, .ref s0] μ := by
  rw [f_X11_door_107] at h
  obtain ⟨_, hb1, h⟩ := dtBind h
  obtain ⟨x4, μ2, e3, h⟩ := dtCall h
  refine dr_callV_i (S0 := []) [.int s1] x4 μ2 dX11_door_107 (c_X11_answer s0 s1 μ e3) mf_X11_answer wt_764 ws_19 wt_762 rfl (dtRv hb1) (by decide) rfl (Nat.le_of_ble_eq_true rfl) (Nat.le_of_ble_eq_true rfl) rfl ?_
  cases h
  exact dr_ireturn dX11_door_110 rfl
set_option maxRecDepth 100000 in
theorem c_X11_door_90 {r : Int32} {F : dtM} (l0 : Nat) (l1 : Int32) (μ : dtM) (h : f_X11_door_90 l0 l1 μ = some (r, F)) : dtW yX11_door cX11_door 3 (some .int) 3 (some (.int r)) F 90 [some (.ref l0), some (.int l1)] [] μ := by
  rw [f_X11_door_90] at h
  refine dr_aload_n l0 dX11_door_90 rfl ?_
  refine dr_aload_n l0 dX11_door_91 rfl ?_
  obtain ⟨x1, e2, h⟩ := dtBind h
  refine dr_getR x1 dX11_door_92 fl_RX11_37 e2 ?_
  refine dr_iload_n l1 dX11_door_95 rfl ?_
  obtain ⟨_, hb3, h⟩ := dtBind h
  obtain ⟨x6, μ4, e5, h⟩ := dtCall h
  refine dr_callV_i (S0 := [.ref l0]) [.int l1] x6 μ4 dX11_door_96 (c_X3_isOpen x1 l1 μ e5) mf_X3_isOpen wt_845 wt_846 wt_844 rfl (dtRv hb3) (by decide) rfl (Nat.le_of_ble_eq_true rfl) (Nat.le_of_ble_eq_true rfl) rfl ?_
  obtain ⟨ht8, hf9⟩ := dtIte h
  refine dr_if_eq 106 dX11_door_99 (by decide) (fun hc7 => ?_) (fun hc7 => ?_)
  · have h := ht8 hc7
    refine dr_iconst (0 : Int32) dX11_door_106 (by decide) ?_
    refine dr_mask [] [] rfl ?_
    exact c_X11_door_107 l0 (0 : Int32) μ4 h
  · have h := hf9 hc7
    refine dr_iconst (1 : Int32) dX11_door_102 (by decide) ?_
    refine dr_goto 107 dX11_door_103 (by decide) ?_
    refine dr_mask [] [] rfl ?_
    exact c_X11_door_107 l0 (1 : Int32) μ4 h
set_option maxRecDepth 100000 in
theorem c_X11_door {r : Int32} {F : dtM} (p0 : Nat) (p1 : Int32) (p2 : Int32) (μ : dtM) (h : f_X11_door p0 p1 p2 μ = some (r, F)) : dtMet yX11_door cX11_door 3 (some .int) 3 [.ref p0, .int p1, .int p2] μ (some (.int r)) F := by
  refine dtMet.of (by decide +kernel) (Nat.le_of_ble_eq_true rfl) (show dtW yX11_door cX11_door 3 (some .int) 3 (some (.int r)) F 0 [some (.ref p0), some (.int p1), some (.int p2)] [] μ from ?_)
  rw [f_X11_door] at h
  refine dr_aload_n p0 dX11_door_0 rfl ?_
  obtain ⟨x1, e2, h⟩ := dtBind h
  refine dr_getR x1 dX11_door_1 fl_RX11_37 e2 ?_
  refine dr_iload_n p1 dX11_door_4 rfl ?_
  obtain ⟨_, hb3, h⟩ := dtBind h
  obtain ⟨x6, μ4, e5, h⟩ := dtCall h
  refine dr_callV_i (S0 := []) [.int p1] x6 μ4 dX11_door_5 (c_X3_hasDoor x1 p1 μ e5) mf_X3_hasDoor wt_841 wt_842 wt_840 rfl (dtRv hb3) (by decide) rfl (Nat.le_of_ble_eq_true rfl) (Nat.le_of_ble_eq_true rfl) rfl ?_
  obtain ⟨ht8, hf9⟩ := dtIte h
  refine dr_if_ne 17 dX11_door_8 (by decide) (fun hc7 => ?_) (fun hc7 => ?_)
  · have h := hf9 hc7
    refine dr_iload_n p2 dX11_door_17 rfl ?_
    obtain ⟨ht10, h⟩ := dtIte h
    refine Decidable.byCases (dec := inferInstance) (fun hc12 : p2 = 0 => ?_) (fun hc12 => ?_)
    · have h := ht10 hc12
      refine dr_tableIn (off := 30) 48 dX11_door_18 (by rw [hc12]; decide) (by rw [hc12]; decide) (by rw [hc12]; rfl) (by decide) ?_
      refine dr_mask [true, true] [some (.ref p0), some (.int p1)] rfl ?_
      exact c_X11_door_48 p0 p1 μ4 h
    have h := h hc12
    obtain ⟨ht13, h⟩ := dtIte h
    refine Decidable.byCases (dec := inferInstance) (fun hc15 : p2 = 1 => ?_) (fun hc15 => ?_)
    · have h := ht13 hc15
      refine dr_tableIn (off := 44) 62 dX11_door_18 (by rw [hc15]; decide) (by rw [hc15]; decide) (by rw [hc15]; rfl) (by decide) ?_
      refine dr_mask [true, true] [some (.ref p0), some (.int p1)] rfl ?_
      exact c_X11_door_62 p0 p1 μ4 h
    have h := h hc15
    obtain ⟨ht16, h⟩ := dtIte h
    refine Decidable.byCases (dec := inferInstance) (fun hc18 : p2 = 2 => ?_) (fun hc18 => ?_)
    · have h := ht16 hc18
      refine dr_tableIn (off := 58) 76 dX11_door_18 (by rw [hc18]; decide) (by rw [hc18]; decide) (by rw [hc18]; rfl) (by decide) ?_
      refine dr_mask [true, true] [some (.ref p0), some (.int p1)] rfl ?_
      exact c_X11_door_76 p0 p1 μ4 h
    have h := h hc18
    obtain ⟨ht19, h⟩ := dtIte h
    refine Decidable.byCases (dec := inferInstance) (fun hc21 : p2 = 3 => ?_) (fun hc21 => ?_)
    · have h := ht19 hc21
      refine dr_tableIn (off := 72) 90 dX11_door_18 (by rw [hc21]; decide) (by rw [hc21]; decide) (by rw [hc21]; rfl) (by decide) ?_
      refine dr_mask [true, true] [some (.ref p0), some (.int p1)] rfl ?_
      exact c_X11_door_90 p0 p1 μ4 h
    have h := h hc21
    have kd22 : dtW yX11_door cX11_door 3 (some .int) 3 (some (.int r)) F 111 [some (.ref p0), some (.int p1), some (.int p2)] [] μ4 := by
      refine dr_mask [true] [some (.ref p0)] rfl ?_
      exact c_X11_door_111 p0 μ4 h
    refine Decidable.byCases (dec := inferInstance) (fun hlo : (p2).toInt < 0 ∨ 3 < (p2).toInt => dr_tableOut 111 dX11_door_18 hlo (by decide) kd22) (fun hlo => ?_)
    obtain ⟨hl1, hl2⟩ := not_or.mp hlo
    have hv : (p2).toInt = 0 ∨ (p2).toInt = 1 ∨ (p2).toInt = 2 ∨ (p2).toInt = 3 := by omega
    rcases hv with hv | hv | hv | hv
    · exact absurd (Int32.toInt_inj.mp (hv.trans (show (0 : Int) = (0 : Int32).toInt by decide))) hc12
    · exact absurd (Int32.toInt_inj.mp (hv.trans (show (1 : Int) = (1 : Int32).toInt by decide))) hc15
    · exact absurd (Int32.toInt_inj.mp (hv.trans (show (2 : Int) = (2 : Int32).toInt by decide))) hc18
    · exact absurd (Int32.toInt_inj.mp (hv.trans (show (3 : Int) = (3 : Int32).toInt by decide))) hc21
  · have h := ht8 hc7
    refine dr_aload_n p0 dX11_door_11 rfl ?_
    refine dr_iconst (1 : Int32) dX11_door_12 (by decide) ?_
    obtain ⟨_, hb23, h⟩ := dtBind h
    obtain ⟨x26, μ24, e25, h⟩ := dtCall h
    refine dr_callV_i (S0 := []) [.int (1 : Int32)] x26 μ24 dX11_door_13 (c_X11_fail p0 (1 : Int32) μ4 e25) mf_X11_fail wt_510 ws_3 wt_508 rfl (dtRv hb23) (by decide) rfl (Nat.le_of_ble_eq_true rfl) (Nat.le_of_ble_eq_true rfl) rfl ?_
    cases h
    exact dr_ireturn dX11_door_16 rfl
/-! X11_says -/
theorem dX11_says_0 : decode cX11_says 0 = .ok (.aload_n 0, 1) := by decide +kernel
theorem dX11_says_1 : decode cX11_says 1 = .ok (.getfield 37, 3) := by decide +kernel
theorem dX11_says_4 : decode cX11_says 4 = .ok (.iload_n 1, 1) := by decide +kernel
theorem dX11_says_5 : decode cX11_says 5 = .ok (.invokevirtual 241, 3) := by decide +kernel
theorem dX11_says_8 : decode cX11_says 8 = .ok (.ifCond .ne 9, 3) := by decide +kernel
theorem dX11_says_11 : decode cX11_says 11 = .ok (.aload_n 0, 1) := by decide +kernel
theorem dX11_says_12 : decode cX11_says 12 = .ok (.iconst 1, 1) := by decide +kernel
theorem dX11_says_13 : decode cX11_says 13 = .ok (.invokevirtual 138, 3) := by decide +kernel
theorem dX11_says_16 : decode cX11_says 16 = .ok (.ireturn, 1) := by decide +kernel
theorem dX11_says_17 : decode cX11_says 17 = .ok (.aload_n 0, 1) := by decide +kernel
theorem dX11_says_18 : decode cX11_says 18 = .ok (.aload_n 0, 1) := by decide +kernel
theorem dX11_says_19 : decode cX11_says 19 = .ok (.getfield 37, 3) := by decide +kernel
theorem dX11_says_22 : decode cX11_says 22 = .ok (.getfield 244, 3) := by decide +kernel
theorem dX11_says_25 : decode cX11_says 25 = .ok (.iload_n 1, 1) := by decide +kernel
theorem dX11_says_26 : decode cX11_says 26 = .ok (.iaload, 1) := by decide +kernel
theorem dX11_says_27 : decode cX11_says 27 = .ok (.invokevirtual 192, 3) := by decide +kernel
theorem dX11_says_30 : decode cX11_says 30 = .ok (.ireturn, 1) := by decide +kernel
set_option maxRecDepth 100000 in
def f_X11_says (p0 : Nat) (p1 : Int32) (μ : dtM) : Option (Int32 × dtM) :=
  (opGR 11 5 μ p0).bind fun x1 => (opRv 3 μ x1).bind fun _ => opCall (f_X3_hasWord x1 p1 μ) fun x6 μ4 => if x6 = 0 then ((opRv 11 μ4 p0).bind fun _ => opCall (f_X11_fail p0 (1 : Int32) μ4) fun x23 μ21 => some (x23, μ21)) else ((opGR 11 5 μ4 p0).bind fun x10 => (opGR 3 12 μ4 x10).bind fun x12 => (opLI 1 μ4 x12 p1).bind fun x14 => (opRv 11 μ4 p0).bind fun _ => opCall (f_X11_answer p0 x14 μ4) fun x19 μ17 => some (x19, μ17))
set_option maxRecDepth 100000 in
theorem c_X11_says {r : Int32} {F : dtM} (p0 : Nat) (p1 : Int32) (μ : dtM) (h : f_X11_says p0 p1 μ = some (r, F)) : dtMet yX11_says cX11_says 2 (some .int) 2 [.ref p0, .int p1] μ (some (.int r)) F := by
  refine dtMet.of (by decide +kernel) (Nat.le_of_ble_eq_true rfl) (show dtW yX11_says cX11_says 2 (some .int) 2 (some (.int r)) F 0 [some (.ref p0), some (.int p1)] [] μ from ?_)
  rw [f_X11_says] at h
  refine dr_aload_n p0 dX11_says_0 rfl ?_
  obtain ⟨x1, e2, h⟩ := dtBind h
  refine dr_getR x1 dX11_says_1 fl_RX11_37 e2 ?_
  refine dr_iload_n p1 dX11_says_4 rfl ?_
  obtain ⟨_, hb3, h⟩ := dtBind h
  obtain ⟨x6, μ4, e5, h⟩ := dtCall h
  refine dr_callV_i (S0 := []) [.int p1] x6 μ4 dX11_says_5 (c_X3_hasWord x1 p1 μ e5) mf_X3_hasWord wt_854 wt_855 wt_853 rfl (dtRv hb3) (by decide) rfl (Nat.le_of_ble_eq_true rfl) (Nat.le_of_ble_eq_true rfl) rfl ?_
  obtain ⟨ht8, hf9⟩ := dtIte h
  refine dr_if_ne 17 dX11_says_8 (by decide) (fun hc7 => ?_) (fun hc7 => ?_)
  · have h := hf9 hc7
    refine dr_aload_n p0 dX11_says_17 rfl ?_
    refine dr_aload_n p0 dX11_says_18 rfl ?_
    obtain ⟨x10, e11, h⟩ := dtBind h
    refine dr_getR x10 dX11_says_19 fl_RX11_37 e11 ?_
    obtain ⟨x12, e13, h⟩ := dtBind h
    refine dr_getR x12 dX11_says_22 fl_RX11_244 e13 ?_
    refine dr_iload_n p1 dX11_says_25 rfl ?_
    obtain ⟨x14, e15, h⟩ := dtBind h
    refine dr_iaload x14 dX11_says_26 e15 ?_
    obtain ⟨_, hb16, h⟩ := dtBind h
    obtain ⟨x19, μ17, e18, h⟩ := dtCall h
    refine dr_callV_i (S0 := []) [.int x14] x19 μ17 dX11_says_27 (c_X11_answer p0 x14 μ4 e18) mf_X11_answer wt_764 ws_19 wt_762 rfl (dtRv hb16) (by decide) rfl (Nat.le_of_ble_eq_true rfl) (Nat.le_of_ble_eq_true rfl) rfl ?_
    cases h
    exact dr_ireturn dX11_says_30 rfl
  · have h := ht8 hc7
    refine dr_aload_n p0 dX11_says_11 rfl ?_
    refine dr_iconst (1 : Int32) dX11_says_12 (by decide) ?_
    obtain ⟨_, hb20, h⟩ := dtBind h
    obtain ⟨x23, μ21, e22, h⟩ := dtCall h
    refine dr_callV_i (S0 := []) [.int (1 : Int32)] x23 μ21 dX11_says_13 (c_X11_fail p0 (1 : Int32) μ4 e22) mf_X11_fail wt_510 ws_3 wt_508 rfl (dtRv hb20) (by decide) rfl (Nat.le_of_ble_eq_true rfl) (Nat.le_of_ble_eq_true rfl) rfl ?_
    cases h
    exact dr_ireturn dX11_says_16 rfl
/-! X11_saysAt -/
theorem dX11_saysAt_0 : decode cX11_saysAt 0 = .ok (.aload_n 0, 1) := by decide +kernel
theorem dX11_saysAt_1 : decode cX11_saysAt 1 = .ok (.getfield 37, 3) := by decide +kernel
theorem dX11_saysAt_4 : decode cX11_saysAt 4 = .ok (.iload_n 1, 1) := by decide +kernel
theorem dX11_saysAt_5 : decode cX11_saysAt 5 = .ok (.invokevirtual 241, 3) := by decide +kernel
theorem dX11_saysAt_8 : decode cX11_saysAt 8 = .ok (.ifCond .eq 7, 3) := by decide +kernel
theorem dX11_saysAt_11 : decode cX11_saysAt 11 = .ok (.iload_n 2, 1) := by decide +kernel
theorem dX11_saysAt_12 : decode cX11_saysAt 12 = .ok (.ifCond .ge 9, 3) := by decide +kernel
theorem dX11_saysAt_15 : decode cX11_saysAt 15 = .ok (.aload_n 0, 1) := by decide +kernel
theorem dX11_saysAt_16 : decode cX11_saysAt 16 = .ok (.iconst 1, 1) := by decide +kernel
theorem dX11_saysAt_17 : decode cX11_saysAt 17 = .ok (.invokevirtual 138, 3) := by decide +kernel
theorem dX11_saysAt_20 : decode cX11_saysAt 20 = .ok (.ireturn, 1) := by decide +kernel
theorem dX11_saysAt_21 : decode cX11_saysAt 21 = .ok (.iload_n 2, 1) := by decide +kernel
theorem dX11_saysAt_22 : decode cX11_saysAt 22 = .ok (.aload_n 0, 1) := by decide +kernel
theorem dX11_saysAt_23 : decode cX11_saysAt 23 = .ok (.getfield 37, 3) := by decide +kernel
theorem dX11_saysAt_26 : decode cX11_saysAt 26 = .ok (.getfield 244, 3) := by decide +kernel
theorem dX11_saysAt_29 : decode cX11_saysAt 29 = .ok (.iload_n 1, 1) := by decide +kernel
theorem dX11_saysAt_30 : decode cX11_saysAt 30 = .ok (.iaload, 1) := by decide +kernel
theorem dX11_saysAt_31 : decode cX11_saysAt 31 = .ok (.if_icmp .lt 10, 3) := by decide +kernel
theorem dX11_saysAt_34 : decode cX11_saysAt 34 = .ok (.aload_n 0, 1) := by decide +kernel
theorem dX11_saysAt_35 : decode cX11_saysAt 35 = .ok (.bipush 6, 2) := by decide +kernel
theorem dX11_saysAt_37 : decode cX11_saysAt 37 = .ok (.invokevirtual 138, 3) := by decide +kernel
theorem dX11_saysAt_40 : decode cX11_saysAt 40 = .ok (.ireturn, 1) := by decide +kernel
theorem dX11_saysAt_41 : decode cX11_saysAt 41 = .ok (.aload_n 0, 1) := by decide +kernel
theorem dX11_saysAt_42 : decode cX11_saysAt 42 = .ok (.aload_n 0, 1) := by decide +kernel
theorem dX11_saysAt_43 : decode cX11_saysAt 43 = .ok (.getfield 37, 3) := by decide +kernel
theorem dX11_saysAt_46 : decode cX11_saysAt 46 = .ok (.iload_n 1, 1) := by decide +kernel
theorem dX11_saysAt_47 : decode cX11_saysAt 47 = .ok (.iload_n 2, 1) := by decide +kernel
theorem dX11_saysAt_48 : decode cX11_saysAt 48 = .ok (.invokevirtual 247, 3) := by decide +kernel
theorem dX11_saysAt_51 : decode cX11_saysAt 51 = .ok (.invokevirtual 192, 3) := by decide +kernel
theorem dX11_saysAt_54 : decode cX11_saysAt 54 = .ok (.ireturn, 1) := by decide +kernel
set_option maxRecDepth 100000 in
def f_X11_saysAt_15 (l0 : Nat) (μ : dtM) : Option (Int32 × dtM) :=
  (opRv 11 μ l0).bind fun _ => opCall (f_X11_fail l0 (1 : Int32) μ) fun x4 μ2 => some (x4, μ2)
set_option maxRecDepth 100000 in
def f_X11_saysAt (p0 : Nat) (p1 : Int32) (p2 : Int32) (μ : dtM) : Option (Int32 × dtM) :=
  (opGR 11 5 μ p0).bind fun x1 => (opRv 3 μ x1).bind fun _ => opCall (f_X3_hasWord x1 p1 μ) fun x6 μ4 => if x6 = 0 then (f_X11_saysAt_15 p0 μ4) else (if 0 ≤ p2 then ((opGR 11 5 μ4 p0).bind fun x13 => (opGR 3 12 μ4 x13).bind fun x15 => (opLI 1 μ4 x15 p1).bind fun x17 => if p2 < x17 then ((opGR 11 5 μ4 p0).bind fun x22 => (opRv 3 μ4 x22).bind fun _ => opCall (f_X3_soundOfWord x22 p1 p2 μ4) fun x27 μ25 => (opRv 11 μ25 p0).bind fun _ => opCall (f_X11_answer p0 x27 μ25) fun x31 μ29 => some (x31, μ29)) else ((opRv 11 μ4 p0).bind fun _ => opCall (f_X11_fail p0 (6 : Int32) μ4) fun x35 μ33 => some (x35, μ33))) else (f_X11_saysAt_15 p0 μ4))
set_option maxRecDepth 100000 in
theorem c_X11_saysAt_15 {r : Int32} {F : dtM} (l0 : Nat) (μ : dtM) (h : f_X11_saysAt_15 l0 μ = some (r, F)) : dtW yX11_saysAt cX11_saysAt 3 (some .int) 2 (some (.int r)) F 15 [some (.ref l0)] [] μ := by
  rw [f_X11_saysAt_15] at h
  refine dr_aload_n l0 dX11_saysAt_15 rfl ?_
  refine dr_iconst (1 : Int32) dX11_saysAt_16 (by decide) ?_
  obtain ⟨_, hb1, h⟩ := dtBind h
  obtain ⟨x4, μ2, e3, h⟩ := dtCall h
  refine dr_callV_i (S0 := []) [.int (1 : Int32)] x4 μ2 dX11_saysAt_17 (c_X11_fail l0 (1 : Int32) μ e3) mf_X11_fail wt_510 ws_3 wt_508 rfl (dtRv hb1) (by decide) rfl (Nat.le_of_ble_eq_true rfl) (Nat.le_of_ble_eq_true rfl) rfl ?_
  cases h
  exact dr_ireturn dX11_saysAt_20 rfl
set_option maxRecDepth 100000 in
theorem c_X11_saysAt {r : Int32} {F : dtM} (p0 : Nat) (p1 : Int32) (p2 : Int32) (μ : dtM) (h : f_X11_saysAt p0 p1 p2 μ = some (r, F)) : dtMet yX11_saysAt cX11_saysAt 3 (some .int) 2 [.ref p0, .int p1, .int p2] μ (some (.int r)) F := by
  refine dtMet.of (by decide +kernel) (Nat.le_of_ble_eq_true rfl) (show dtW yX11_saysAt cX11_saysAt 3 (some .int) 2 (some (.int r)) F 0 [some (.ref p0), some (.int p1), some (.int p2)] [] μ from ?_)
  rw [f_X11_saysAt] at h
  refine dr_aload_n p0 dX11_saysAt_0 rfl ?_
  obtain ⟨x1, e2, h⟩ := dtBind h
  refine dr_getR x1 dX11_saysAt_1 fl_RX11_37 e2 ?_
  refine dr_iload_n p1 dX11_saysAt_4 rfl ?_
  obtain ⟨_, hb3, h⟩ := dtBind h
  obtain ⟨x6, μ4, e5, h⟩ := dtCall h
  refine dr_callV_i (S0 := []) [.int p1] x6 μ4 dX11_saysAt_5 (c_X3_hasWord x1 p1 μ e5) mf_X3_hasWord wt_854 wt_855 wt_853 rfl (dtRv hb3) (by decide) rfl (Nat.le_of_ble_eq_true rfl) (Nat.le_of_ble_eq_true rfl) rfl ?_
  obtain ⟨ht8, hf9⟩ := dtIte h
  refine dr_if_eq 15 dX11_saysAt_8 (by decide) (fun hc7 => ?_) (fun hc7 => ?_)
  · have h := ht8 hc7
    refine dr_mask [true] [some (.ref p0)] rfl ?_
    exact c_X11_saysAt_15 p0 μ4 h
  · have h := hf9 hc7
    refine dr_iload_n p2 dX11_saysAt_11 rfl ?_
    obtain ⟨ht11, hf12⟩ := dtIte h
    refine dr_if_ge 21 dX11_saysAt_12 (by decide) (fun hc10 => ?_) (fun hc10 => ?_)
    · have h := ht11 hc10
      refine dr_iload_n p2 dX11_saysAt_21 rfl ?_
      refine dr_aload_n p0 dX11_saysAt_22 rfl ?_
      obtain ⟨x13, e14, h⟩ := dtBind h
      refine dr_getR x13 dX11_saysAt_23 fl_RX11_37 e14 ?_
      obtain ⟨x15, e16, h⟩ := dtBind h
      refine dr_getR x15 dX11_saysAt_26 fl_RX11_244 e16 ?_
      refine dr_iload_n p1 dX11_saysAt_29 rfl ?_
      obtain ⟨x17, e18, h⟩ := dtBind h
      refine dr_iaload x17 dX11_saysAt_30 e18 ?_
      obtain ⟨ht20, hf21⟩ := dtIte h
      refine dr_icmp_lt 41 dX11_saysAt_31 (by decide) (fun hc19 => ?_) (fun hc19 => ?_)
      · have h := ht20 hc19
        refine dr_aload_n p0 dX11_saysAt_41 rfl ?_
        refine dr_aload_n p0 dX11_saysAt_42 rfl ?_
        obtain ⟨x22, e23, h⟩ := dtBind h
        refine dr_getR x22 dX11_saysAt_43 fl_RX11_37 e23 ?_
        refine dr_iload_n p1 dX11_saysAt_46 rfl ?_
        refine dr_iload_n p2 dX11_saysAt_47 rfl ?_
        obtain ⟨_, hb24, h⟩ := dtBind h
        obtain ⟨x27, μ25, e26, h⟩ := dtCall h
        refine dr_callV_i (S0 := [.ref p0]) [.int p1, .int p2] x27 μ25 dX11_saysAt_48 (c_X3_soundOfWord x22 p1 p2 μ4 e26) mf_X3_soundOfWord wt_736 wt_737 wt_861 rfl (dtRv hb24) (by decide) rfl (Nat.le_of_ble_eq_true rfl) (Nat.le_of_ble_eq_true rfl) rfl ?_
        obtain ⟨_, hb28, h⟩ := dtBind h
        obtain ⟨x31, μ29, e30, h⟩ := dtCall h
        refine dr_callV_i (S0 := []) [.int x27] x31 μ29 dX11_saysAt_51 (c_X11_answer p0 x27 μ25 e30) mf_X11_answer wt_764 ws_19 wt_762 rfl (dtRv hb28) (by decide) rfl (Nat.le_of_ble_eq_true rfl) (Nat.le_of_ble_eq_true rfl) rfl ?_
        cases h
        exact dr_ireturn dX11_saysAt_54 rfl
      · have h := hf21 hc19
        refine dr_aload_n p0 dX11_saysAt_34 rfl ?_
        refine dr_bipush (6 : Int32) dX11_saysAt_35 (by decide) ?_
        obtain ⟨_, hb32, h⟩ := dtBind h
        obtain ⟨x35, μ33, e34, h⟩ := dtCall h
        refine dr_callV_i (S0 := []) [.int (6 : Int32)] x35 μ33 dX11_saysAt_37 (c_X11_fail p0 (6 : Int32) μ4 e34) mf_X11_fail wt_510 ws_3 wt_508 rfl (dtRv hb32) (by decide) rfl (Nat.le_of_ble_eq_true rfl) (Nat.le_of_ble_eq_true rfl) rfl ?_
        cases h
        exact dr_ireturn dX11_saysAt_40 rfl
    · have h := hf12 hc10
      refine dr_mask [true] [some (.ref p0)] rfl ?_
      exact c_X11_saysAt_15 p0 μ4 h
/-! X11_person -/
theorem dX11_person_0 : decode cX11_person 0 = .ok (.aload_n 0, 1) := by decide +kernel
theorem dX11_person_1 : decode cX11_person 1 = .ok (.getfield 37, 3) := by decide +kernel
theorem dX11_person_4 : decode cX11_person 4 = .ok (.iload_n 1, 1) := by decide +kernel
theorem dX11_person_5 : decode cX11_person 5 = .ok (.invokevirtual 250, 3) := by decide +kernel
theorem dX11_person_8 : decode cX11_person 8 = .ok (.ifCond .ne 9, 3) := by decide +kernel
theorem dX11_person_11 : decode cX11_person 11 = .ok (.aload_n 0, 1) := by decide +kernel
theorem dX11_person_12 : decode cX11_person 12 = .ok (.iconst 1, 1) := by decide +kernel
theorem dX11_person_13 : decode cX11_person 13 = .ok (.invokevirtual 138, 3) := by decide +kernel
theorem dX11_person_16 : decode cX11_person 16 = .ok (.ireturn, 1) := by decide +kernel
theorem dX11_person_17 : decode cX11_person 17 = .ok (.iload_n 2, 1) := by decide +kernel
theorem dX11_person_18 : decode cX11_person 18 = .ok (.tableswitch 86 0 3 #[30, 44, 58, 72], 30) := by decide +kernel
theorem dX11_person_48 : decode cX11_person 48 = .ok (.aload_n 0, 1) := by decide +kernel
theorem dX11_person_49 : decode cX11_person 49 = .ok (.aload_n 0, 1) := by decide +kernel
theorem dX11_person_50 : decode cX11_person 50 = .ok (.getfield 37, 3) := by decide +kernel
theorem dX11_person_53 : decode cX11_person 53 = .ok (.getfield 253, 3) := by decide +kernel
theorem dX11_person_56 : decode cX11_person 56 = .ok (.iload_n 1, 1) := by decide +kernel
theorem dX11_person_57 : decode cX11_person 57 = .ok (.iaload, 1) := by decide +kernel
theorem dX11_person_58 : decode cX11_person 58 = .ok (.invokevirtual 192, 3) := by decide +kernel
theorem dX11_person_61 : decode cX11_person 61 = .ok (.ireturn, 1) := by decide +kernel
theorem dX11_person_62 : decode cX11_person 62 = .ok (.aload_n 0, 1) := by decide +kernel
theorem dX11_person_63 : decode cX11_person 63 = .ok (.aload_n 0, 1) := by decide +kernel
theorem dX11_person_64 : decode cX11_person 64 = .ok (.getfield 37, 3) := by decide +kernel
theorem dX11_person_67 : decode cX11_person 67 = .ok (.getfield 256, 3) := by decide +kernel
theorem dX11_person_70 : decode cX11_person 70 = .ok (.iload_n 1, 1) := by decide +kernel
theorem dX11_person_71 : decode cX11_person 71 = .ok (.iaload, 1) := by decide +kernel
theorem dX11_person_72 : decode cX11_person 72 = .ok (.invokevirtual 192, 3) := by decide +kernel
theorem dX11_person_75 : decode cX11_person 75 = .ok (.ireturn, 1) := by decide +kernel
theorem dX11_person_76 : decode cX11_person 76 = .ok (.aload_n 0, 1) := by decide +kernel
theorem dX11_person_77 : decode cX11_person 77 = .ok (.aload_n 0, 1) := by decide +kernel
theorem dX11_person_78 : decode cX11_person 78 = .ok (.getfield 37, 3) := by decide +kernel
theorem dX11_person_81 : decode cX11_person 81 = .ok (.getfield 259, 3) := by decide +kernel
theorem dX11_person_84 : decode cX11_person 84 = .ok (.iload_n 1, 1) := by decide +kernel
theorem dX11_person_85 : decode cX11_person 85 = .ok (.iaload, 1) := by decide +kernel
theorem dX11_person_86 : decode cX11_person 86 = .ok (.invokevirtual 192, 3) := by decide +kernel
theorem dX11_person_89 : decode cX11_person 89 = .ok (.ireturn, 1) := by decide +kernel
theorem dX11_person_90 : decode cX11_person 90 = .ok (.aload_n 0, 1) := by decide +kernel
theorem dX11_person_91 : decode cX11_person 91 = .ok (.aload_n 0, 1) := by decide +kernel
theorem dX11_person_92 : decode cX11_person 92 = .ok (.getfield 37, 3) := by decide +kernel
theorem dX11_person_95 : decode cX11_person 95 = .ok (.getfield 262, 3) := by decide +kernel
theorem dX11_person_98 : decode cX11_person 98 = .ok (.iload_n 1, 1) := by decide +kernel
theorem dX11_person_99 : decode cX11_person 99 = .ok (.iaload, 1) := by decide +kernel
theorem dX11_person_100 : decode cX11_person 100 = .ok (.invokevirtual 192, 3) := by decide +kernel
theorem dX11_person_103 : decode cX11_person 103 = .ok (.ireturn, 1) := by decide +kernel
theorem dX11_person_104 : decode cX11_person 104 = .ok (.aload_n 0, 1) := by decide +kernel
theorem dX11_person_105 : decode cX11_person 105 = .ok (.iconst 1, 1) := by decide +kernel
theorem dX11_person_106 : decode cX11_person 106 = .ok (.invokevirtual 138, 3) := by decide +kernel
theorem dX11_person_109 : decode cX11_person 109 = .ok (.ireturn, 1) := by decide +kernel
set_option maxRecDepth 100000 in
def f_X11_person_104 (l0 : Nat) (μ : dtM) : Option (Int32 × dtM) :=
  (opRv 11 μ l0).bind fun _ => opCall (f_X11_fail l0 (1 : Int32) μ) fun x4 μ2 => some (x4, μ2)
set_option maxRecDepth 100000 in
def f_X11_person_48 (l0 : Nat) (l1 : Int32) (μ : dtM) : Option (Int32 × dtM) :=
  (opGR 11 5 μ l0).bind fun x1 => (opGR 3 14 μ x1).bind fun x3 => (opLI 1 μ x3 l1).bind fun x5 => (opRv 11 μ l0).bind fun _ => opCall (f_X11_answer l0 x5 μ) fun x10 μ8 => some (x10, μ8)
set_option maxRecDepth 100000 in
def f_X11_person_62 (l0 : Nat) (l1 : Int32) (μ : dtM) : Option (Int32 × dtM) :=
  (opGR 11 5 μ l0).bind fun x1 => (opGR 3 15 μ x1).bind fun x3 => (opLI 1 μ x3 l1).bind fun x5 => (opRv 11 μ l0).bind fun _ => opCall (f_X11_answer l0 x5 μ) fun x10 μ8 => some (x10, μ8)
set_option maxRecDepth 100000 in
def f_X11_person_76 (l0 : Nat) (l1 : Int32) (μ : dtM) : Option (Int32 × dtM) :=
  (opGR 11 5 μ l0).bind fun x1 => (opGR 3 16 μ x1).bind fun x3 => (opLI 1 μ x3 l1).bind fun x5 => (opRv 11 μ l0).bind fun _ => opCall (f_X11_answer l0 x5 μ) fun x10 μ8 => some (x10, μ8)
set_option maxRecDepth 100000 in
def f_X11_person_90 (l0 : Nat) (l1 : Int32) (μ : dtM) : Option (Int32 × dtM) :=
  (opGR 11 5 μ l0).bind fun x1 => (opGR 3 17 μ x1).bind fun x3 => (opLI 1 μ x3 l1).bind fun x5 => (opRv 11 μ l0).bind fun _ => opCall (f_X11_answer l0 x5 μ) fun x10 μ8 => some (x10, μ8)
set_option maxRecDepth 100000 in
def f_X11_person (p0 : Nat) (p1 : Int32) (p2 : Int32) (μ : dtM) : Option (Int32 × dtM) :=
  (opGR 11 5 μ p0).bind fun x1 => (opRv 3 μ x1).bind fun _ => opCall (f_X3_hasPerson x1 p1 μ) fun x6 μ4 => if x6 = 0 then ((opRv 11 μ4 p0).bind fun _ => opCall (f_X11_fail p0 (1 : Int32) μ4) fun x26 μ24 => some (x26, μ24)) else (if p2 = 0 then (f_X11_person_48 p0 p1 μ4) else if p2 = 1 then (f_X11_person_62 p0 p1 μ4) else if p2 = 2 then (f_X11_person_76 p0 p1 μ4) else if p2 = 3 then (f_X11_person_90 p0 p1 μ4) else f_X11_person_104 p0 μ4)
set_option maxRecDepth 100000 in
theorem c_X11_person_104 {r : Int32} {F : dtM} (l0 : Nat) (μ : dtM) (h : f_X11_person_104 l0 μ = some (r, F)) : dtW yX11_person cX11_person 3 (some .int) 2 (some (.int r)) F 104 [some (.ref l0)] [] μ := by
  rw [f_X11_person_104] at h
  refine dr_aload_n l0 dX11_person_104 rfl ?_
  refine dr_iconst (1 : Int32) dX11_person_105 (by decide) ?_
  obtain ⟨_, hb1, h⟩ := dtBind h
  obtain ⟨x4, μ2, e3, h⟩ := dtCall h
  refine dr_callV_i (S0 := []) [.int (1 : Int32)] x4 μ2 dX11_person_106 (c_X11_fail l0 (1 : Int32) μ e3) mf_X11_fail wt_510 ws_3 wt_508 rfl (dtRv hb1) (by decide) rfl (Nat.le_of_ble_eq_true rfl) (Nat.le_of_ble_eq_true rfl) rfl ?_
  cases h
  exact dr_ireturn dX11_person_109 rfl
set_option maxRecDepth 100000 in
theorem c_X11_person_48 {r : Int32} {F : dtM} (l0 : Nat) (l1 : Int32) (μ : dtM) (h : f_X11_person_48 l0 l1 μ = some (r, F)) : dtW yX11_person cX11_person 3 (some .int) 2 (some (.int r)) F 48 [some (.ref l0), some (.int l1)] [] μ := by
  rw [f_X11_person_48] at h
  refine dr_aload_n l0 dX11_person_48 rfl ?_
  refine dr_aload_n l0 dX11_person_49 rfl ?_
  obtain ⟨x1, e2, h⟩ := dtBind h
  refine dr_getR x1 dX11_person_50 fl_RX11_37 e2 ?_
  obtain ⟨x3, e4, h⟩ := dtBind h
  refine dr_getR x3 dX11_person_53 fl_RX11_253 e4 ?_
  refine dr_iload_n l1 dX11_person_56 rfl ?_
  obtain ⟨x5, e6, h⟩ := dtBind h
  refine dr_iaload x5 dX11_person_57 e6 ?_
  obtain ⟨_, hb7, h⟩ := dtBind h
  obtain ⟨x10, μ8, e9, h⟩ := dtCall h
  refine dr_callV_i (S0 := []) [.int x5] x10 μ8 dX11_person_58 (c_X11_answer l0 x5 μ e9) mf_X11_answer wt_764 ws_19 wt_762 rfl (dtRv hb7) (by decide) rfl (Nat.le_of_ble_eq_true rfl) (Nat.le_of_ble_eq_true rfl) rfl ?_
  cases h
  exact dr_ireturn dX11_person_61 rfl
set_option maxRecDepth 100000 in
theorem c_X11_person_62 {r : Int32} {F : dtM} (l0 : Nat) (l1 : Int32) (μ : dtM) (h : f_X11_person_62 l0 l1 μ = some (r, F)) : dtW yX11_person cX11_person 3 (some .int) 2 (some (.int r)) F 62 [some (.ref l0), some (.int l1)] [] μ := by
  rw [f_X11_person_62] at h
  refine dr_aload_n l0 dX11_person_62 rfl ?_
  refine dr_aload_n l0 dX11_person_63 rfl ?_
  obtain ⟨x1, e2, h⟩ := dtBind h
  refine dr_getR x1 dX11_person_64 fl_RX11_37 e2 ?_
  obtain ⟨x3, e4, h⟩ := dtBind h
  refine dr_getR x3 dX11_person_67 fl_RX11_256 e4 ?_
  refine dr_iload_n l1 dX11_person_70 rfl ?_
  obtain ⟨x5, e6, h⟩ := dtBind h
  refine dr_iaload x5 dX11_person_71 e6 ?_
  obtain ⟨_, hb7, h⟩ := dtBind h
  obtain ⟨x10, μ8, e9, h⟩ := dtCall h
  refine dr_callV_i (S0 := []) [.int x5] x10 μ8 dX11_person_72 (c_X11_answer l0 x5 μ e9) mf_X11_answer wt_764 ws_19 wt_762 rfl (dtRv hb7) (by decide) rfl (Nat.le_of_ble_eq_true rfl) (Nat.le_of_ble_eq_true rfl) rfl ?_
  cases h
  exact dr_ireturn dX11_person_75 rfl
set_option maxRecDepth 100000 in
theorem c_X11_person_76 {r : Int32} {F : dtM} (l0 : Nat) (l1 : Int32) (μ : dtM) (h : f_X11_person_76 l0 l1 μ = some (r, F)) : dtW yX11_person cX11_person 3 (some .int) 2 (some (.int r)) F 76 [some (.ref l0), some (.int l1)] [] μ := by
  rw [f_X11_person_76] at h
  refine dr_aload_n l0 dX11_person_76 rfl ?_
  refine dr_aload_n l0 dX11_person_77 rfl ?_
  obtain ⟨x1, e2, h⟩ := dtBind h
  refine dr_getR x1 dX11_person_78 fl_RX11_37 e2 ?_
  obtain ⟨x3, e4, h⟩ := dtBind h
  refine dr_getR x3 dX11_person_81 fl_RX11_259 e4 ?_
  refine dr_iload_n l1 dX11_person_84 rfl ?_
  obtain ⟨x5, e6, h⟩ := dtBind h
  refine dr_iaload x5 dX11_person_85 e6 ?_
  obtain ⟨_, hb7, h⟩ := dtBind h
  obtain ⟨x10, μ8, e9, h⟩ := dtCall h
  refine dr_callV_i (S0 := []) [.int x5] x10 μ8 dX11_person_86 (c_X11_answer l0 x5 μ e9) mf_X11_answer wt_764 ws_19 wt_762 rfl (dtRv hb7) (by decide) rfl (Nat.le_of_ble_eq_true rfl) (Nat.le_of_ble_eq_true rfl) rfl ?_
  cases h
  exact dr_ireturn dX11_person_89 rfl
set_option maxRecDepth 100000 in
theorem c_X11_person_90 {r : Int32} {F : dtM} (l0 : Nat) (l1 : Int32) (μ : dtM) (h : f_X11_person_90 l0 l1 μ = some (r, F)) : dtW yX11_person cX11_person 3 (some .int) 2 (some (.int r)) F 90 [some (.ref l0), some (.int l1)] [] μ := by
  rw [f_X11_person_90] at h
  refine dr_aload_n l0 dX11_person_90 rfl ?_
  refine dr_aload_n l0 dX11_person_91 rfl ?_
  obtain ⟨x1, e2, h⟩ := dtBind h
  refine dr_getR x1 dX11_person_92 fl_RX11_37 e2 ?_
  obtain ⟨x3, e4, h⟩ := dtBind h
  refine dr_getR x3 dX11_person_95 fl_RX11_262 e4 ?_
  refine dr_iload_n l1 dX11_person_98 rfl ?_
  obtain ⟨x5, e6, h⟩ := dtBind h
  refine dr_iaload x5 dX11_person_99 e6 ?_
  obtain ⟨_, hb7, h⟩ := dtBind h
  obtain ⟨x10, μ8, e9, h⟩ := dtCall h
  refine dr_callV_i (S0 := []) [.int x5] x10 μ8 dX11_person_100 (c_X11_answer l0 x5 μ e9) mf_X11_answer wt_764 ws_19 wt_762 rfl (dtRv hb7) (by decide) rfl (Nat.le_of_ble_eq_true rfl) (Nat.le_of_ble_eq_true rfl) rfl ?_
  cases h
  exact dr_ireturn dX11_person_103 rfl
set_option maxRecDepth 100000 in
theorem c_X11_person {r : Int32} {F : dtM} (p0 : Nat) (p1 : Int32) (p2 : Int32) (μ : dtM) (h : f_X11_person p0 p1 p2 μ = some (r, F)) : dtMet yX11_person cX11_person 3 (some .int) 2 [.ref p0, .int p1, .int p2] μ (some (.int r)) F := by
  refine dtMet.of (by decide +kernel) (Nat.le_of_ble_eq_true rfl) (show dtW yX11_person cX11_person 3 (some .int) 2 (some (.int r)) F 0 [some (.ref p0), some (.int p1), some (.int p2)] [] μ from ?_)
  rw [f_X11_person] at h
  refine dr_aload_n p0 dX11_person_0 rfl ?_
  obtain ⟨x1, e2, h⟩ := dtBind h
  refine dr_getR x1 dX11_person_1 fl_RX11_37 e2 ?_
  refine dr_iload_n p1 dX11_person_4 rfl ?_
  obtain ⟨_, hb3, h⟩ := dtBind h
  obtain ⟨x6, μ4, e5, h⟩ := dtCall h
  refine dr_callV_i (S0 := []) [.int p1] x6 μ4 dX11_person_5 (c_X3_hasPerson x1 p1 μ e5) mf_X3_hasPerson wt_867 wt_868 wt_866 rfl (dtRv hb3) (by decide) rfl (Nat.le_of_ble_eq_true rfl) (Nat.le_of_ble_eq_true rfl) rfl ?_
  obtain ⟨ht8, hf9⟩ := dtIte h
  refine dr_if_ne 17 dX11_person_8 (by decide) (fun hc7 => ?_) (fun hc7 => ?_)
  · have h := hf9 hc7
    refine dr_iload_n p2 dX11_person_17 rfl ?_
    obtain ⟨ht10, h⟩ := dtIte h
    refine Decidable.byCases (dec := inferInstance) (fun hc12 : p2 = 0 => ?_) (fun hc12 => ?_)
    · have h := ht10 hc12
      refine dr_tableIn (off := 30) 48 dX11_person_18 (by rw [hc12]; decide) (by rw [hc12]; decide) (by rw [hc12]; rfl) (by decide) ?_
      refine dr_mask [true, true] [some (.ref p0), some (.int p1)] rfl ?_
      exact c_X11_person_48 p0 p1 μ4 h
    have h := h hc12
    obtain ⟨ht13, h⟩ := dtIte h
    refine Decidable.byCases (dec := inferInstance) (fun hc15 : p2 = 1 => ?_) (fun hc15 => ?_)
    · have h := ht13 hc15
      refine dr_tableIn (off := 44) 62 dX11_person_18 (by rw [hc15]; decide) (by rw [hc15]; decide) (by rw [hc15]; rfl) (by decide) ?_
      refine dr_mask [true, true] [some (.ref p0), some (.int p1)] rfl ?_
      exact c_X11_person_62 p0 p1 μ4 h
    have h := h hc15
    obtain ⟨ht16, h⟩ := dtIte h
    refine Decidable.byCases (dec := inferInstance) (fun hc18 : p2 = 2 => ?_) (fun hc18 => ?_)
    · have h := ht16 hc18
      refine dr_tableIn (off := 58) 76 dX11_person_18 (by rw [hc18]; decide) (by rw [hc18]; decide) (by rw [hc18]; rfl) (by decide) ?_
      refine dr_mask [true, true] [some (.ref p0), some (.int p1)] rfl ?_
      exact c_X11_person_76 p0 p1 μ4 h
    have h := h hc18
    obtain ⟨ht19, h⟩ := dtIte h
    refine Decidable.byCases (dec := inferInstance) (fun hc21 : p2 = 3 => ?_) (fun hc21 => ?_)
    · have h := ht19 hc21
      refine dr_tableIn (off := 72) 90 dX11_person_18 (by rw [hc21]; decide) (by rw [hc21]; decide) (by rw [hc21]; rfl) (by decide) ?_
      refine dr_mask [true, true] [some (.ref p0), some (.int p1)] rfl ?_
      exact c_X11_person_90 p0 p1 μ4 h
    have h := h hc21
    have kd22 : dtW yX11_person cX11_person 3 (some .int) 2 (some (.int r)) F 104 [some (.ref p0), some (.int p1), some (.int p2)] [] μ4 := by
      refine dr_mask [true] [some (.ref p0)] rfl ?_
      exact c_X11_person_104 p0 μ4 h
    refine Decidable.byCases (dec := inferInstance) (fun hlo : (p2).toInt < 0 ∨ 3 < (p2).toInt => dr_tableOut 104 dX11_person_18 hlo (by decide) kd22) (fun hlo => ?_)
    obtain ⟨hl1, hl2⟩ := not_or.mp hlo
    have hv : (p2).toInt = 0 ∨ (p2).toInt = 1 ∨ (p2).toInt = 2 ∨ (p2).toInt = 3 := by omega
    rcases hv with hv | hv | hv | hv
    · exact absurd (Int32.toInt_inj.mp (hv.trans (show (0 : Int) = (0 : Int32).toInt by decide))) hc12
    · exact absurd (Int32.toInt_inj.mp (hv.trans (show (1 : Int) = (1 : Int32).toInt by decide))) hc15
    · exact absurd (Int32.toInt_inj.mp (hv.trans (show (2 : Int) = (2 : Int32).toInt by decide))) hc18
    · exact absurd (Int32.toInt_inj.mp (hv.trans (show (3 : Int) = (3 : Int32).toInt by decide))) hc21
  · have h := ht8 hc7
    refine dr_aload_n p0 dX11_person_11 rfl ?_
    refine dr_iconst (1 : Int32) dX11_person_12 (by decide) ?_
    obtain ⟨_, hb23, h⟩ := dtBind h
    obtain ⟨x26, μ24, e25, h⟩ := dtCall h
    refine dr_callV_i (S0 := []) [.int (1 : Int32)] x26 μ24 dX11_person_13 (c_X11_fail p0 (1 : Int32) μ4 e25) mf_X11_fail wt_510 ws_3 wt_508 rfl (dtRv hb23) (by decide) rfl (Nat.le_of_ble_eq_true rfl) (Nat.le_of_ble_eq_true rfl) rfl ?_
    cases h
    exact dr_ireturn dX11_person_16 rfl
/-! X11_heardAt -/
theorem dX11_heardAt_0 : decode cX11_heardAt 0 = .ok (.aload_n 0, 1) := by decide +kernel
theorem dX11_heardAt_1 : decode cX11_heardAt 1 = .ok (.getfield 37, 3) := by decide +kernel
theorem dX11_heardAt_4 : decode cX11_heardAt 4 = .ok (.iload_n 1, 1) := by decide +kernel
theorem dX11_heardAt_5 : decode cX11_heardAt 5 = .ok (.invokevirtual 250, 3) := by decide +kernel
theorem dX11_heardAt_8 : decode cX11_heardAt 8 = .ok (.ifCond .eq 7, 3) := by decide +kernel
theorem dX11_heardAt_11 : decode cX11_heardAt 11 = .ok (.iload_n 2, 1) := by decide +kernel
theorem dX11_heardAt_12 : decode cX11_heardAt 12 = .ok (.ifCond .ge 9, 3) := by decide +kernel
theorem dX11_heardAt_15 : decode cX11_heardAt 15 = .ok (.aload_n 0, 1) := by decide +kernel
theorem dX11_heardAt_16 : decode cX11_heardAt 16 = .ok (.iconst 1, 1) := by decide +kernel
theorem dX11_heardAt_17 : decode cX11_heardAt 17 = .ok (.invokevirtual 138, 3) := by decide +kernel
theorem dX11_heardAt_20 : decode cX11_heardAt 20 = .ok (.ireturn, 1) := by decide +kernel
theorem dX11_heardAt_21 : decode cX11_heardAt 21 = .ok (.iload_n 2, 1) := by decide +kernel
theorem dX11_heardAt_22 : decode cX11_heardAt 22 = .ok (.aload_n 0, 1) := by decide +kernel
theorem dX11_heardAt_23 : decode cX11_heardAt 23 = .ok (.getfield 37, 3) := by decide +kernel
theorem dX11_heardAt_26 : decode cX11_heardAt 26 = .ok (.getfield 262, 3) := by decide +kernel
theorem dX11_heardAt_29 : decode cX11_heardAt 29 = .ok (.iload_n 1, 1) := by decide +kernel
theorem dX11_heardAt_30 : decode cX11_heardAt 30 = .ok (.iaload, 1) := by decide +kernel
theorem dX11_heardAt_31 : decode cX11_heardAt 31 = .ok (.if_icmp .lt 10, 3) := by decide +kernel
theorem dX11_heardAt_34 : decode cX11_heardAt 34 = .ok (.aload_n 0, 1) := by decide +kernel
theorem dX11_heardAt_35 : decode cX11_heardAt 35 = .ok (.bipush 6, 2) := by decide +kernel
theorem dX11_heardAt_37 : decode cX11_heardAt 37 = .ok (.invokevirtual 138, 3) := by decide +kernel
theorem dX11_heardAt_40 : decode cX11_heardAt 40 = .ok (.ireturn, 1) := by decide +kernel
theorem dX11_heardAt_41 : decode cX11_heardAt 41 = .ok (.aload_n 0, 1) := by decide +kernel
theorem dX11_heardAt_42 : decode cX11_heardAt 42 = .ok (.aload_n 0, 1) := by decide +kernel
theorem dX11_heardAt_43 : decode cX11_heardAt 43 = .ok (.getfield 37, 3) := by decide +kernel
theorem dX11_heardAt_46 : decode cX11_heardAt 46 = .ok (.getfield 265, 3) := by decide +kernel
theorem dX11_heardAt_49 : decode cX11_heardAt 49 = .ok (.iload_n 1, 1) := by decide +kernel
theorem dX11_heardAt_50 : decode cX11_heardAt 50 = .ok (.bipush 8, 2) := by decide +kernel
theorem dX11_heardAt_52 : decode cX11_heardAt 52 = .ok (.imul, 1) := by decide +kernel
theorem dX11_heardAt_53 : decode cX11_heardAt 53 = .ok (.iload_n 2, 1) := by decide +kernel
theorem dX11_heardAt_54 : decode cX11_heardAt 54 = .ok (.iadd, 1) := by decide +kernel
theorem dX11_heardAt_55 : decode cX11_heardAt 55 = .ok (.iaload, 1) := by decide +kernel
theorem dX11_heardAt_56 : decode cX11_heardAt 56 = .ok (.invokevirtual 192, 3) := by decide +kernel
theorem dX11_heardAt_59 : decode cX11_heardAt 59 = .ok (.ireturn, 1) := by decide +kernel
set_option maxRecDepth 100000 in
def f_X11_heardAt_15 (l0 : Nat) (μ : dtM) : Option (Int32 × dtM) :=
  (opRv 11 μ l0).bind fun _ => opCall (f_X11_fail l0 (1 : Int32) μ) fun x4 μ2 => some (x4, μ2)
set_option maxRecDepth 100000 in
def f_X11_heardAt (p0 : Nat) (p1 : Int32) (p2 : Int32) (μ : dtM) : Option (Int32 × dtM) :=
  (opGR 11 5 μ p0).bind fun x1 => (opRv 3 μ x1).bind fun _ => opCall (f_X3_hasPerson x1 p1 μ) fun x6 μ4 => if x6 = 0 then (f_X11_heardAt_15 p0 μ4) else (if 0 ≤ p2 then ((opGR 11 5 μ4 p0).bind fun x13 => (opGR 3 17 μ4 x13).bind fun x15 => (opLI 1 μ4 x15 p1).bind fun x17 => if p2 < x17 then ((opGR 11 5 μ4 p0).bind fun x22 => (opGR 3 18 μ4 x22).bind fun x24 => (opLI 1 μ4 x24 ((p1 * (8 : Int32)) + p2)).bind fun x26 => (opRv 11 μ4 p0).bind fun _ => opCall (f_X11_answer p0 x26 μ4) fun x31 μ29 => some (x31, μ29)) else ((opRv 11 μ4 p0).bind fun _ => opCall (f_X11_fail p0 (6 : Int32) μ4) fun x35 μ33 => some (x35, μ33))) else (f_X11_heardAt_15 p0 μ4))
set_option maxRecDepth 100000 in
theorem c_X11_heardAt_15 {r : Int32} {F : dtM} (l0 : Nat) (μ : dtM) (h : f_X11_heardAt_15 l0 μ = some (r, F)) : dtW yX11_heardAt cX11_heardAt 3 (some .int) 2 (some (.int r)) F 15 [some (.ref l0)] [] μ := by
  rw [f_X11_heardAt_15] at h
  refine dr_aload_n l0 dX11_heardAt_15 rfl ?_
  refine dr_iconst (1 : Int32) dX11_heardAt_16 (by decide) ?_
  obtain ⟨_, hb1, h⟩ := dtBind h
  obtain ⟨x4, μ2, e3, h⟩ := dtCall h
  refine dr_callV_i (S0 := []) [.int (1 : Int32)] x4 μ2 dX11_heardAt_17 (c_X11_fail l0 (1 : Int32) μ e3) mf_X11_fail wt_510 ws_3 wt_508 rfl (dtRv hb1) (by decide) rfl (Nat.le_of_ble_eq_true rfl) (Nat.le_of_ble_eq_true rfl) rfl ?_
  cases h
  exact dr_ireturn dX11_heardAt_20 rfl
set_option maxRecDepth 100000 in
theorem c_X11_heardAt {r : Int32} {F : dtM} (p0 : Nat) (p1 : Int32) (p2 : Int32) (μ : dtM) (h : f_X11_heardAt p0 p1 p2 μ = some (r, F)) : dtMet yX11_heardAt cX11_heardAt 3 (some .int) 2 [.ref p0, .int p1, .int p2] μ (some (.int r)) F := by
  refine dtMet.of (by decide +kernel) (Nat.le_of_ble_eq_true rfl) (show dtW yX11_heardAt cX11_heardAt 3 (some .int) 2 (some (.int r)) F 0 [some (.ref p0), some (.int p1), some (.int p2)] [] μ from ?_)
  rw [f_X11_heardAt] at h
  refine dr_aload_n p0 dX11_heardAt_0 rfl ?_
  obtain ⟨x1, e2, h⟩ := dtBind h
  refine dr_getR x1 dX11_heardAt_1 fl_RX11_37 e2 ?_
  refine dr_iload_n p1 dX11_heardAt_4 rfl ?_
  obtain ⟨_, hb3, h⟩ := dtBind h
  obtain ⟨x6, μ4, e5, h⟩ := dtCall h
  refine dr_callV_i (S0 := []) [.int p1] x6 μ4 dX11_heardAt_5 (c_X3_hasPerson x1 p1 μ e5) mf_X3_hasPerson wt_867 wt_868 wt_866 rfl (dtRv hb3) (by decide) rfl (Nat.le_of_ble_eq_true rfl) (Nat.le_of_ble_eq_true rfl) rfl ?_
  obtain ⟨ht8, hf9⟩ := dtIte h
  refine dr_if_eq 15 dX11_heardAt_8 (by decide) (fun hc7 => ?_) (fun hc7 => ?_)
  · have h := ht8 hc7
    refine dr_mask [true] [some (.ref p0)] rfl ?_
    exact c_X11_heardAt_15 p0 μ4 h
  · have h := hf9 hc7
    refine dr_iload_n p2 dX11_heardAt_11 rfl ?_
    obtain ⟨ht11, hf12⟩ := dtIte h
    refine dr_if_ge 21 dX11_heardAt_12 (by decide) (fun hc10 => ?_) (fun hc10 => ?_)
    · have h := ht11 hc10
      refine dr_iload_n p2 dX11_heardAt_21 rfl ?_
      refine dr_aload_n p0 dX11_heardAt_22 rfl ?_
      obtain ⟨x13, e14, h⟩ := dtBind h
      refine dr_getR x13 dX11_heardAt_23 fl_RX11_37 e14 ?_
      obtain ⟨x15, e16, h⟩ := dtBind h
      refine dr_getR x15 dX11_heardAt_26 fl_RX11_262 e16 ?_
      refine dr_iload_n p1 dX11_heardAt_29 rfl ?_
      obtain ⟨x17, e18, h⟩ := dtBind h
      refine dr_iaload x17 dX11_heardAt_30 e18 ?_
      obtain ⟨ht20, hf21⟩ := dtIte h
      refine dr_icmp_lt 41 dX11_heardAt_31 (by decide) (fun hc19 => ?_) (fun hc19 => ?_)
      · have h := ht20 hc19
        refine dr_aload_n p0 dX11_heardAt_41 rfl ?_
        refine dr_aload_n p0 dX11_heardAt_42 rfl ?_
        obtain ⟨x22, e23, h⟩ := dtBind h
        refine dr_getR x22 dX11_heardAt_43 fl_RX11_37 e23 ?_
        obtain ⟨x24, e25, h⟩ := dtBind h
        refine dr_getR x24 dX11_heardAt_46 fl_RX11_265 e25 ?_
        refine dr_iload_n p1 dX11_heardAt_49 rfl ?_
        refine dr_bipush (8 : Int32) dX11_heardAt_50 (by decide) ?_
        refine dr_imul dX11_heardAt_52 ?_
        refine dr_iload_n p2 dX11_heardAt_53 rfl ?_
        refine dr_iadd dX11_heardAt_54 ?_
        obtain ⟨x26, e27, h⟩ := dtBind h
        refine dr_iaload x26 dX11_heardAt_55 e27 ?_
        obtain ⟨_, hb28, h⟩ := dtBind h
        obtain ⟨x31, μ29, e30, h⟩ := dtCall h
        refine dr_callV_i (S0 := []) [.int x26] x31 μ29 dX11_heardAt_56 (c_X11_answer p0 x26 μ4 e30) mf_X11_answer wt_764 ws_19 wt_762 rfl (dtRv hb28) (by decide) rfl (Nat.le_of_ble_eq_true rfl) (Nat.le_of_ble_eq_true rfl) rfl ?_
        cases h
        exact dr_ireturn dX11_heardAt_59 rfl
      · have h := hf21 hc19
        refine dr_aload_n p0 dX11_heardAt_34 rfl ?_
        refine dr_bipush (6 : Int32) dX11_heardAt_35 (by decide) ?_
        obtain ⟨_, hb32, h⟩ := dtBind h
        obtain ⟨x35, μ33, e34, h⟩ := dtCall h
        refine dr_callV_i (S0 := []) [.int (6 : Int32)] x35 μ33 dX11_heardAt_37 (c_X11_fail p0 (6 : Int32) μ4 e34) mf_X11_fail wt_510 ws_3 wt_508 rfl (dtRv hb32) (by decide) rfl (Nat.le_of_ble_eq_true rfl) (Nat.le_of_ble_eq_true rfl) rfl ?_
        cases h
        exact dr_ireturn dX11_heardAt_40 rfl
    · have h := hf12 hc10
      refine dr_mask [true] [some (.ref p0)] rfl ?_
      exact c_X11_heardAt_15 p0 μ4 h
/-! X11_isSound -/
theorem dX11_isSound_0 : decode cX11_isSound 0 = .ok (.iload_n 0, 1) := by decide +kernel
theorem dX11_isSound_1 : decode cX11_isSound 1 = .ok (.iconst 0, 1) := by decide +kernel
theorem dX11_isSound_2 : decode cX11_isSound 2 = .ok (.iconst 3, 1) := by decide +kernel
theorem dX11_isSound_3 : decode cX11_isSound 3 = .ok (.invokestatic 115, 3) := by decide +kernel
theorem dX11_isSound_6 : decode cX11_isSound 6 = .ok (.ireturn, 1) := by decide +kernel
set_option maxRecDepth 100000 in
def f_X11_isSound (p0 : Int32) (μ : dtM) : Option (Int32 × dtM) :=
  opCall (f_X11_within p0 (0 : Int32) (3 : Int32) μ) fun x3 μ1 => opRet x3 μ1
set_option maxRecDepth 100000 in
theorem c_X11_isSound {r : Int32} {F : dtM} (p0 : Int32) (μ : dtM) (h : f_X11_isSound p0 μ = some (r, F)) : dtMet yX11_isSound cX11_isSound 1 (some .boolean) 2 [.int p0] μ (some (.int r)) F := by
  refine dtMet.of (by decide +kernel) (Nat.le_of_ble_eq_true rfl) (show dtW yX11_isSound cX11_isSound 1 (some .boolean) 2 (some (.int r)) F 0 [some (.int p0)] [] μ from ?_)
  rw [f_X11_isSound] at h
  refine dr_iload_n p0 dX11_isSound_0 rfl ?_
  refine dr_iconst (0 : Int32) dX11_isSound_1 (by decide) ?_
  refine dr_iconst (3 : Int32) dX11_isSound_2 (by decide) ?_
  obtain ⟨x3, μ1, e2, h⟩ := dtCall h
  refine dr_callS_i (S0 := []) [.int p0, .int (0 : Int32), .int (3 : Int32)] x3 μ1 dX11_isSound_3 (c_X11_within p0 (0 : Int32) (3 : Int32) μ e2) mf_X11_within wt_478 wt_477 rfl (Nat.le_of_ble_eq_true rfl) (Nat.le_of_ble_eq_true rfl) rfl ?_
  obtain ⟨hz, rfl, rfl⟩ := dtRet h
  exact dr_ireturn dX11_isSound_6 (dtNz hz)
/-! X11_close -/
theorem dX11_close_0 : decode cX11_close 0 = .ok (.aload_n 0, 1) := by decide +kernel
theorem dX11_close_1 : decode cX11_close 1 = .ok (.getfield 37, 3) := by decide +kernel
theorem dX11_close_4 : decode cX11_close 4 = .ok (.iload_n 1, 1) := by decide +kernel
theorem dX11_close_5 : decode cX11_close 5 = .ok (.invokevirtual 250, 3) := by decide +kernel
theorem dX11_close_8 : decode cX11_close 8 = .ok (.ifCond .eq 21, 3) := by decide +kernel
theorem dX11_close_11 : decode cX11_close 11 = .ok (.aload_n 0, 1) := by decide +kernel
theorem dX11_close_12 : decode cX11_close 12 = .ok (.getfield 37, 3) := by decide +kernel
theorem dX11_close_15 : decode cX11_close 15 = .ok (.iload_n 2, 1) := by decide +kernel
theorem dX11_close_16 : decode cX11_close 16 = .ok (.invokevirtual 226, 3) := by decide +kernel
theorem dX11_close_19 : decode cX11_close 19 = .ok (.ifCond .eq 10, 3) := by decide +kernel
theorem dX11_close_22 : decode cX11_close 22 = .ok (.iload_n 3, 1) := by decide +kernel
theorem dX11_close_23 : decode cX11_close 23 = .ok (.invokestatic 268, 3) := by decide +kernel
theorem dX11_close_26 : decode cX11_close 26 = .ok (.ifCond .ne 9, 3) := by decide +kernel
theorem dX11_close_29 : decode cX11_close 29 = .ok (.aload_n 0, 1) := by decide +kernel
theorem dX11_close_30 : decode cX11_close 30 = .ok (.iconst 1, 1) := by decide +kernel
theorem dX11_close_31 : decode cX11_close 31 = .ok (.invokevirtual 138, 3) := by decide +kernel
theorem dX11_close_34 : decode cX11_close 34 = .ok (.ireturn, 1) := by decide +kernel
theorem dX11_close_35 : decode cX11_close 35 = .ok (.aload_n 0, 1) := by decide +kernel
theorem dX11_close_36 : decode cX11_close 36 = .ok (.getfield 37, 3) := by decide +kernel
theorem dX11_close_39 : decode cX11_close 39 = .ok (.iload_n 1, 1) := by decide +kernel
theorem dX11_close_40 : decode cX11_close 40 = .ok (.iload_n 2, 1) := by decide +kernel
theorem dX11_close_41 : decode cX11_close 41 = .ok (.invokevirtual 271, 3) := by decide +kernel
theorem dX11_close_44 : decode cX11_close 44 = .ok (.ifCond .eq 14, 3) := by decide +kernel
theorem dX11_close_47 : decode cX11_close 47 = .ok (.aload_n 0, 1) := by decide +kernel
theorem dX11_close_48 : decode cX11_close 48 = .ok (.getfield 37, 3) := by decide +kernel
theorem dX11_close_51 : decode cX11_close 51 = .ok (.iload_n 2, 1) := by decide +kernel
theorem dX11_close_52 : decode cX11_close 52 = .ok (.invokevirtual 238, 3) := by decide +kernel
theorem dX11_close_55 : decode cX11_close 55 = .ok (.ifCond .ne 10, 3) := by decide +kernel
theorem dX11_close_58 : decode cX11_close 58 = .ok (.aload_n 0, 1) := by decide +kernel
theorem dX11_close_59 : decode cX11_close 59 = .ok (.bipush 7, 2) := by decide +kernel
theorem dX11_close_61 : decode cX11_close 61 = .ok (.invokevirtual 138, 3) := by decide +kernel
theorem dX11_close_64 : decode cX11_close 64 = .ok (.ireturn, 1) := by decide +kernel
theorem dX11_close_65 : decode cX11_close 65 = .ok (.aload_n 0, 1) := by decide +kernel
theorem dX11_close_66 : decode cX11_close 66 = .ok (.aload_n 0, 1) := by decide +kernel
theorem dX11_close_67 : decode cX11_close 67 = .ok (.getfield 82, 3) := by decide +kernel
theorem dX11_close_70 : decode cX11_close 70 = .ok (.aload_n 0, 1) := by decide +kernel
theorem dX11_close_71 : decode cX11_close 71 = .ok (.getfield 37, 3) := by decide +kernel
theorem dX11_close_74 : decode cX11_close 74 = .ok (.iload_n 1, 1) := by decide +kernel
theorem dX11_close_75 : decode cX11_close 75 = .ok (.iload_n 2, 1) := by decide +kernel
theorem dX11_close_76 : decode cX11_close 76 = .ok (.iload_n 3, 1) := by decide +kernel
theorem dX11_close_77 : decode cX11_close 77 = .ok (.invokevirtual 274, 3) := by decide +kernel
theorem dX11_close_80 : decode cX11_close 80 = .ok (.invokevirtual 192, 3) := by decide +kernel
theorem dX11_close_83 : decode cX11_close 83 = .ok (.ireturn, 1) := by decide +kernel
set_option maxRecDepth 100000 in
def f_X11_close_29 (l0 : Nat) (μ : dtM) : Option (Int32 × dtM) :=
  (opRv 11 μ l0).bind fun _ => opCall (f_X11_fail l0 (1 : Int32) μ) fun x4 μ2 => some (x4, μ2)
set_option maxRecDepth 100000 in
def f_X11_close_58 (l0 : Nat) (μ : dtM) : Option (Int32 × dtM) :=
  (opRv 11 μ l0).bind fun _ => opCall (f_X11_fail l0 (7 : Int32) μ) fun x4 μ2 => some (x4, μ2)
set_option maxRecDepth 100000 in
def f_X11_close (p0 : Nat) (p1 : Int32) (p2 : Int32) (p3 : Int32) (μ : dtM) : Option (Int32 × dtM) :=
  (opGR 11 5 μ p0).bind fun x1 => (opRv 3 μ x1).bind fun _ => opCall (f_X3_hasPerson x1 p1 μ) fun x6 μ4 => if x6 = 0 then (f_X11_close_29 p0 μ4) else ((opGR 11 5 μ4 p0).bind fun x10 => (opRv 3 μ4 x10).bind fun _ => opCall (f_X3_hasDoor x10 p2 μ4) fun x15 μ13 => if x15 = 0 then (f_X11_close_29 p0 μ13) else (opCall (f_X11_isSound p3 μ13) fun x21 μ19 => if x21 = 0 then (f_X11_close_29 p0 μ19) else ((opGR 11 5 μ19 p0).bind fun x25 => (opRv 3 μ19 x25).bind fun _ => opCall (f_X3_isAt x25 p1 p2 μ19) fun x30 μ28 => if x30 = 0 then (f_X11_close_58 p0 μ28) else ((opGR 11 5 μ28 p0).bind fun x34 => (opRv 3 μ28 x34).bind fun _ => opCall (f_X3_isOpen x34 p2 μ28) fun x39 μ37 => if x39 = 0 then (f_X11_close_58 p0 μ37) else ((opGR 11 14 μ37 p0).bind fun x43 => (opGR 11 5 μ37 p0).bind fun x45 => (opRv 2 μ37 x43).bind fun _ => opCall (f_X2_shutWith x43 x45 p1 p2 p3 μ37) fun x50 μ48 => (opRv 11 μ48 p0).bind fun _ => opCall (f_X11_answer p0 x50 μ48) fun x54 μ52 => some (x54, μ52))))))
set_option maxRecDepth 100000 in
theorem c_X11_close_29 {r : Int32} {F : dtM} (l0 : Nat) (μ : dtM) (h : f_X11_close_29 l0 μ = some (r, F)) : dtW yX11_close cX11_close 4 (some .int) 4 (some (.int r)) F 29 [some (.ref l0)] [] μ := by
  rw [f_X11_close_29] at h
  refine dr_aload_n l0 dX11_close_29 rfl ?_
  refine dr_iconst (1 : Int32) dX11_close_30 (by decide) ?_
  obtain ⟨_, hb1, h⟩ := dtBind h
  obtain ⟨x4, μ2, e3, h⟩ := dtCall h
  refine dr_callV_i (S0 := []) [.int (1 : Int32)] x4 μ2 dX11_close_31 (c_X11_fail l0 (1 : Int32) μ e3) mf_X11_fail wt_510 ws_3 wt_508 rfl (dtRv hb1) (by decide) rfl (Nat.le_of_ble_eq_true rfl) (Nat.le_of_ble_eq_true rfl) rfl ?_
  cases h
  exact dr_ireturn dX11_close_34 rfl
set_option maxRecDepth 100000 in
theorem c_X11_close_58 {r : Int32} {F : dtM} (l0 : Nat) (μ : dtM) (h : f_X11_close_58 l0 μ = some (r, F)) : dtW yX11_close cX11_close 4 (some .int) 4 (some (.int r)) F 58 [some (.ref l0)] [] μ := by
  rw [f_X11_close_58] at h
  refine dr_aload_n l0 dX11_close_58 rfl ?_
  refine dr_bipush (7 : Int32) dX11_close_59 (by decide) ?_
  obtain ⟨_, hb1, h⟩ := dtBind h
  obtain ⟨x4, μ2, e3, h⟩ := dtCall h
  refine dr_callV_i (S0 := []) [.int (7 : Int32)] x4 μ2 dX11_close_61 (c_X11_fail l0 (7 : Int32) μ e3) mf_X11_fail wt_510 ws_3 wt_508 rfl (dtRv hb1) (by decide) rfl (Nat.le_of_ble_eq_true rfl) (Nat.le_of_ble_eq_true rfl) rfl ?_
  cases h
  exact dr_ireturn dX11_close_64 rfl
set_option maxRecDepth 100000 in
theorem c_X11_close {r : Int32} {F : dtM} (p0 : Nat) (p1 : Int32) (p2 : Int32) (p3 : Int32) (μ : dtM) (h : f_X11_close p0 p1 p2 p3 μ = some (r, F)) : dtMet yX11_close cX11_close 4 (some .int) 4 [.ref p0, .int p1, .int p2, .int p3] μ (some (.int r)) F := by
  refine dtMet.of (by decide +kernel) (Nat.le_of_ble_eq_true rfl) (show dtW yX11_close cX11_close 4 (some .int) 4 (some (.int r)) F 0 [some (.ref p0), some (.int p1), some (.int p2), some (.int p3)] [] μ from ?_)
  rw [f_X11_close] at h
  refine dr_aload_n p0 dX11_close_0 rfl ?_
  obtain ⟨x1, e2, h⟩ := dtBind h
  refine dr_getR x1 dX11_close_1 fl_RX11_37 e2 ?_
  refine dr_iload_n p1 dX11_close_4 rfl ?_
  obtain ⟨_, hb3, h⟩ := dtBind h
  obtain ⟨x6, μ4, e5, h⟩ := dtCall h
  refine dr_callV_i (S0 := []) [.int p1] x6 μ4 dX11_close_5 (c_X3_hasPerson x1 p1 μ e5) mf_X3_hasPerson wt_867 wt_868 wt_866 rfl (dtRv hb3) (by decide) rfl (Nat.le_of_ble_eq_true rfl) (Nat.le_of_ble_eq_true rfl) rfl ?_
  obtain ⟨ht8, hf9⟩ := dtIte h
  refine dr_if_eq 29 dX11_close_8 (by decide) (fun hc7 => ?_) (fun hc7 => ?_)
  · have h := ht8 hc7
    refine dr_mask [true] [some (.ref p0)] rfl ?_
    exact c_X11_close_29 p0 μ4 h
  · have h := hf9 hc7
    refine dr_aload_n p0 dX11_close_11 rfl ?_
    obtain ⟨x10, e11, h⟩ := dtBind h
    refine dr_getR x10 dX11_close_12 fl_RX11_37 e11 ?_
    refine dr_iload_n p2 dX11_close_15 rfl ?_
    obtain ⟨_, hb12, h⟩ := dtBind h
    obtain ⟨x15, μ13, e14, h⟩ := dtCall h
    refine dr_callV_i (S0 := []) [.int p2] x15 μ13 dX11_close_16 (c_X3_hasDoor x10 p2 μ4 e14) mf_X3_hasDoor wt_841 wt_842 wt_840 rfl (dtRv hb12) (by decide) rfl (Nat.le_of_ble_eq_true rfl) (Nat.le_of_ble_eq_true rfl) rfl ?_
    obtain ⟨ht17, hf18⟩ := dtIte h
    refine dr_if_eq 29 dX11_close_19 (by decide) (fun hc16 => ?_) (fun hc16 => ?_)
    · have h := ht17 hc16
      refine dr_mask [true] [some (.ref p0)] rfl ?_
      exact c_X11_close_29 p0 μ13 h
    · have h := hf18 hc16
      refine dr_iload_n p3 dX11_close_22 rfl ?_
      obtain ⟨x21, μ19, e20, h⟩ := dtCall h
      refine dr_callS_i (S0 := []) [.int p3] x21 μ19 dX11_close_23 (c_X11_isSound p3 μ13 e20) mf_X11_isSound wt_879 wt_878 rfl (Nat.le_of_ble_eq_true rfl) (Nat.le_of_ble_eq_true rfl) rfl ?_
      obtain ⟨ht23, hf24⟩ := dtIte h
      refine dr_if_ne 35 dX11_close_26 (by decide) (fun hc22 => ?_) (fun hc22 => ?_)
      · have h := hf24 hc22
        refine dr_aload_n p0 dX11_close_35 rfl ?_
        obtain ⟨x25, e26, h⟩ := dtBind h
        refine dr_getR x25 dX11_close_36 fl_RX11_37 e26 ?_
        refine dr_iload_n p1 dX11_close_39 rfl ?_
        refine dr_iload_n p2 dX11_close_40 rfl ?_
        obtain ⟨_, hb27, h⟩ := dtBind h
        obtain ⟨x30, μ28, e29, h⟩ := dtCall h
        refine dr_callV_i (S0 := []) [.int p1, .int p2] x30 μ28 dX11_close_41 (c_X3_isAt x25 p1 p2 μ19 e29) mf_X3_isAt wt_882 wt_883 wt_881 rfl (dtRv hb27) (by decide) rfl (Nat.le_of_ble_eq_true rfl) (Nat.le_of_ble_eq_true rfl) rfl ?_
        obtain ⟨ht32, hf33⟩ := dtIte h
        refine dr_if_eq 58 dX11_close_44 (by decide) (fun hc31 => ?_) (fun hc31 => ?_)
        · have h := ht32 hc31
          refine dr_mask [true] [some (.ref p0)] rfl ?_
          exact c_X11_close_58 p0 μ28 h
        · have h := hf33 hc31
          refine dr_aload_n p0 dX11_close_47 rfl ?_
          obtain ⟨x34, e35, h⟩ := dtBind h
          refine dr_getR x34 dX11_close_48 fl_RX11_37 e35 ?_
          refine dr_iload_n p2 dX11_close_51 rfl ?_
          obtain ⟨_, hb36, h⟩ := dtBind h
          obtain ⟨x39, μ37, e38, h⟩ := dtCall h
          refine dr_callV_i (S0 := []) [.int p2] x39 μ37 dX11_close_52 (c_X3_isOpen x34 p2 μ28 e38) mf_X3_isOpen wt_845 wt_846 wt_844 rfl (dtRv hb36) (by decide) rfl (Nat.le_of_ble_eq_true rfl) (Nat.le_of_ble_eq_true rfl) rfl ?_
          obtain ⟨ht41, hf42⟩ := dtIte h
          refine dr_if_ne 65 dX11_close_55 (by decide) (fun hc40 => ?_) (fun hc40 => ?_)
          · have h := hf42 hc40
            refine dr_aload_n p0 dX11_close_65 rfl ?_
            refine dr_aload_n p0 dX11_close_66 rfl ?_
            obtain ⟨x43, e44, h⟩ := dtBind h
            refine dr_getR x43 dX11_close_67 fl_RX11_82 e44 ?_
            refine dr_aload_n p0 dX11_close_70 rfl ?_
            obtain ⟨x45, e46, h⟩ := dtBind h
            refine dr_getR x45 dX11_close_71 fl_RX11_37 e46 ?_
            refine dr_iload_n p1 dX11_close_74 rfl ?_
            refine dr_iload_n p2 dX11_close_75 rfl ?_
            refine dr_iload_n p3 dX11_close_76 rfl ?_
            obtain ⟨_, hb47, h⟩ := dtBind h
            obtain ⟨x50, μ48, e49, h⟩ := dtCall h
            refine dr_callV_i (S0 := [.ref p0]) [.ref x45, .int p1, .int p2, .int p3] x50 μ48 dX11_close_77 (c_X2_shutWith x43 x45 p1 p2 p3 μ37 e49) mf_X2_shutWith wt_888 wt_889 wt_887 rfl (dtRv hb47) (by decide) rfl (Nat.le_of_ble_eq_true rfl) (Nat.le_of_ble_eq_true rfl) rfl ?_
            obtain ⟨_, hb51, h⟩ := dtBind h
            obtain ⟨x54, μ52, e53, h⟩ := dtCall h
            refine dr_callV_i (S0 := []) [.int x50] x54 μ52 dX11_close_80 (c_X11_answer p0 x50 μ48 e53) mf_X11_answer wt_764 ws_19 wt_762 rfl (dtRv hb51) (by decide) rfl (Nat.le_of_ble_eq_true rfl) (Nat.le_of_ble_eq_true rfl) rfl ?_
            cases h
            exact dr_ireturn dX11_close_83 rfl
          · have h := ht41 hc40
            refine dr_mask [true] [some (.ref p0)] rfl ?_
            exact c_X11_close_58 p0 μ37 h
      · have h := ht23 hc22
        refine dr_mask [true] [some (.ref p0)] rfl ?_
        exact c_X11_close_29 p0 μ19 h
/-! X11_open -/
theorem dX11_open_0 : decode cX11_open 0 = .ok (.aload_n 0, 1) := by decide +kernel
theorem dX11_open_1 : decode cX11_open 1 = .ok (.getfield 37, 3) := by decide +kernel
theorem dX11_open_4 : decode cX11_open 4 = .ok (.iload_n 1, 1) := by decide +kernel
theorem dX11_open_5 : decode cX11_open 5 = .ok (.invokevirtual 250, 3) := by decide +kernel
theorem dX11_open_8 : decode cX11_open 8 = .ok (.ifCond .eq 14, 3) := by decide +kernel
theorem dX11_open_11 : decode cX11_open 11 = .ok (.aload_n 0, 1) := by decide +kernel
theorem dX11_open_12 : decode cX11_open 12 = .ok (.getfield 37, 3) := by decide +kernel
theorem dX11_open_15 : decode cX11_open 15 = .ok (.iload_n 2, 1) := by decide +kernel
theorem dX11_open_16 : decode cX11_open 16 = .ok (.invokevirtual 226, 3) := by decide +kernel
theorem dX11_open_19 : decode cX11_open 19 = .ok (.ifCond .ne 9, 3) := by decide +kernel
theorem dX11_open_22 : decode cX11_open 22 = .ok (.aload_n 0, 1) := by decide +kernel
theorem dX11_open_23 : decode cX11_open 23 = .ok (.iconst 1, 1) := by decide +kernel
theorem dX11_open_24 : decode cX11_open 24 = .ok (.invokevirtual 138, 3) := by decide +kernel
theorem dX11_open_27 : decode cX11_open 27 = .ok (.ireturn, 1) := by decide +kernel
theorem dX11_open_28 : decode cX11_open 28 = .ok (.aload_n 0, 1) := by decide +kernel
theorem dX11_open_29 : decode cX11_open 29 = .ok (.getfield 37, 3) := by decide +kernel
theorem dX11_open_32 : decode cX11_open 32 = .ok (.iload_n 1, 1) := by decide +kernel
theorem dX11_open_33 : decode cX11_open 33 = .ok (.iload_n 2, 1) := by decide +kernel
theorem dX11_open_34 : decode cX11_open 34 = .ok (.invokevirtual 271, 3) := by decide +kernel
theorem dX11_open_37 : decode cX11_open 37 = .ok (.ifCond .eq 14, 3) := by decide +kernel
theorem dX11_open_40 : decode cX11_open 40 = .ok (.aload_n 0, 1) := by decide +kernel
theorem dX11_open_41 : decode cX11_open 41 = .ok (.getfield 37, 3) := by decide +kernel
theorem dX11_open_44 : decode cX11_open 44 = .ok (.iload_n 2, 1) := by decide +kernel
theorem dX11_open_45 : decode cX11_open 45 = .ok (.invokevirtual 238, 3) := by decide +kernel
theorem dX11_open_48 : decode cX11_open 48 = .ok (.ifCond .eq 10, 3) := by decide +kernel
theorem dX11_open_51 : decode cX11_open 51 = .ok (.aload_n 0, 1) := by decide +kernel
theorem dX11_open_52 : decode cX11_open 52 = .ok (.bipush 7, 2) := by decide +kernel
theorem dX11_open_54 : decode cX11_open 54 = .ok (.invokevirtual 138, 3) := by decide +kernel
theorem dX11_open_57 : decode cX11_open 57 = .ok (.ireturn, 1) := by decide +kernel
theorem dX11_open_58 : decode cX11_open 58 = .ok (.aload_n 0, 1) := by decide +kernel
theorem dX11_open_59 : decode cX11_open 59 = .ok (.getfield 37, 3) := by decide +kernel
theorem dX11_open_62 : decode cX11_open 62 = .ok (.iload_n 2, 1) := by decide +kernel
theorem dX11_open_63 : decode cX11_open 63 = .ok (.invokevirtual 278, 3) := by decide +kernel
theorem dX11_open_66 : decode cX11_open 66 = .ok (.aload_n 0, 1) := by decide +kernel
theorem dX11_open_67 : decode cX11_open 67 = .ok (.aload_n 0, 1) := by decide +kernel
theorem dX11_open_68 : decode cX11_open 68 = .ok (.getfield 37, 3) := by decide +kernel
theorem dX11_open_71 : decode cX11_open 71 = .ok (.getfield 220, 3) := by decide +kernel
theorem dX11_open_74 : decode cX11_open 74 = .ok (.invokestatic 281, 3) := by decide +kernel
theorem dX11_open_77 : decode cX11_open 77 = .ok (.invokevirtual 192, 3) := by decide +kernel
theorem dX11_open_80 : decode cX11_open 80 = .ok (.ireturn, 1) := by decide +kernel
set_option maxRecDepth 100000 in
def f_X11_open_22 (l0 : Nat) (μ : dtM) : Option (Int32 × dtM) :=
  (opRv 11 μ l0).bind fun _ => opCall (f_X11_fail l0 (1 : Int32) μ) fun x4 μ2 => some (x4, μ2)
set_option maxRecDepth 100000 in
def f_X11_open_51 (l0 : Nat) (μ : dtM) : Option (Int32 × dtM) :=
  (opRv 11 μ l0).bind fun _ => opCall (f_X11_fail l0 (7 : Int32) μ) fun x4 μ2 => some (x4, μ2)
set_option maxRecDepth 100000 in
def f_X11_open (p0 : Nat) (p1 : Int32) (p2 : Int32) (μ : dtM) : Option (Int32 × dtM) :=
  (opGR 11 5 μ p0).bind fun x1 => (opRv 3 μ x1).bind fun _ => opCall (f_X3_hasPerson x1 p1 μ) fun x6 μ4 => if x6 = 0 then (f_X11_open_22 p0 μ4) else ((opGR 11 5 μ4 p0).bind fun x10 => (opRv 3 μ4 x10).bind fun _ => opCall (f_X3_hasDoor x10 p2 μ4) fun x15 μ13 => if x15 = 0 then (f_X11_open_22 p0 μ13) else ((opGR 11 5 μ13 p0).bind fun x19 => (opRv 3 μ13 x19).bind fun _ => opCall (f_X3_isAt x19 p1 p2 μ13) fun x24 μ22 => if x24 = 0 then (f_X11_open_51 p0 μ22) else ((opGR 11 5 μ22 p0).bind fun x28 => (opRv 3 μ22 x28).bind fun _ => opCall (f_X3_isOpen x28 p2 μ22) fun x33 μ31 => if x33 = 0 then ((opGR 11 5 μ31 p0).bind fun x37 => (opRv 3 μ31 x37).bind fun _ => (f_X3_unshut x37 p2 μ31).bind fun μ40 => (opGR 11 5 μ40 p0).bind fun x42 => (opGI 3 5 μ40 x42).bind fun x44 => opCall (f_J6_bitCount_0f7a4 x44 μ40) fun x48 μ46 => (opRv 11 μ46 p0).bind fun _ => opCall (f_X11_answer p0 x48 μ46) fun x52 μ50 => some (x52, μ50)) else (f_X11_open_51 p0 μ31))))
set_option maxRecDepth 100000 in
theorem c_X11_open_22 {r : Int32} {F : dtM} (l0 : Nat) (μ : dtM) (h : f_X11_open_22 l0 μ = some (r, F)) : dtW yX11_open cX11_open 3 (some .int) 3 (some (.int r)) F 22 [some (.ref l0)] [] μ := by
  rw [f_X11_open_22] at h
  refine dr_aload_n l0 dX11_open_22 rfl ?_
  refine dr_iconst (1 : Int32) dX11_open_23 (by decide) ?_
  obtain ⟨_, hb1, h⟩ := dtBind h
  obtain ⟨x4, μ2, e3, h⟩ := dtCall h
  refine dr_callV_i (S0 := []) [.int (1 : Int32)] x4 μ2 dX11_open_24 (c_X11_fail l0 (1 : Int32) μ e3) mf_X11_fail wt_510 ws_3 wt_508 rfl (dtRv hb1) (by decide) rfl (Nat.le_of_ble_eq_true rfl) (Nat.le_of_ble_eq_true rfl) rfl ?_
  cases h
  exact dr_ireturn dX11_open_27 rfl
set_option maxRecDepth 100000 in
theorem c_X11_open_51 {r : Int32} {F : dtM} (l0 : Nat) (μ : dtM) (h : f_X11_open_51 l0 μ = some (r, F)) : dtW yX11_open cX11_open 3 (some .int) 3 (some (.int r)) F 51 [some (.ref l0)] [] μ := by
  rw [f_X11_open_51] at h
  refine dr_aload_n l0 dX11_open_51 rfl ?_
  refine dr_bipush (7 : Int32) dX11_open_52 (by decide) ?_
  obtain ⟨_, hb1, h⟩ := dtBind h
  obtain ⟨x4, μ2, e3, h⟩ := dtCall h
  refine dr_callV_i (S0 := []) [.int (7 : Int32)] x4 μ2 dX11_open_54 (c_X11_fail l0 (7 : Int32) μ e3) mf_X11_fail wt_510 ws_3 wt_508 rfl (dtRv hb1) (by decide) rfl (Nat.le_of_ble_eq_true rfl) (Nat.le_of_ble_eq_true rfl) rfl ?_
  cases h
  exact dr_ireturn dX11_open_57 rfl
set_option maxRecDepth 100000 in
theorem c_X11_open {r : Int32} {F : dtM} (p0 : Nat) (p1 : Int32) (p2 : Int32) (μ : dtM) (h : f_X11_open p0 p1 p2 μ = some (r, F)) : dtMet yX11_open cX11_open 3 (some .int) 3 [.ref p0, .int p1, .int p2] μ (some (.int r)) F := by
  refine dtMet.of (by decide +kernel) (Nat.le_of_ble_eq_true rfl) (show dtW yX11_open cX11_open 3 (some .int) 3 (some (.int r)) F 0 [some (.ref p0), some (.int p1), some (.int p2)] [] μ from ?_)
  rw [f_X11_open] at h
  refine dr_aload_n p0 dX11_open_0 rfl ?_
  obtain ⟨x1, e2, h⟩ := dtBind h
  refine dr_getR x1 dX11_open_1 fl_RX11_37 e2 ?_
  refine dr_iload_n p1 dX11_open_4 rfl ?_
  obtain ⟨_, hb3, h⟩ := dtBind h
  obtain ⟨x6, μ4, e5, h⟩ := dtCall h
  refine dr_callV_i (S0 := []) [.int p1] x6 μ4 dX11_open_5 (c_X3_hasPerson x1 p1 μ e5) mf_X3_hasPerson wt_867 wt_868 wt_866 rfl (dtRv hb3) (by decide) rfl (Nat.le_of_ble_eq_true rfl) (Nat.le_of_ble_eq_true rfl) rfl ?_
  obtain ⟨ht8, hf9⟩ := dtIte h
  refine dr_if_eq 22 dX11_open_8 (by decide) (fun hc7 => ?_) (fun hc7 => ?_)
  · have h := ht8 hc7
    refine dr_mask [true] [some (.ref p0)] rfl ?_
    exact c_X11_open_22 p0 μ4 h
  · have h := hf9 hc7
    refine dr_aload_n p0 dX11_open_11 rfl ?_
    obtain ⟨x10, e11, h⟩ := dtBind h
    refine dr_getR x10 dX11_open_12 fl_RX11_37 e11 ?_
    refine dr_iload_n p2 dX11_open_15 rfl ?_
    obtain ⟨_, hb12, h⟩ := dtBind h
    obtain ⟨x15, μ13, e14, h⟩ := dtCall h
    refine dr_callV_i (S0 := []) [.int p2] x15 μ13 dX11_open_16 (c_X3_hasDoor x10 p2 μ4 e14) mf_X3_hasDoor wt_841 wt_842 wt_840 rfl (dtRv hb12) (by decide) rfl (Nat.le_of_ble_eq_true rfl) (Nat.le_of_ble_eq_true rfl) rfl ?_
    obtain ⟨ht17, hf18⟩ := dtIte h
    refine dr_if_ne 28 dX11_open_19 (by decide) (fun hc16 => ?_) (fun hc16 => ?_)
    · have h := hf18 hc16
      refine dr_aload_n p0 dX11_open_28 rfl ?_
      obtain ⟨x19, e20, h⟩ := dtBind h
      refine dr_getR x19 dX11_open_29 fl_RX11_37 e20 ?_
      refine dr_iload_n p1 dX11_open_32 rfl ?_
      refine dr_iload_n p2 dX11_open_33 rfl ?_
      obtain ⟨_, hb21, h⟩ := dtBind h
      obtain ⟨x24, μ22, e23, h⟩ := dtCall h
      refine dr_callV_i (S0 := []) [.int p1, .int p2] x24 μ22 dX11_open_34 (c_X3_isAt x19 p1 p2 μ13 e23) mf_X3_isAt wt_882 wt_883 wt_881 rfl (dtRv hb21) (by decide) rfl (Nat.le_of_ble_eq_true rfl) (Nat.le_of_ble_eq_true rfl) rfl ?_
      obtain ⟨ht26, hf27⟩ := dtIte h
      refine dr_if_eq 51 dX11_open_37 (by decide) (fun hc25 => ?_) (fun hc25 => ?_)
      · have h := ht26 hc25
        refine dr_mask [true] [some (.ref p0)] rfl ?_
        exact c_X11_open_51 p0 μ22 h
      · have h := hf27 hc25
        refine dr_aload_n p0 dX11_open_40 rfl ?_
        obtain ⟨x28, e29, h⟩ := dtBind h
        refine dr_getR x28 dX11_open_41 fl_RX11_37 e29 ?_
        refine dr_iload_n p2 dX11_open_44 rfl ?_
        obtain ⟨_, hb30, h⟩ := dtBind h
        obtain ⟨x33, μ31, e32, h⟩ := dtCall h
        refine dr_callV_i (S0 := []) [.int p2] x33 μ31 dX11_open_45 (c_X3_isOpen x28 p2 μ22 e32) mf_X3_isOpen wt_845 wt_846 wt_844 rfl (dtRv hb30) (by decide) rfl (Nat.le_of_ble_eq_true rfl) (Nat.le_of_ble_eq_true rfl) rfl ?_
        obtain ⟨ht35, hf36⟩ := dtIte h
        refine dr_if_eq 58 dX11_open_48 (by decide) (fun hc34 => ?_) (fun hc34 => ?_)
        · have h := ht35 hc34
          refine dr_aload_n p0 dX11_open_58 rfl ?_
          obtain ⟨x37, e38, h⟩ := dtBind h
          refine dr_getR x37 dX11_open_59 fl_RX11_37 e38 ?_
          refine dr_iload_n p2 dX11_open_62 rfl ?_
          obtain ⟨_, hb39, h⟩ := dtBind h
          obtain ⟨μ40, e41, h⟩ := dtBind h
          refine dr_callV_v (S0 := []) [.int p2] μ40 dX11_open_63 (c_X3_unshut x37 p2 μ31 e41) mf_X3_unshut wt_694 wt_695 wt_927 rfl (dtRv hb39) (by decide) rfl (Nat.le_of_ble_eq_true rfl) (Nat.le_of_ble_eq_true rfl) rfl ?_
          refine dr_aload_n p0 dX11_open_66 rfl ?_
          refine dr_aload_n p0 dX11_open_67 rfl ?_
          obtain ⟨x42, e43, h⟩ := dtBind h
          refine dr_getR x42 dX11_open_68 fl_RX11_37 e43 ?_
          obtain ⟨x44, e45, h⟩ := dtBind h
          refine dr_getI x44 dX11_open_71 fl_RX11_220 e45 ?_
          obtain ⟨x48, μ46, e47, h⟩ := dtCall h
          refine dr_callS_i (S0 := [.ref p0]) [.int x44] x48 μ46 dX11_open_74 (c_J6_bitCount_0f7a4 x44 μ40 e47) mf_J6_bitCount_0f7a4 wt_929 wt_928 rfl (Nat.le_of_ble_eq_true rfl) (Nat.le_of_ble_eq_true rfl) rfl ?_
          obtain ⟨_, hb49, h⟩ := dtBind h
          obtain ⟨x52, μ50, e51, h⟩ := dtCall h
          refine dr_callV_i (S0 := []) [.int x48] x52 μ50 dX11_open_77 (c_X11_answer p0 x48 μ46 e51) mf_X11_answer wt_764 ws_19 wt_762 rfl (dtRv hb49) (by decide) rfl (Nat.le_of_ble_eq_true rfl) (Nat.le_of_ble_eq_true rfl) rfl ?_
          cases h
          exact dr_ireturn dX11_open_80 rfl
        · have h := hf36 hc34
          refine dr_mask [true] [some (.ref p0)] rfl ?_
          exact c_X11_open_51 p0 μ31 h
    · have h := ht17 hc16
      refine dr_mask [true] [some (.ref p0)] rfl ?_
      exact c_X11_open_22 p0 μ13 h
/-! X11_go -/
theorem dX11_go_0 : decode cX11_go 0 = .ok (.aload_n 0, 1) := by decide +kernel
theorem dX11_go_1 : decode cX11_go 1 = .ok (.getfield 37, 3) := by decide +kernel
theorem dX11_go_4 : decode cX11_go 4 = .ok (.iload_n 1, 1) := by decide +kernel
theorem dX11_go_5 : decode cX11_go 5 = .ok (.invokevirtual 250, 3) := by decide +kernel
theorem dX11_go_8 : decode cX11_go 8 = .ok (.ifCond .eq 14, 3) := by decide +kernel
theorem dX11_go_11 : decode cX11_go 11 = .ok (.aload_n 0, 1) := by decide +kernel
theorem dX11_go_12 : decode cX11_go 12 = .ok (.getfield 37, 3) := by decide +kernel
theorem dX11_go_15 : decode cX11_go 15 = .ok (.iload_n 2, 1) := by decide +kernel
theorem dX11_go_16 : decode cX11_go 16 = .ok (.invokevirtual 226, 3) := by decide +kernel
theorem dX11_go_19 : decode cX11_go 19 = .ok (.ifCond .ne 9, 3) := by decide +kernel
theorem dX11_go_22 : decode cX11_go 22 = .ok (.aload_n 0, 1) := by decide +kernel
theorem dX11_go_23 : decode cX11_go 23 = .ok (.iconst 1, 1) := by decide +kernel
theorem dX11_go_24 : decode cX11_go 24 = .ok (.invokevirtual 138, 3) := by decide +kernel
theorem dX11_go_27 : decode cX11_go 27 = .ok (.ireturn, 1) := by decide +kernel
theorem dX11_go_28 : decode cX11_go 28 = .ok (.aload_n 0, 1) := by decide +kernel
theorem dX11_go_29 : decode cX11_go 29 = .ok (.getfield 37, 3) := by decide +kernel
theorem dX11_go_32 : decode cX11_go 32 = .ok (.iload_n 1, 1) := by decide +kernel
theorem dX11_go_33 : decode cX11_go 33 = .ok (.iload_n 2, 1) := by decide +kernel
theorem dX11_go_34 : decode cX11_go 34 = .ok (.invokevirtual 271, 3) := by decide +kernel
theorem dX11_go_37 : decode cX11_go 37 = .ok (.ifCond .eq 14, 3) := by decide +kernel
theorem dX11_go_40 : decode cX11_go 40 = .ok (.aload_n 0, 1) := by decide +kernel
theorem dX11_go_41 : decode cX11_go 41 = .ok (.getfield 37, 3) := by decide +kernel
theorem dX11_go_44 : decode cX11_go 44 = .ok (.iload_n 2, 1) := by decide +kernel
theorem dX11_go_45 : decode cX11_go 45 = .ok (.invokevirtual 238, 3) := by decide +kernel
theorem dX11_go_48 : decode cX11_go 48 = .ok (.ifCond .ne 10, 3) := by decide +kernel
theorem dX11_go_51 : decode cX11_go 51 = .ok (.aload_n 0, 1) := by decide +kernel
theorem dX11_go_52 : decode cX11_go 52 = .ok (.bipush 7, 2) := by decide +kernel
theorem dX11_go_54 : decode cX11_go 54 = .ok (.invokevirtual 138, 3) := by decide +kernel
theorem dX11_go_57 : decode cX11_go 57 = .ok (.ireturn, 1) := by decide +kernel
theorem dX11_go_58 : decode cX11_go 58 = .ok (.aload_n 0, 1) := by decide +kernel
theorem dX11_go_59 : decode cX11_go 59 = .ok (.getfield 37, 3) := by decide +kernel
theorem dX11_go_62 : decode cX11_go 62 = .ok (.iload_n 1, 1) := by decide +kernel
theorem dX11_go_63 : decode cX11_go 63 = .ok (.iload_n 2, 1) := by decide +kernel
theorem dX11_go_64 : decode cX11_go 64 = .ok (.invokevirtual 286, 3) := by decide +kernel
theorem dX11_go_67 : decode cX11_go 67 = .ok (.aload_n 0, 1) := by decide +kernel
theorem dX11_go_68 : decode cX11_go 68 = .ok (.aload_n 0, 1) := by decide +kernel
theorem dX11_go_69 : decode cX11_go 69 = .ok (.getfield 37, 3) := by decide +kernel
theorem dX11_go_72 : decode cX11_go 72 = .ok (.getfield 253, 3) := by decide +kernel
theorem dX11_go_75 : decode cX11_go 75 = .ok (.iload_n 1, 1) := by decide +kernel
theorem dX11_go_76 : decode cX11_go 76 = .ok (.iaload, 1) := by decide +kernel
theorem dX11_go_77 : decode cX11_go 77 = .ok (.invokevirtual 192, 3) := by decide +kernel
theorem dX11_go_80 : decode cX11_go 80 = .ok (.ireturn, 1) := by decide +kernel
set_option maxRecDepth 100000 in
def f_X11_go_22 (l0 : Nat) (μ : dtM) : Option (Int32 × dtM) :=
  (opRv 11 μ l0).bind fun _ => opCall (f_X11_fail l0 (1 : Int32) μ) fun x4 μ2 => some (x4, μ2)
set_option maxRecDepth 100000 in
def f_X11_go_51 (l0 : Nat) (μ : dtM) : Option (Int32 × dtM) :=
  (opRv 11 μ l0).bind fun _ => opCall (f_X11_fail l0 (7 : Int32) μ) fun x4 μ2 => some (x4, μ2)
set_option maxRecDepth 100000 in
def f_X11_go (p0 : Nat) (p1 : Int32) (p2 : Int32) (μ : dtM) : Option (Int32 × dtM) :=
  (opGR 11 5 μ p0).bind fun x1 => (opRv 3 μ x1).bind fun _ => opCall (f_X3_hasPerson x1 p1 μ) fun x6 μ4 => if x6 = 0 then (f_X11_go_22 p0 μ4) else ((opGR 11 5 μ4 p0).bind fun x10 => (opRv 3 μ4 x10).bind fun _ => opCall (f_X3_hasDoor x10 p2 μ4) fun x15 μ13 => if x15 = 0 then (f_X11_go_22 p0 μ13) else ((opGR 11 5 μ13 p0).bind fun x19 => (opRv 3 μ13 x19).bind fun _ => opCall (f_X3_isAt x19 p1 p2 μ13) fun x24 μ22 => if x24 = 0 then (f_X11_go_51 p0 μ22) else ((opGR 11 5 μ22 p0).bind fun x28 => (opRv 3 μ22 x28).bind fun _ => opCall (f_X3_isOpen x28 p2 μ22) fun x33 μ31 => if x33 = 0 then (f_X11_go_51 p0 μ31) else ((opGR 11 5 μ31 p0).bind fun x37 => (opRv 3 μ31 x37).bind fun _ => (f_X3_passThrough x37 p1 p2 μ31).bind fun μ40 => (opGR 11 5 μ40 p0).bind fun x42 => (opGR 3 14 μ40 x42).bind fun x44 => (opLI 1 μ40 x44 p1).bind fun x46 => (opRv 11 μ40 p0).bind fun _ => opCall (f_X11_answer p0 x46 μ40) fun x51 μ49 => some (x51, μ49)))))
set_option maxRecDepth 100000 in
theorem c_X11_go_22 {r : Int32} {F : dtM} (l0 : Nat) (μ : dtM) (h : f_X11_go_22 l0 μ = some (r, F)) : dtW yX11_go cX11_go 3 (some .int) 3 (some (.int r)) F 22 [some (.ref l0)] [] μ := by
  rw [f_X11_go_22] at h
  refine dr_aload_n l0 dX11_go_22 rfl ?_
  refine dr_iconst (1 : Int32) dX11_go_23 (by decide) ?_
  obtain ⟨_, hb1, h⟩ := dtBind h
  obtain ⟨x4, μ2, e3, h⟩ := dtCall h
  refine dr_callV_i (S0 := []) [.int (1 : Int32)] x4 μ2 dX11_go_24 (c_X11_fail l0 (1 : Int32) μ e3) mf_X11_fail wt_510 ws_3 wt_508 rfl (dtRv hb1) (by decide) rfl (Nat.le_of_ble_eq_true rfl) (Nat.le_of_ble_eq_true rfl) rfl ?_
  cases h
  exact dr_ireturn dX11_go_27 rfl
set_option maxRecDepth 100000 in
theorem c_X11_go_51 {r : Int32} {F : dtM} (l0 : Nat) (μ : dtM) (h : f_X11_go_51 l0 μ = some (r, F)) : dtW yX11_go cX11_go 3 (some .int) 3 (some (.int r)) F 51 [some (.ref l0)] [] μ := by
  rw [f_X11_go_51] at h
  refine dr_aload_n l0 dX11_go_51 rfl ?_
  refine dr_bipush (7 : Int32) dX11_go_52 (by decide) ?_
  obtain ⟨_, hb1, h⟩ := dtBind h
  obtain ⟨x4, μ2, e3, h⟩ := dtCall h
  refine dr_callV_i (S0 := []) [.int (7 : Int32)] x4 μ2 dX11_go_54 (c_X11_fail l0 (7 : Int32) μ e3) mf_X11_fail wt_510 ws_3 wt_508 rfl (dtRv hb1) (by decide) rfl (Nat.le_of_ble_eq_true rfl) (Nat.le_of_ble_eq_true rfl) rfl ?_
  cases h
  exact dr_ireturn dX11_go_57 rfl
set_option maxRecDepth 100000 in
theorem c_X11_go {r : Int32} {F : dtM} (p0 : Nat) (p1 : Int32) (p2 : Int32) (μ : dtM) (h : f_X11_go p0 p1 p2 μ = some (r, F)) : dtMet yX11_go cX11_go 3 (some .int) 3 [.ref p0, .int p1, .int p2] μ (some (.int r)) F := by
  refine dtMet.of (by decide +kernel) (Nat.le_of_ble_eq_true rfl) (show dtW yX11_go cX11_go 3 (some .int) 3 (some (.int r)) F 0 [some (.ref p0), some (.int p1), some (.int p2)] [] μ from ?_)
  rw [f_X11_go] at h
  refine dr_aload_n p0 dX11_go_0 rfl ?_
  obtain ⟨x1, e2, h⟩ := dtBind h
  refine dr_getR x1 dX11_go_1 fl_RX11_37 e2 ?_
  refine dr_iload_n p1 dX11_go_4 rfl ?_
  obtain ⟨_, hb3, h⟩ := dtBind h
  obtain ⟨x6, μ4, e5, h⟩ := dtCall h
  refine dr_callV_i (S0 := []) [.int p1] x6 μ4 dX11_go_5 (c_X3_hasPerson x1 p1 μ e5) mf_X3_hasPerson wt_867 wt_868 wt_866 rfl (dtRv hb3) (by decide) rfl (Nat.le_of_ble_eq_true rfl) (Nat.le_of_ble_eq_true rfl) rfl ?_
  obtain ⟨ht8, hf9⟩ := dtIte h
  refine dr_if_eq 22 dX11_go_8 (by decide) (fun hc7 => ?_) (fun hc7 => ?_)
  · have h := ht8 hc7
    refine dr_mask [true] [some (.ref p0)] rfl ?_
    exact c_X11_go_22 p0 μ4 h
  · have h := hf9 hc7
    refine dr_aload_n p0 dX11_go_11 rfl ?_
    obtain ⟨x10, e11, h⟩ := dtBind h
    refine dr_getR x10 dX11_go_12 fl_RX11_37 e11 ?_
    refine dr_iload_n p2 dX11_go_15 rfl ?_
    obtain ⟨_, hb12, h⟩ := dtBind h
    obtain ⟨x15, μ13, e14, h⟩ := dtCall h
    refine dr_callV_i (S0 := []) [.int p2] x15 μ13 dX11_go_16 (c_X3_hasDoor x10 p2 μ4 e14) mf_X3_hasDoor wt_841 wt_842 wt_840 rfl (dtRv hb12) (by decide) rfl (Nat.le_of_ble_eq_true rfl) (Nat.le_of_ble_eq_true rfl) rfl ?_
    obtain ⟨ht17, hf18⟩ := dtIte h
    refine dr_if_ne 28 dX11_go_19 (by decide) (fun hc16 => ?_) (fun hc16 => ?_)
    · have h := hf18 hc16
      refine dr_aload_n p0 dX11_go_28 rfl ?_
      obtain ⟨x19, e20, h⟩ := dtBind h
      refine dr_getR x19 dX11_go_29 fl_RX11_37 e20 ?_
      refine dr_iload_n p1 dX11_go_32 rfl ?_
      refine dr_iload_n p2 dX11_go_33 rfl ?_
      obtain ⟨_, hb21, h⟩ := dtBind h
      obtain ⟨x24, μ22, e23, h⟩ := dtCall h
      refine dr_callV_i (S0 := []) [.int p1, .int p2] x24 μ22 dX11_go_34 (c_X3_isAt x19 p1 p2 μ13 e23) mf_X3_isAt wt_882 wt_883 wt_881 rfl (dtRv hb21) (by decide) rfl (Nat.le_of_ble_eq_true rfl) (Nat.le_of_ble_eq_true rfl) rfl ?_
      obtain ⟨ht26, hf27⟩ := dtIte h
      refine dr_if_eq 51 dX11_go_37 (by decide) (fun hc25 => ?_) (fun hc25 => ?_)
      · have h := ht26 hc25
        refine dr_mask [true] [some (.ref p0)] rfl ?_
        exact c_X11_go_51 p0 μ22 h
      · have h := hf27 hc25
        refine dr_aload_n p0 dX11_go_40 rfl ?_
        obtain ⟨x28, e29, h⟩ := dtBind h
        refine dr_getR x28 dX11_go_41 fl_RX11_37 e29 ?_
        refine dr_iload_n p2 dX11_go_44 rfl ?_
        obtain ⟨_, hb30, h⟩ := dtBind h
        obtain ⟨x33, μ31, e32, h⟩ := dtCall h
        refine dr_callV_i (S0 := []) [.int p2] x33 μ31 dX11_go_45 (c_X3_isOpen x28 p2 μ22 e32) mf_X3_isOpen wt_845 wt_846 wt_844 rfl (dtRv hb30) (by decide) rfl (Nat.le_of_ble_eq_true rfl) (Nat.le_of_ble_eq_true rfl) rfl ?_
        obtain ⟨ht35, hf36⟩ := dtIte h
        refine dr_if_ne 58 dX11_go_48 (by decide) (fun hc34 => ?_) (fun hc34 => ?_)
        · have h := hf36 hc34
          refine dr_aload_n p0 dX11_go_58 rfl ?_
          obtain ⟨x37, e38, h⟩ := dtBind h
          refine dr_getR x37 dX11_go_59 fl_RX11_37 e38 ?_
          refine dr_iload_n p1 dX11_go_62 rfl ?_
          refine dr_iload_n p2 dX11_go_63 rfl ?_
          obtain ⟨_, hb39, h⟩ := dtBind h
          obtain ⟨μ40, e41, h⟩ := dtBind h
          refine dr_callV_v (S0 := []) [.int p1, .int p2] μ40 dX11_go_64 (c_X3_passThrough x37 p1 p2 μ31 e41) mf_X3_passThrough wt_939 wt_940 wt_938 rfl (dtRv hb39) (by decide) rfl (Nat.le_of_ble_eq_true rfl) (Nat.le_of_ble_eq_true rfl) rfl ?_
          refine dr_aload_n p0 dX11_go_67 rfl ?_
          refine dr_aload_n p0 dX11_go_68 rfl ?_
          obtain ⟨x42, e43, h⟩ := dtBind h
          refine dr_getR x42 dX11_go_69 fl_RX11_37 e43 ?_
          obtain ⟨x44, e45, h⟩ := dtBind h
          refine dr_getR x44 dX11_go_72 fl_RX11_253 e45 ?_
          refine dr_iload_n p1 dX11_go_75 rfl ?_
          obtain ⟨x46, e47, h⟩ := dtBind h
          refine dr_iaload x46 dX11_go_76 e47 ?_
          obtain ⟨_, hb48, h⟩ := dtBind h
          obtain ⟨x51, μ49, e50, h⟩ := dtCall h
          refine dr_callV_i (S0 := []) [.int x46] x51 μ49 dX11_go_77 (c_X11_answer p0 x46 μ40 e50) mf_X11_answer wt_764 ws_19 wt_762 rfl (dtRv hb48) (by decide) rfl (Nat.le_of_ble_eq_true rfl) (Nat.le_of_ble_eq_true rfl) rfl ?_
          cases h
          exact dr_ireturn dX11_go_80 rfl
        · have h := ht35 hc34
          refine dr_mask [true] [some (.ref p0)] rfl ?_
          exact c_X11_go_51 p0 μ31 h
    · have h := ht17 hc16
      refine dr_mask [true] [some (.ref p0)] rfl ?_
      exact c_X11_go_22 p0 μ13 h
/-! X11_forget -/
theorem dX11_forget_0 : decode cX11_forget 0 = .ok (.aload_n 0, 1) := by decide +kernel
theorem dX11_forget_1 : decode cX11_forget 1 = .ok (.getfield 37, 3) := by decide +kernel
theorem dX11_forget_4 : decode cX11_forget 4 = .ok (.iload_n 1, 1) := by decide +kernel
theorem dX11_forget_5 : decode cX11_forget 5 = .ok (.invokevirtual 250, 3) := by decide +kernel
theorem dX11_forget_8 : decode cX11_forget 8 = .ok (.ifCond .ne 9, 3) := by decide +kernel
theorem dX11_forget_11 : decode cX11_forget 11 = .ok (.aload_n 0, 1) := by decide +kernel
theorem dX11_forget_12 : decode cX11_forget 12 = .ok (.iconst 1, 1) := by decide +kernel
theorem dX11_forget_13 : decode cX11_forget 13 = .ok (.invokevirtual 138, 3) := by decide +kernel
theorem dX11_forget_16 : decode cX11_forget 16 = .ok (.ireturn, 1) := by decide +kernel
theorem dX11_forget_17 : decode cX11_forget 17 = .ok (.aload_n 0, 1) := by decide +kernel
theorem dX11_forget_18 : decode cX11_forget 18 = .ok (.getfield 37, 3) := by decide +kernel
theorem dX11_forget_21 : decode cX11_forget 21 = .ok (.getfield 262, 3) := by decide +kernel
theorem dX11_forget_24 : decode cX11_forget 24 = .ok (.iload_n 1, 1) := by decide +kernel
theorem dX11_forget_25 : decode cX11_forget 25 = .ok (.iaload, 1) := by decide +kernel
theorem dX11_forget_26 : decode cX11_forget 26 = .ok (.istore_n 2, 1) := by decide +kernel
theorem dX11_forget_27 : decode cX11_forget 27 = .ok (.iload_n 2, 1) := by decide +kernel
theorem dX11_forget_28 : decode cX11_forget 28 = .ok (.ifCond .ne 10, 3) := by decide +kernel
theorem dX11_forget_31 : decode cX11_forget 31 = .ok (.aload_n 0, 1) := by decide +kernel
theorem dX11_forget_32 : decode cX11_forget 32 = .ok (.bipush 7, 2) := by decide +kernel
theorem dX11_forget_34 : decode cX11_forget 34 = .ok (.invokevirtual 138, 3) := by decide +kernel
theorem dX11_forget_37 : decode cX11_forget 37 = .ok (.ireturn, 1) := by decide +kernel
theorem dX11_forget_38 : decode cX11_forget 38 = .ok (.aload_n 0, 1) := by decide +kernel
theorem dX11_forget_39 : decode cX11_forget 39 = .ok (.getfield 37, 3) := by decide +kernel
theorem dX11_forget_42 : decode cX11_forget 42 = .ok (.getfield 262, 3) := by decide +kernel
theorem dX11_forget_45 : decode cX11_forget 45 = .ok (.iload_n 1, 1) := by decide +kernel
theorem dX11_forget_46 : decode cX11_forget 46 = .ok (.iconst 0, 1) := by decide +kernel
theorem dX11_forget_47 : decode cX11_forget 47 = .ok (.iastore, 1) := by decide +kernel
theorem dX11_forget_48 : decode cX11_forget 48 = .ok (.aload_n 0, 1) := by decide +kernel
theorem dX11_forget_49 : decode cX11_forget 49 = .ok (.iload_n 2, 1) := by decide +kernel
theorem dX11_forget_50 : decode cX11_forget 50 = .ok (.invokevirtual 192, 3) := by decide +kernel
theorem dX11_forget_53 : decode cX11_forget 53 = .ok (.ireturn, 1) := by decide +kernel
set_option maxRecDepth 100000 in
def f_X11_forget (p0 : Nat) (p1 : Int32) (μ : dtM) : Option (Int32 × dtM) :=
  (opGR 11 5 μ p0).bind fun x1 => (opRv 3 μ x1).bind fun _ => opCall (f_X3_hasPerson x1 p1 μ) fun x6 μ4 => if x6 = 0 then ((opRv 11 μ4 p0).bind fun _ => opCall (f_X11_fail p0 (1 : Int32) μ4) fun x36 μ34 => some (x36, μ34)) else ((opGR 11 5 μ4 p0).bind fun x10 => (opGR 3 17 μ4 x10).bind fun x12 => (opLI 1 μ4 x12 p1).bind fun x14 => if x14 = 0 then ((opRv 11 μ4 p0).bind fun _ => opCall (f_X11_fail p0 (7 : Int32) μ4) fun x32 μ30 => some (x32, μ30)) else ((opGR 11 5 μ4 p0).bind fun x19 => (opGR 3 17 μ4 x19).bind fun x21 => (opSI μ4 x21 p1 (0 : Int32)).bind fun μ23 => (opRv 11 μ23 p0).bind fun _ => opCall (f_X11_answer p0 x14 μ23) fun x28 μ26 => some (x28, μ26)))
set_option maxRecDepth 100000 in
theorem c_X11_forget {r : Int32} {F : dtM} (p0 : Nat) (p1 : Int32) (μ : dtM) (h : f_X11_forget p0 p1 μ = some (r, F)) : dtMet yX11_forget cX11_forget 3 (some .int) 2 [.ref p0, .int p1] μ (some (.int r)) F := by
  refine dtMet.of (by decide +kernel) (Nat.le_of_ble_eq_true rfl) (show dtW yX11_forget cX11_forget 3 (some .int) 2 (some (.int r)) F 0 [some (.ref p0), some (.int p1)] [] μ from ?_)
  rw [f_X11_forget] at h
  refine dr_aload_n p0 dX11_forget_0 rfl ?_
  obtain ⟨x1, e2, h⟩ := dtBind h
  refine dr_getR x1 dX11_forget_1 fl_RX11_37 e2 ?_
  refine dr_iload_n p1 dX11_forget_4 rfl ?_
  obtain ⟨_, hb3, h⟩ := dtBind h
  obtain ⟨x6, μ4, e5, h⟩ := dtCall h
  refine dr_callV_i (S0 := []) [.int p1] x6 μ4 dX11_forget_5 (c_X3_hasPerson x1 p1 μ e5) mf_X3_hasPerson wt_867 wt_868 wt_866 rfl (dtRv hb3) (by decide) rfl (Nat.le_of_ble_eq_true rfl) (Nat.le_of_ble_eq_true rfl) rfl ?_
  obtain ⟨ht8, hf9⟩ := dtIte h
  refine dr_if_ne 17 dX11_forget_8 (by decide) (fun hc7 => ?_) (fun hc7 => ?_)
  · have h := hf9 hc7
    refine dr_aload_n p0 dX11_forget_17 rfl ?_
    obtain ⟨x10, e11, h⟩ := dtBind h
    refine dr_getR x10 dX11_forget_18 fl_RX11_37 e11 ?_
    obtain ⟨x12, e13, h⟩ := dtBind h
    refine dr_getR x12 dX11_forget_21 fl_RX11_262 e13 ?_
    refine dr_iload_n p1 dX11_forget_24 rfl ?_
    obtain ⟨x14, e15, h⟩ := dtBind h
    refine dr_iaload x14 dX11_forget_25 e15 ?_
    refine dr_istore_n 2 [some (.ref p0), some (.int p1), some (.int x14)] dX11_forget_26 rfl rfl rfl rfl ?_
    refine dr_iload_n x14 dX11_forget_27 rfl ?_
    obtain ⟨ht17, hf18⟩ := dtIte h
    refine dr_if_ne 38 dX11_forget_28 (by decide) (fun hc16 => ?_) (fun hc16 => ?_)
    · have h := hf18 hc16
      refine dr_aload_n p0 dX11_forget_38 rfl ?_
      obtain ⟨x19, e20, h⟩ := dtBind h
      refine dr_getR x19 dX11_forget_39 fl_RX11_37 e20 ?_
      obtain ⟨x21, e22, h⟩ := dtBind h
      refine dr_getR x21 dX11_forget_42 fl_RX11_262 e22 ?_
      refine dr_iload_n p1 dX11_forget_45 rfl ?_
      refine dr_iconst (0 : Int32) dX11_forget_46 (by decide) ?_
      obtain ⟨μ23, e24, h⟩ := dtBind h
      refine dr_iastore μ23 dX11_forget_47 e24 ?_
      refine dr_aload_n p0 dX11_forget_48 rfl ?_
      refine dr_iload_n x14 dX11_forget_49 rfl ?_
      obtain ⟨_, hb25, h⟩ := dtBind h
      obtain ⟨x28, μ26, e27, h⟩ := dtCall h
      refine dr_callV_i (S0 := []) [.int x14] x28 μ26 dX11_forget_50 (c_X11_answer p0 x14 μ23 e27) mf_X11_answer wt_764 ws_19 wt_762 rfl (dtRv hb25) (by decide) rfl (Nat.le_of_ble_eq_true rfl) (Nat.le_of_ble_eq_true rfl) rfl ?_
      cases h
      exact dr_ireturn dX11_forget_53 rfl
    · have h := ht17 hc16
      refine dr_aload_n p0 dX11_forget_31 rfl ?_
      refine dr_bipush (7 : Int32) dX11_forget_32 (by decide) ?_
      obtain ⟨_, hb29, h⟩ := dtBind h
      obtain ⟨x32, μ30, e31, h⟩ := dtCall h
      refine dr_callV_i (S0 := []) [.int (7 : Int32)] x32 μ30 dX11_forget_34 (c_X11_fail p0 (7 : Int32) μ4 e31) mf_X11_fail wt_510 ws_3 wt_508 rfl (dtRv hb29) (by decide) rfl (Nat.le_of_ble_eq_true rfl) (Nat.le_of_ble_eq_true rfl) rfl ?_
      cases h
      exact dr_ireturn dX11_forget_37 rfl
  · have h := ht8 hc7
    refine dr_aload_n p0 dX11_forget_11 rfl ?_
    refine dr_iconst (1 : Int32) dX11_forget_12 (by decide) ?_
    obtain ⟨_, hb33, h⟩ := dtBind h
    obtain ⟨x36, μ34, e35, h⟩ := dtCall h
    refine dr_callV_i (S0 := []) [.int (1 : Int32)] x36 μ34 dX11_forget_13 (c_X11_fail p0 (1 : Int32) μ4 e35) mf_X11_fail wt_510 ws_3 wt_508 rfl (dtRv hb33) (by decide) rfl (Nat.le_of_ble_eq_true rfl) (Nat.le_of_ble_eq_true rfl) rfl ?_
    cases h
    exact dr_ireturn dX11_forget_16 rfl
/-! X11_teach -/
theorem dX11_teach_0 : decode cX11_teach 0 = .ok (.aload_n 0, 1) := by decide +kernel
theorem dX11_teach_1 : decode cX11_teach 1 = .ok (.getfield 37, 3) := by decide +kernel
theorem dX11_teach_4 : decode cX11_teach 4 = .ok (.iload_n 1, 1) := by decide +kernel
theorem dX11_teach_5 : decode cX11_teach 5 = .ok (.invokevirtual 250, 3) := by decide +kernel
theorem dX11_teach_8 : decode cX11_teach 8 = .ok (.ifCond .eq 14, 3) := by decide +kernel
theorem dX11_teach_11 : decode cX11_teach 11 = .ok (.aload_n 0, 1) := by decide +kernel
theorem dX11_teach_12 : decode cX11_teach 12 = .ok (.getfield 37, 3) := by decide +kernel
theorem dX11_teach_15 : decode cX11_teach 15 = .ok (.iload_n 2, 1) := by decide +kernel
theorem dX11_teach_16 : decode cX11_teach 16 = .ok (.invokevirtual 241, 3) := by decide +kernel
theorem dX11_teach_19 : decode cX11_teach 19 = .ok (.ifCond .ne 9, 3) := by decide +kernel
theorem dX11_teach_22 : decode cX11_teach 22 = .ok (.aload_n 0, 1) := by decide +kernel
theorem dX11_teach_23 : decode cX11_teach 23 = .ok (.iconst 1, 1) := by decide +kernel
theorem dX11_teach_24 : decode cX11_teach 24 = .ok (.invokevirtual 119, 3) := by decide +kernel
theorem dX11_teach_27 : decode cX11_teach 27 = .ok (.ireturn, 1) := by decide +kernel
theorem dX11_teach_28 : decode cX11_teach 28 = .ok (.aload_n 0, 1) := by decide +kernel
theorem dX11_teach_29 : decode cX11_teach 29 = .ok (.getfield 37, 3) := by decide +kernel
theorem dX11_teach_32 : decode cX11_teach 32 = .ok (.getfield 259, 3) := by decide +kernel
theorem dX11_teach_35 : decode cX11_teach 35 = .ok (.iload_n 1, 1) := by decide +kernel
theorem dX11_teach_36 : decode cX11_teach 36 = .ok (.iaload, 1) := by decide +kernel
theorem dX11_teach_37 : decode cX11_teach 37 = .ok (.iload_n 2, 1) := by decide +kernel
theorem dX11_teach_38 : decode cX11_teach 38 = .ok (.invokestatic 289, 3) := by decide +kernel
theorem dX11_teach_41 : decode cX11_teach 41 = .ok (.iload_n 3, 1) := by decide +kernel
theorem dX11_teach_42 : decode cX11_teach 42 = .ok (.if_icmp .ne 10, 3) := by decide +kernel
theorem dX11_teach_45 : decode cX11_teach 45 = .ok (.aload_n 0, 1) := by decide +kernel
theorem dX11_teach_46 : decode cX11_teach 46 = .ok (.bipush 7, 2) := by decide +kernel
theorem dX11_teach_48 : decode cX11_teach 48 = .ok (.invokevirtual 119, 3) := by decide +kernel
theorem dX11_teach_51 : decode cX11_teach 51 = .ok (.ireturn, 1) := by decide +kernel
theorem dX11_teach_52 : decode cX11_teach 52 = .ok (.aload_n 0, 1) := by decide +kernel
theorem dX11_teach_53 : decode cX11_teach 53 = .ok (.getfield 37, 3) := by decide +kernel
theorem dX11_teach_56 : decode cX11_teach 56 = .ok (.getfield 259, 3) := by decide +kernel
theorem dX11_teach_59 : decode cX11_teach 59 = .ok (.iload_n 1, 1) := by decide +kernel
theorem dX11_teach_60 : decode cX11_teach 60 = .ok (.dup2, 1) := by decide +kernel
theorem dX11_teach_61 : decode cX11_teach 61 = .ok (.iaload, 1) := by decide +kernel
theorem dX11_teach_62 : decode cX11_teach 62 = .ok (.iconst 1, 1) := by decide +kernel
theorem dX11_teach_63 : decode cX11_teach 63 = .ok (.iload_n 2, 1) := by decide +kernel
theorem dX11_teach_64 : decode cX11_teach 64 = .ok (.ishl, 1) := by decide +kernel
theorem dX11_teach_65 : decode cX11_teach 65 = .ok (.ixor, 1) := by decide +kernel
theorem dX11_teach_66 : decode cX11_teach 66 = .ok (.iastore, 1) := by decide +kernel
theorem dX11_teach_67 : decode cX11_teach 67 = .ok (.aload_n 0, 1) := by decide +kernel
theorem dX11_teach_68 : decode cX11_teach 68 = .ok (.invokevirtual 126, 3) := by decide +kernel
theorem dX11_teach_71 : decode cX11_teach 71 = .ok (.ireturn, 1) := by decide +kernel
set_option maxRecDepth 100000 in
def f_X11_teach_22 (l0 : Nat) (μ : dtM) : Option (Int32 × dtM) :=
  (opRv 11 μ l0).bind fun _ => opCall (f_X11_refuse l0 (1 : Int32) μ) fun x4 μ2 => opRet x4 μ2
set_option maxRecDepth 100000 in
def f_X11_teach (p0 : Nat) (p1 : Int32) (p2 : Int32) (p3 : Int32) (μ : dtM) : Option (Int32 × dtM) :=
  (opGR 11 5 μ p0).bind fun x1 => (opRv 3 μ x1).bind fun _ => opCall (f_X3_hasPerson x1 p1 μ) fun x6 μ4 => if x6 = 0 then (f_X11_teach_22 p0 μ4) else ((opGR 11 5 μ4 p0).bind fun x10 => (opRv 3 μ4 x10).bind fun _ => opCall (f_X3_hasWord x10 p2 μ4) fun x15 μ13 => if x15 = 0 then (f_X11_teach_22 p0 μ13) else ((opGR 11 5 μ13 p0).bind fun x19 => (opGR 3 16 μ13 x19).bind fun x21 => (opLI 1 μ13 x21 p1).bind fun x23 => opCall (f_X11_contains x23 p2 μ13) fun x27 μ25 => if x27 = p3 then ((opRv 11 μ25 p0).bind fun _ => opCall (f_X11_refuse p0 (7 : Int32) μ25) fun x46 μ44 => opRet x46 μ44) else ((opGR 11 5 μ25 p0).bind fun x31 => (opGR 3 16 μ25 x31).bind fun x33 => (opLI 1 μ25 x33 p1).bind fun x35 => (opSI μ25 x33 p1 (x35 ^^^ ((1 : Int32) <<< (p2 &&& 31)))).bind fun μ37 => (opRv 11 μ37 p0).bind fun _ => opCall (f_X11_agree p0 μ37) fun x42 μ40 => opRet x42 μ40)))
set_option maxRecDepth 100000 in
theorem c_X11_teach_22 {r : Int32} {F : dtM} (l0 : Nat) (μ : dtM) (h : f_X11_teach_22 l0 μ = some (r, F)) : dtW yX11_teach cX11_teach 4 (some .boolean) 2 (some (.int r)) F 22 [some (.ref l0)] [] μ := by
  rw [f_X11_teach_22] at h
  refine dr_aload_n l0 dX11_teach_22 rfl ?_
  refine dr_iconst (1 : Int32) dX11_teach_23 (by decide) ?_
  obtain ⟨_, hb1, h⟩ := dtBind h
  obtain ⟨x4, μ2, e3, h⟩ := dtCall h
  refine dr_callV_i (S0 := []) [.int (1 : Int32)] x4 μ2 dX11_teach_24 (c_X11_refuse l0 (1 : Int32) μ e3) mf_X11_refuse wt_482 ws_0 wt_480 rfl (dtRv hb1) (by decide) rfl (Nat.le_of_ble_eq_true rfl) (Nat.le_of_ble_eq_true rfl) rfl ?_
  obtain ⟨hz, rfl, rfl⟩ := dtRet h
  exact dr_ireturn dX11_teach_27 (dtNz hz)
set_option maxRecDepth 100000 in
theorem c_X11_teach {r : Int32} {F : dtM} (p0 : Nat) (p1 : Int32) (p2 : Int32) (p3 : Int32) (μ : dtM) (h : f_X11_teach p0 p1 p2 p3 μ = some (r, F)) : dtMet yX11_teach cX11_teach 4 (some .boolean) 2 [.ref p0, .int p1, .int p2, .int p3] μ (some (.int r)) F := by
  refine dtMet.of (by decide +kernel) (Nat.le_of_ble_eq_true rfl) (show dtW yX11_teach cX11_teach 4 (some .boolean) 2 (some (.int r)) F 0 [some (.ref p0), some (.int p1), some (.int p2), some (.int p3)] [] μ from ?_)
  rw [f_X11_teach] at h
  refine dr_aload_n p0 dX11_teach_0 rfl ?_
  obtain ⟨x1, e2, h⟩ := dtBind h
  refine dr_getR x1 dX11_teach_1 fl_RX11_37 e2 ?_
  refine dr_iload_n p1 dX11_teach_4 rfl ?_
  obtain ⟨_, hb3, h⟩ := dtBind h
  obtain ⟨x6, μ4, e5, h⟩ := dtCall h
  refine dr_callV_i (S0 := []) [.int p1] x6 μ4 dX11_teach_5 (c_X3_hasPerson x1 p1 μ e5) mf_X3_hasPerson wt_867 wt_868 wt_866 rfl (dtRv hb3) (by decide) rfl (Nat.le_of_ble_eq_true rfl) (Nat.le_of_ble_eq_true rfl) rfl ?_
  obtain ⟨ht8, hf9⟩ := dtIte h
  refine dr_if_eq 22 dX11_teach_8 (by decide) (fun hc7 => ?_) (fun hc7 => ?_)
  · have h := ht8 hc7
    refine dr_mask [true] [some (.ref p0)] rfl ?_
    exact c_X11_teach_22 p0 μ4 h
  · have h := hf9 hc7
    refine dr_aload_n p0 dX11_teach_11 rfl ?_
    obtain ⟨x10, e11, h⟩ := dtBind h
    refine dr_getR x10 dX11_teach_12 fl_RX11_37 e11 ?_
    refine dr_iload_n p2 dX11_teach_15 rfl ?_
    obtain ⟨_, hb12, h⟩ := dtBind h
    obtain ⟨x15, μ13, e14, h⟩ := dtCall h
    refine dr_callV_i (S0 := []) [.int p2] x15 μ13 dX11_teach_16 (c_X3_hasWord x10 p2 μ4 e14) mf_X3_hasWord wt_854 wt_855 wt_853 rfl (dtRv hb12) (by decide) rfl (Nat.le_of_ble_eq_true rfl) (Nat.le_of_ble_eq_true rfl) rfl ?_
    obtain ⟨ht17, hf18⟩ := dtIte h
    refine dr_if_ne 28 dX11_teach_19 (by decide) (fun hc16 => ?_) (fun hc16 => ?_)
    · have h := hf18 hc16
      refine dr_aload_n p0 dX11_teach_28 rfl ?_
      obtain ⟨x19, e20, h⟩ := dtBind h
      refine dr_getR x19 dX11_teach_29 fl_RX11_37 e20 ?_
      obtain ⟨x21, e22, h⟩ := dtBind h
      refine dr_getR x21 dX11_teach_32 fl_RX11_259 e22 ?_
      refine dr_iload_n p1 dX11_teach_35 rfl ?_
      obtain ⟨x23, e24, h⟩ := dtBind h
      refine dr_iaload x23 dX11_teach_36 e24 ?_
      refine dr_iload_n p2 dX11_teach_37 rfl ?_
      obtain ⟨x27, μ25, e26, h⟩ := dtCall h
      refine dr_callS_i (S0 := []) [.int x23, .int p2] x27 μ25 dX11_teach_38 (c_X11_contains x23 p2 μ13 e26) mf_X11_contains wt_748 wt_950 rfl (Nat.le_of_ble_eq_true rfl) (Nat.le_of_ble_eq_true rfl) rfl ?_
      refine dr_iload_n p3 dX11_teach_41 rfl ?_
      obtain ⟨ht29, hf30⟩ := dtIte h
      refine dr_icmp_ne 52 dX11_teach_42 (by decide) (fun hc28 => ?_) (fun hc28 => ?_)
      · have h := hf30 hc28
        refine dr_aload_n p0 dX11_teach_52 rfl ?_
        obtain ⟨x31, e32, h⟩ := dtBind h
        refine dr_getR x31 dX11_teach_53 fl_RX11_37 e32 ?_
        obtain ⟨x33, e34, h⟩ := dtBind h
        refine dr_getR x33 dX11_teach_56 fl_RX11_259 e34 ?_
        refine dr_iload_n p1 dX11_teach_59 rfl ?_
        refine dr_dup2 dX11_teach_60 rfl rfl ?_
        obtain ⟨x35, e36, h⟩ := dtBind h
        refine dr_iaload x35 dX11_teach_61 e36 ?_
        refine dr_iconst (1 : Int32) dX11_teach_62 (by decide) ?_
        refine dr_iload_n p2 dX11_teach_63 rfl ?_
        refine dr_ishl dX11_teach_64 ?_
        refine dr_ixor dX11_teach_65 ?_
        obtain ⟨μ37, e38, h⟩ := dtBind h
        refine dr_iastore μ37 dX11_teach_66 e38 ?_
        refine dr_aload_n p0 dX11_teach_67 rfl ?_
        obtain ⟨_, hb39, h⟩ := dtBind h
        obtain ⟨x42, μ40, e41, h⟩ := dtCall h
        refine dr_callV_i (S0 := []) [] x42 μ40 dX11_teach_68 (c_X11_agree p0 μ37 e41) mf_X11_agree wt_490 ws_1 wt_488 rfl (dtRv hb39) (by decide) rfl (Nat.le_of_ble_eq_true rfl) (Nat.le_of_ble_eq_true rfl) rfl ?_
        obtain ⟨hz, rfl, rfl⟩ := dtRet h
        exact dr_ireturn dX11_teach_71 (dtNz hz)
      · have h := ht29 hc28
        refine dr_aload_n p0 dX11_teach_45 rfl ?_
        refine dr_bipush (7 : Int32) dX11_teach_46 (by decide) ?_
        obtain ⟨_, hb43, h⟩ := dtBind h
        obtain ⟨x46, μ44, e45, h⟩ := dtCall h
        refine dr_callV_i (S0 := []) [.int (7 : Int32)] x46 μ44 dX11_teach_48 (c_X11_refuse p0 (7 : Int32) μ25 e45) mf_X11_refuse wt_482 ws_0 wt_480 rfl (dtRv hb43) (by decide) rfl (Nat.le_of_ble_eq_true rfl) (Nat.le_of_ble_eq_true rfl) rfl ?_
        obtain ⟨hz, rfl, rfl⟩ := dtRet h
        exact dr_ireturn dX11_teach_51 (dtNz hz)
    · have h := ht17 hc16
      refine dr_mask [true] [some (.ref p0)] rfl ?_
      exact c_X11_teach_22 p0 μ13 h
/-! X11_runStatus -/
theorem dX11_runStatus_0 : decode cX11_runStatus 0 = .ok (.iload_n 1, 1) := by decide +kernel
theorem dX11_runStatus_1 : decode cX11_runStatus 1 = .ok (.invokestatic 111, 3) := by decide +kernel
theorem dX11_runStatus_4 : decode cX11_runStatus 4 = .ok (.ifCond .ne 5, 3) := by decide +kernel
theorem dX11_runStatus_7 : decode cX11_runStatus 7 = .ok (.iconst 1, 1) := by decide +kernel
theorem dX11_runStatus_8 : decode cX11_runStatus 8 = .ok (.ireturn, 1) := by decide +kernel
theorem dX11_runStatus_9 : decode cX11_runStatus 9 = .ok (.aload_n 0, 1) := by decide +kernel
theorem dX11_runStatus_10 : decode cX11_runStatus 10 = .ok (.getfield 22, 3) := by decide +kernel
theorem dX11_runStatus_13 : decode cX11_runStatus 13 = .ok (.iload_n 1, 1) := by decide +kernel
theorem dX11_runStatus_14 : decode cX11_runStatus 14 = .ok (.aaload, 1) := by decide +kernel
theorem dX11_runStatus_15 : decode cX11_runStatus 15 = .ok (.getfield 146, 3) := by decide +kernel
theorem dX11_runStatus_18 : decode cX11_runStatus 18 = .ok (.ifCond .ne 5, 3) := by decide +kernel
theorem dX11_runStatus_21 : decode cX11_runStatus 21 = .ok (.iconst 2, 1) := by decide +kernel
theorem dX11_runStatus_22 : decode cX11_runStatus 22 = .ok (.ireturn, 1) := by decide +kernel
theorem dX11_runStatus_23 : decode cX11_runStatus 23 = .ok (.aload_n 0, 1) := by decide +kernel
theorem dX11_runStatus_24 : decode cX11_runStatus 24 = .ok (.getfield 22, 3) := by decide +kernel
theorem dX11_runStatus_27 : decode cX11_runStatus 27 = .ok (.iload_n 1, 1) := by decide +kernel
theorem dX11_runStatus_28 : decode cX11_runStatus 28 = .ok (.aaload, 1) := by decide +kernel
theorem dX11_runStatus_29 : decode cX11_runStatus 29 = .ok (.iconst 0, 1) := by decide +kernel
theorem dX11_runStatus_30 : decode cX11_runStatus 30 = .ok (.iload_n 2, 1) := by decide +kernel
theorem dX11_runStatus_31 : decode cX11_runStatus 31 = .ok (.invokevirtual 153, 3) := by decide +kernel
theorem dX11_runStatus_34 : decode cX11_runStatus 34 = .ok (.ifCond .eq 7, 3) := by decide +kernel
theorem dX11_runStatus_37 : decode cX11_runStatus 37 = .ok (.iconst 0, 1) := by decide +kernel
theorem dX11_runStatus_38 : decode cX11_runStatus 38 = .ok (.goto 4, 3) := by decide +kernel
theorem dX11_runStatus_41 : decode cX11_runStatus 41 = .ok (.iconst 3, 1) := by decide +kernel
theorem dX11_runStatus_42 : decode cX11_runStatus 42 = .ok (.ireturn, 1) := by decide +kernel
set_option maxRecDepth 100000 in
def f_X11_runStatus_42 (s0 : Int32) (μ : dtM) : Option (Int32 × dtM) :=
  some (s0, μ)
set_option maxRecDepth 100000 in
def f_X11_runStatus (p0 : Nat) (p1 : Int32) (p2 : Int32) (μ : dtM) : Option (Int32 × dtM) :=
  opCall (f_X11_isTray p1 μ) fun x3 μ1 => if x3 = 0 then (some ((1 : Int32), μ1)) else ((opGR 11 3 μ1 p0).bind fun x7 => (opLR 4 μ1 x7 p1).bind fun x9 => (opGI 9 0 μ1 x9).bind fun x11 => if x11 = 0 then (some ((2 : Int32), μ1)) else ((opGR 11 3 μ1 p0).bind fun x16 => (opLR 4 μ1 x16 p1).bind fun x18 => (opRv 9 μ1 x18).bind fun _ => opCall (f_X9_hasRun x18 (0 : Int32) p2 μ1) fun x23 μ21 => if x23 = 0 then (f_X11_runStatus_42 (3 : Int32) μ21) else (f_X11_runStatus_42 (0 : Int32) μ21)))
set_option maxRecDepth 100000 in
theorem c_X11_runStatus_42 {r : Int32} {F : dtM} (s0 : Int32) (μ : dtM) (h : f_X11_runStatus_42 s0 μ = some (r, F)) : dtW yX11_runStatus cX11_runStatus 3 (some .int) 3 (some (.int r)) F 42 [] [.int s0] μ := by
  rw [f_X11_runStatus_42] at h
  cases h
  exact dr_ireturn dX11_runStatus_42 rfl
set_option maxRecDepth 100000 in
theorem c_X11_runStatus {r : Int32} {F : dtM} (p0 : Nat) (p1 : Int32) (p2 : Int32) (μ : dtM) (h : f_X11_runStatus p0 p1 p2 μ = some (r, F)) : dtMet yX11_runStatus cX11_runStatus 3 (some .int) 3 [.ref p0, .int p1, .int p2] μ (some (.int r)) F := by
  refine dtMet.of (by decide +kernel) (Nat.le_of_ble_eq_true rfl) (show dtW yX11_runStatus cX11_runStatus 3 (some .int) 3 (some (.int r)) F 0 [some (.ref p0), some (.int p1), some (.int p2)] [] μ from ?_)
  rw [f_X11_runStatus] at h
  refine dr_iload_n p1 dX11_runStatus_0 rfl ?_
  obtain ⟨x3, μ1, e2, h⟩ := dtCall h
  refine dr_callS_i (S0 := []) [.int p1] x3 μ1 dX11_runStatus_1 (c_X11_isTray p1 μ e2) mf_X11_isTray wt_475 wt_474 rfl (Nat.le_of_ble_eq_true rfl) (Nat.le_of_ble_eq_true rfl) rfl ?_
  obtain ⟨ht5, hf6⟩ := dtIte h
  refine dr_if_ne 9 dX11_runStatus_4 (by decide) (fun hc4 => ?_) (fun hc4 => ?_)
  · have h := hf6 hc4
    refine dr_aload_n p0 dX11_runStatus_9 rfl ?_
    obtain ⟨x7, e8, h⟩ := dtBind h
    refine dr_getR x7 dX11_runStatus_10 fl_RX11_22 e8 ?_
    refine dr_iload_n p1 dX11_runStatus_13 rfl ?_
    obtain ⟨x9, e10, h⟩ := dtBind h
    refine dr_aaload4 x9 dX11_runStatus_14 e10 ?_
    obtain ⟨x11, e12, h⟩ := dtBind h
    refine dr_getZ x11 dX11_runStatus_15 fl_RX11_146 e12 ?_
    obtain ⟨ht14, hf15⟩ := dtIte h
    refine dr_if_ne 23 dX11_runStatus_18 (by decide) (fun hc13 => ?_) (fun hc13 => ?_)
    · have h := hf15 hc13
      refine dr_aload_n p0 dX11_runStatus_23 rfl ?_
      obtain ⟨x16, e17, h⟩ := dtBind h
      refine dr_getR x16 dX11_runStatus_24 fl_RX11_22 e17 ?_
      refine dr_iload_n p1 dX11_runStatus_27 rfl ?_
      obtain ⟨x18, e19, h⟩ := dtBind h
      refine dr_aaload4 x18 dX11_runStatus_28 e19 ?_
      refine dr_iconst (0 : Int32) dX11_runStatus_29 (by decide) ?_
      refine dr_iload_n p2 dX11_runStatus_30 rfl ?_
      obtain ⟨_, hb20, h⟩ := dtBind h
      obtain ⟨x23, μ21, e22, h⟩ := dtCall h
      refine dr_callV_i (S0 := []) [.int (0 : Int32), .int p2] x23 μ21 dX11_runStatus_31 (c_X9_hasRun x18 (0 : Int32) p2 μ1 e22) mf_X9_hasRun wt_517 wt_518 wt_516 rfl (dtRv hb20) (by decide) rfl (Nat.le_of_ble_eq_true rfl) (Nat.le_of_ble_eq_true rfl) rfl ?_
      obtain ⟨ht25, hf26⟩ := dtIte h
      refine dr_if_eq 41 dX11_runStatus_34 (by decide) (fun hc24 => ?_) (fun hc24 => ?_)
      · have h := ht25 hc24
        refine dr_iconst (3 : Int32) dX11_runStatus_41 (by decide) ?_
        refine dr_mask [] [] rfl ?_
        exact c_X11_runStatus_42 (3 : Int32) μ21 h
      · have h := hf26 hc24
        refine dr_iconst (0 : Int32) dX11_runStatus_37 (by decide) ?_
        refine dr_goto 42 dX11_runStatus_38 (by decide) ?_
        refine dr_mask [] [] rfl ?_
        exact c_X11_runStatus_42 (0 : Int32) μ21 h
    · have h := ht14 hc13
      refine dr_iconst (2 : Int32) dX11_runStatus_21 (by decide) ?_
      cases h
      exact dr_ireturn dX11_runStatus_22 rfl
  · have h := ht5 hc4
    refine dr_iconst (1 : Int32) dX11_runStatus_7 (by decide) ?_
    cases h
    exact dr_ireturn dX11_runStatus_8 rfl
/-! X11_coin -/
theorem dX11_coin_0 : decode cX11_coin 0 = .ok (.iload_n 2, 1) := by decide +kernel
theorem dX11_coin_1 : decode cX11_coin 1 = .ok (.iconst 1, 1) := by decide +kernel
theorem dX11_coin_2 : decode cX11_coin 2 = .ok (.iconst 4, 1) := by decide +kernel
theorem dX11_coin_3 : decode cX11_coin 3 = .ok (.invokestatic 115, 3) := by decide +kernel
theorem dX11_coin_6 : decode cX11_coin 6 = .ok (.ifCond .eq 12, 3) := by decide +kernel
theorem dX11_coin_9 : decode cX11_coin 9 = .ok (.aload_n 0, 1) := by decide +kernel
theorem dX11_coin_10 : decode cX11_coin 10 = .ok (.iload_n 1, 1) := by decide +kernel
theorem dX11_coin_11 : decode cX11_coin 11 = .ok (.iload_n 2, 1) := by decide +kernel
theorem dX11_coin_12 : decode cX11_coin 12 = .ok (.invokevirtual 292, 3) := by decide +kernel
theorem dX11_coin_15 : decode cX11_coin 15 = .ok (.goto 4, 3) := by decide +kernel
theorem dX11_coin_18 : decode cX11_coin 18 = .ok (.iconst 1, 1) := by decide +kernel
theorem dX11_coin_19 : decode cX11_coin 19 = .ok (.istore_n 3, 1) := by decide +kernel
theorem dX11_coin_20 : decode cX11_coin 20 = .ok (.iload_n 3, 1) := by decide +kernel
theorem dX11_coin_21 : decode cX11_coin 21 = .ok (.ifCond .eq 9, 3) := by decide +kernel
theorem dX11_coin_24 : decode cX11_coin 24 = .ok (.aload_n 0, 1) := by decide +kernel
theorem dX11_coin_25 : decode cX11_coin 25 = .ok (.iload_n 3, 1) := by decide +kernel
theorem dX11_coin_26 : decode cX11_coin 26 = .ok (.invokevirtual 138, 3) := by decide +kernel
theorem dX11_coin_29 : decode cX11_coin 29 = .ok (.ireturn, 1) := by decide +kernel
theorem dX11_coin_30 : decode cX11_coin 30 = .ok (.aload_n 0, 1) := by decide +kernel
theorem dX11_coin_31 : decode cX11_coin 31 = .ok (.getfield 37, 3) := by decide +kernel
theorem dX11_coin_34 : decode cX11_coin 34 = .ok (.getfield 214, 3) := by decide +kernel
theorem dX11_coin_37 : decode cX11_coin 37 = .ok (.bipush 7, 2) := by decide +kernel
theorem dX11_coin_39 : decode cX11_coin 39 = .ok (.if_icmp .lt 9, 3) := by decide +kernel
theorem dX11_coin_42 : decode cX11_coin 42 = .ok (.aload_n 0, 1) := by decide +kernel
theorem dX11_coin_43 : decode cX11_coin 43 = .ok (.iconst 4, 1) := by decide +kernel
theorem dX11_coin_44 : decode cX11_coin 44 = .ok (.invokevirtual 138, 3) := by decide +kernel
theorem dX11_coin_47 : decode cX11_coin 47 = .ok (.ireturn, 1) := by decide +kernel
theorem dX11_coin_48 : decode cX11_coin 48 = .ok (.aload_n 0, 1) := by decide +kernel
theorem dX11_coin_49 : decode cX11_coin 49 = .ok (.getfield 22, 3) := by decide +kernel
theorem dX11_coin_52 : decode cX11_coin 52 = .ok (.iload_n 1, 1) := by decide +kernel
theorem dX11_coin_53 : decode cX11_coin 53 = .ok (.aaload, 1) := by decide +kernel
theorem dX11_coin_54 : decode cX11_coin 54 = .ok (.iload_n 2, 1) := by decide +kernel
theorem dX11_coin_55 : decode cX11_coin 55 = .ok (.iconst 4, 1) := by decide +kernel
theorem dX11_coin_56 : decode cX11_coin 56 = .ok (.invokevirtual 295, 3) := by decide +kernel
theorem dX11_coin_59 : decode cX11_coin 59 = .ok (.ifCond .ne 9, 3) := by decide +kernel
theorem dX11_coin_62 : decode cX11_coin 62 = .ok (.aload_n 0, 1) := by decide +kernel
theorem dX11_coin_63 : decode cX11_coin 63 = .ok (.iconst 5, 1) := by decide +kernel
theorem dX11_coin_64 : decode cX11_coin 64 = .ok (.invokevirtual 138, 3) := by decide +kernel
theorem dX11_coin_67 : decode cX11_coin 67 = .ok (.ireturn, 1) := by decide +kernel
theorem dX11_coin_68 : decode cX11_coin 68 = .ok (.aload_n 0, 1) := by decide +kernel
theorem dX11_coin_69 : decode cX11_coin 69 = .ok (.getfield 37, 3) := by decide +kernel
theorem dX11_coin_72 : decode cX11_coin 72 = .ok (.invokevirtual 298, 3) := by decide +kernel
theorem dX11_coin_75 : decode cX11_coin 75 = .ok (.iconst 0, 1) := by decide +kernel
theorem dX11_coin_76 : decode cX11_coin 76 = .ok (.istore 4, 2) := by decide +kernel
theorem dX11_coin_78 : decode cX11_coin 78 = .ok (.iload 4, 2) := by decide +kernel
theorem dX11_coin_80 : decode cX11_coin 80 = .ok (.iload_n 2, 1) := by decide +kernel
theorem dX11_coin_81 : decode cX11_coin 81 = .ok (.if_icmp .ge 27, 3) := by decide +kernel
theorem dX11_coin_84 : decode cX11_coin 84 = .ok (.aload_n 0, 1) := by decide +kernel
theorem dX11_coin_85 : decode cX11_coin 85 = .ok (.getfield 37, 3) := by decide +kernel
theorem dX11_coin_88 : decode cX11_coin 88 = .ok (.aload_n 0, 1) := by decide +kernel
theorem dX11_coin_89 : decode cX11_coin 89 = .ok (.getfield 22, 3) := by decide +kernel
theorem dX11_coin_92 : decode cX11_coin 92 = .ok (.iload_n 1, 1) := by decide +kernel
theorem dX11_coin_93 : decode cX11_coin 93 = .ok (.aaload, 1) := by decide +kernel
theorem dX11_coin_94 : decode cX11_coin 94 = .ok (.iload 4, 2) := by decide +kernel
theorem dX11_coin_96 : decode cX11_coin 96 = .ok (.invokevirtual 301, 3) := by decide +kernel
theorem dX11_coin_99 : decode cX11_coin 99 = .ok (.invokevirtual 304, 3) := by decide +kernel
theorem dX11_coin_102 : decode cX11_coin 102 = .ok (.iinc 4 1, 3) := by decide +kernel
theorem dX11_coin_105 : decode cX11_coin 105 = .ok (.goto (-27), 3) := by decide +kernel
theorem dX11_coin_108 : decode cX11_coin 108 = .ok (.aload_n 0, 1) := by decide +kernel
theorem dX11_coin_109 : decode cX11_coin 109 = .ok (.getfield 37, 3) := by decide +kernel
theorem dX11_coin_112 : decode cX11_coin 112 = .ok (.invokevirtual 307, 3) := by decide +kernel
theorem dX11_coin_115 : decode cX11_coin 115 = .ok (.ifCond .eq 10, 3) := by decide +kernel
theorem dX11_coin_118 : decode cX11_coin 118 = .ok (.aload_n 0, 1) := by decide +kernel
theorem dX11_coin_119 : decode cX11_coin 119 = .ok (.bipush 7, 2) := by decide +kernel
theorem dX11_coin_121 : decode cX11_coin 121 = .ok (.invokevirtual 138, 3) := by decide +kernel
theorem dX11_coin_124 : decode cX11_coin 124 = .ok (.ireturn, 1) := by decide +kernel
theorem dX11_coin_125 : decode cX11_coin 125 = .ok (.aload_n 0, 1) := by decide +kernel
theorem dX11_coin_126 : decode cX11_coin 126 = .ok (.getfield 37, 3) := by decide +kernel
theorem dX11_coin_129 : decode cX11_coin 129 = .ok (.dup, 1) := by decide +kernel
theorem dX11_coin_130 : decode cX11_coin 130 = .ok (.getfield 214, 3) := by decide +kernel
theorem dX11_coin_133 : decode cX11_coin 133 = .ok (.iconst 1, 1) := by decide +kernel
theorem dX11_coin_134 : decode cX11_coin 134 = .ok (.iadd, 1) := by decide +kernel
theorem dX11_coin_135 : decode cX11_coin 135 = .ok (.putfield 214, 3) := by decide +kernel
theorem dX11_coin_138 : decode cX11_coin 138 = .ok (.aload_n 0, 1) := by decide +kernel
theorem dX11_coin_139 : decode cX11_coin 139 = .ok (.aload_n 0, 1) := by decide +kernel
theorem dX11_coin_140 : decode cX11_coin 140 = .ok (.getfield 37, 3) := by decide +kernel
theorem dX11_coin_143 : decode cX11_coin 143 = .ok (.getfield 214, 3) := by decide +kernel
theorem dX11_coin_146 : decode cX11_coin 146 = .ok (.iconst 1, 1) := by decide +kernel
theorem dX11_coin_147 : decode cX11_coin 147 = .ok (.isub, 1) := by decide +kernel
theorem dX11_coin_148 : decode cX11_coin 148 = .ok (.invokevirtual 192, 3) := by decide +kernel
theorem dX11_coin_151 : decode cX11_coin 151 = .ok (.ireturn, 1) := by decide +kernel
set_option maxRecDepth 100000 in
def f_X11_coin_78 : Nat → Nat → Int32 → Int32 → Int32 → dtM → Option (Int32 × dtM)
  | 0, _, _, _, _, _ => none
  | n + 1, l0, l1, l2, l4, μ =>
    if l2 ≤ l4 then ((opGR 11 5 μ l0).bind fun x4 => (opRv 3 μ x4).bind fun _ => opCall (f_X3_isNewWordSaid x4 μ) fun x9 μ7 => if x9 = 0 then ((opGR 11 5 μ7 l0).bind fun x13 => (opGI 3 2 μ7 x13).bind fun x15 => (opPI 3 2 μ7 x13 (x15 + (1 : Int32))).bind fun μ17 => (opGR 11 5 μ17 l0).bind fun x19 => (opGI 3 2 μ17 x19).bind fun x21 => (opRv 11 μ17 l0).bind fun _ => opCall (f_X11_answer l0 (x21 - (1 : Int32)) μ17) fun x26 μ24 => some (x26, μ24)) else ((opRv 11 μ7 l0).bind fun _ => opCall (f_X11_fail l0 (7 : Int32) μ7) fun x30 μ28 => some (x30, μ28))) else ((opGR 11 5 μ l0).bind fun x31 => (opGR 11 3 μ l0).bind fun x33 => (opLR 4 μ x33 l1).bind fun x35 => (opRv 9 μ x35).bind fun _ => opCall (f_X9_smallNumber x35 l4 μ) fun x40 μ38 => (opRv 3 μ38 x31).bind fun _ => (f_X3_addSound x31 x40 μ38).bind fun μ42 => f_X11_coin_78 n l0 l1 l2 (l4 + 1) μ42)
set_option maxRecDepth 100000 in
def f_X11_coin_19 (l0 : Nat) (l1 : Int32) (l2 : Int32) (s0 : Int32) (μ : dtM) : Option (Int32 × dtM) :=
  if s0 = 0 then ((opGR 11 5 μ l0).bind fun x4 => (opGI 3 2 μ x4).bind fun x6 => if x6 < (7 : Int32) then ((opGR 11 3 μ l0).bind fun x11 => (opLR 4 μ x11 l1).bind fun x13 => (opRv 9 μ x13).bind fun _ => opCall (f_X9_allBelow x13 l2 (4 : Int32) μ) fun x18 μ16 => if x18 = 0 then ((opRv 11 μ16 l0).bind fun _ => opCall (f_X11_fail l0 (5 : Int32) μ16) fun x30 μ28 => some (x30, μ28)) else ((opGR 11 5 μ16 l0).bind fun x22 => (opRv 3 μ16 x22).bind fun _ => (f_X3_beginWord x22 μ16).bind fun μ25 => f_X11_coin_78 dtFuel l0 l1 l2 (0 : Int32) μ25)) else ((opRv 11 μ l0).bind fun _ => opCall (f_X11_fail l0 (4 : Int32) μ) fun x34 μ32 => some (x34, μ32))) else ((opRv 11 μ l0).bind fun _ => opCall (f_X11_fail l0 s0 μ) fun x38 μ36 => some (x38, μ36))
set_option maxRecDepth 100000 in
def f_X11_coin (p0 : Nat) (p1 : Int32) (p2 : Int32) (μ : dtM) : Option (Int32 × dtM) :=
  opCall (f_X11_within p2 (1 : Int32) (4 : Int32) μ) fun x3 μ1 => if x3 = 0 then (f_X11_coin_19 p0 p1 p2 (1 : Int32) μ1) else ((opRv 11 μ1 p0).bind fun _ => opCall (f_X11_runStatus p0 p1 p2 μ1) fun x10 μ8 => f_X11_coin_19 p0 p1 p2 x10 μ8)
set_option maxRecDepth 100000 in
theorem c_X11_coin_78 {r : Int32} {F : dtM} : ∀ (n : Nat) (l0 : Nat) (l1 : Int32) (l2 : Int32) (l4 : Int32) (μ : dtM), f_X11_coin_78 n l0 l1 l2 l4 μ = some (r, F) → dtW yX11_coin cX11_coin 5 (some .int) 4 (some (.int r)) F 78 [some (.ref l0), some (.int l1), some (.int l2), none, some (.int l4)] [] μ := by
  intro n
  induction n with
  | zero => intro l0 l1 l2 l4 μ h; cases h
  | succ n ih =>
    intro l0 l1 l2 l4 μ h
    have h := (show f_X11_coin_78 (n + 1) l0 l1 l2 l4 μ = some _ from h)
    rw [f_X11_coin_78] at h
    refine dr_iload l4 dX11_coin_78 rfl ?_
    refine dr_iload_n l2 dX11_coin_80 rfl ?_
    obtain ⟨ht2, hf3⟩ := dtIte h
    refine dr_icmp_ge 108 dX11_coin_81 (by decide) (fun hc1 => ?_) (fun hc1 => ?_)
    · have h := ht2 hc1
      refine dr_aload_n l0 dX11_coin_108 rfl ?_
      obtain ⟨x4, e5, h⟩ := dtBind h
      refine dr_getR x4 dX11_coin_109 fl_RX11_37 e5 ?_
      obtain ⟨_, hb6, h⟩ := dtBind h
      obtain ⟨x9, μ7, e8, h⟩ := dtCall h
      refine dr_callV_i (S0 := []) [] x9 μ7 dX11_coin_112 (c_X3_isNewWordSaid x4 μ e8) mf_X3_isNewWordSaid wt_728 wt_729 wt_969 rfl (dtRv hb6) (by decide) rfl (Nat.le_of_ble_eq_true rfl) (Nat.le_of_ble_eq_true rfl) rfl ?_
      obtain ⟨ht11, hf12⟩ := dtIte h
      refine dr_if_eq 125 dX11_coin_115 (by decide) (fun hc10 => ?_) (fun hc10 => ?_)
      · have h := ht11 hc10
        refine dr_aload_n l0 dX11_coin_125 rfl ?_
        obtain ⟨x13, e14, h⟩ := dtBind h
        refine dr_getR x13 dX11_coin_126 fl_RX11_37 e14 ?_
        refine dr_dup dX11_coin_129 rfl ?_
        obtain ⟨x15, e16, h⟩ := dtBind h
        refine dr_getI x15 dX11_coin_130 fl_RX11_214 e16 ?_
        refine dr_iconst (1 : Int32) dX11_coin_133 (by decide) ?_
        refine dr_iadd dX11_coin_134 ?_
        obtain ⟨μ17, e18, h⟩ := dtBind h
        refine dr_putI μ17 dX11_coin_135 fl_RX11_214 rfl e18 ?_
        refine dr_aload_n l0 dX11_coin_138 rfl ?_
        refine dr_aload_n l0 dX11_coin_139 rfl ?_
        obtain ⟨x19, e20, h⟩ := dtBind h
        refine dr_getR x19 dX11_coin_140 fl_RX11_37 e20 ?_
        obtain ⟨x21, e22, h⟩ := dtBind h
        refine dr_getI x21 dX11_coin_143 fl_RX11_214 e22 ?_
        refine dr_iconst (1 : Int32) dX11_coin_146 (by decide) ?_
        refine dr_isub dX11_coin_147 ?_
        obtain ⟨_, hb23, h⟩ := dtBind h
        obtain ⟨x26, μ24, e25, h⟩ := dtCall h
        refine dr_callV_i (S0 := []) [.int (x21 - (1 : Int32))] x26 μ24 dX11_coin_148 (c_X11_answer l0 (x21 - (1 : Int32)) μ17 e25) mf_X11_answer wt_764 ws_19 wt_762 rfl (dtRv hb23) (by decide) rfl (Nat.le_of_ble_eq_true rfl) (Nat.le_of_ble_eq_true rfl) rfl ?_
        cases h
        exact dr_ireturn dX11_coin_151 rfl
      · have h := hf12 hc10
        refine dr_aload_n l0 dX11_coin_118 rfl ?_
        refine dr_bipush (7 : Int32) dX11_coin_119 (by decide) ?_
        obtain ⟨_, hb27, h⟩ := dtBind h
        obtain ⟨x30, μ28, e29, h⟩ := dtCall h
        refine dr_callV_i (S0 := []) [.int (7 : Int32)] x30 μ28 dX11_coin_121 (c_X11_fail l0 (7 : Int32) μ7 e29) mf_X11_fail wt_510 ws_3 wt_508 rfl (dtRv hb27) (by decide) rfl (Nat.le_of_ble_eq_true rfl) (Nat.le_of_ble_eq_true rfl) rfl ?_
        cases h
        exact dr_ireturn dX11_coin_124 rfl
    · have h := hf3 hc1
      refine dr_aload_n l0 dX11_coin_84 rfl ?_
      obtain ⟨x31, e32, h⟩ := dtBind h
      refine dr_getR x31 dX11_coin_85 fl_RX11_37 e32 ?_
      refine dr_aload_n l0 dX11_coin_88 rfl ?_
      obtain ⟨x33, e34, h⟩ := dtBind h
      refine dr_getR x33 dX11_coin_89 fl_RX11_22 e34 ?_
      refine dr_iload_n l1 dX11_coin_92 rfl ?_
      obtain ⟨x35, e36, h⟩ := dtBind h
      refine dr_aaload4 x35 dX11_coin_93 e36 ?_
      refine dr_iload l4 dX11_coin_94 rfl ?_
      obtain ⟨_, hb37, h⟩ := dtBind h
      obtain ⟨x40, μ38, e39, h⟩ := dtCall h
      refine dr_callV_i (S0 := [.ref x31]) [.int l4] x40 μ38 dX11_coin_96 (c_X9_smallNumber x35 l4 μ e39) mf_X9_smallNumber wt_965 wt_966 wt_964 rfl (dtRv hb37) (by decide) rfl (Nat.le_of_ble_eq_true rfl) (Nat.le_of_ble_eq_true rfl) rfl ?_
      obtain ⟨_, hb41, h⟩ := dtBind h
      obtain ⟨μ42, e43, h⟩ := dtBind h
      refine dr_callV_v (S0 := []) [.int x40] μ42 dX11_coin_99 (c_X3_addSound x31 x40 μ38 e43) mf_X3_addSound wt_723 wt_724 wt_968 rfl (dtRv hb41) (by decide) rfl (Nat.le_of_ble_eq_true rfl) (Nat.le_of_ble_eq_true rfl) rfl ?_
      refine dr_iinc l4 (l4 + 1) [some (.ref l0), some (.int l1), some (.int l2), none, some (.int (l4 + 1))] dX11_coin_102 rfl rfl rfl rfl rfl ?_
      refine dr_goto 78 dX11_coin_105 (by decide) ?_
      exact ih l0 l1 l2 (l4 + 1) μ42 h
set_option maxRecDepth 100000 in
theorem c_X11_coin_19 {r : Int32} {F : dtM} (l0 : Nat) (l1 : Int32) (l2 : Int32) (s0 : Int32) (μ : dtM) (h : f_X11_coin_19 l0 l1 l2 s0 μ = some (r, F)) : dtW yX11_coin cX11_coin 5 (some .int) 4 (some (.int r)) F 19 [some (.ref l0), some (.int l1), some (.int l2)] [.int s0] μ := by
  rw [f_X11_coin_19] at h
  refine dr_istore_n 3 [some (.ref l0), some (.int l1), some (.int l2), some (.int s0)] dX11_coin_19 rfl rfl rfl rfl ?_
  refine dr_iload_n s0 dX11_coin_20 rfl ?_
  obtain ⟨ht2, hf3⟩ := dtIte h
  refine dr_if_eq 30 dX11_coin_21 (by decide) (fun hc1 => ?_) (fun hc1 => ?_)
  · have h := ht2 hc1
    refine dr_aload_n l0 dX11_coin_30 rfl ?_
    obtain ⟨x4, e5, h⟩ := dtBind h
    refine dr_getR x4 dX11_coin_31 fl_RX11_37 e5 ?_
    obtain ⟨x6, e7, h⟩ := dtBind h
    refine dr_getI x6 dX11_coin_34 fl_RX11_214 e7 ?_
    refine dr_bipush (7 : Int32) dX11_coin_37 (by decide) ?_
    obtain ⟨ht9, hf10⟩ := dtIte h
    refine dr_icmp_lt 48 dX11_coin_39 (by decide) (fun hc8 => ?_) (fun hc8 => ?_)
    · have h := ht9 hc8
      refine dr_aload_n l0 dX11_coin_48 rfl ?_
      obtain ⟨x11, e12, h⟩ := dtBind h
      refine dr_getR x11 dX11_coin_49 fl_RX11_22 e12 ?_
      refine dr_iload_n l1 dX11_coin_52 rfl ?_
      obtain ⟨x13, e14, h⟩ := dtBind h
      refine dr_aaload4 x13 dX11_coin_53 e14 ?_
      refine dr_iload_n l2 dX11_coin_54 rfl ?_
      refine dr_iconst (4 : Int32) dX11_coin_55 (by decide) ?_
      obtain ⟨_, hb15, h⟩ := dtBind h
      obtain ⟨x18, μ16, e17, h⟩ := dtCall h
      refine dr_callV_i (S0 := []) [.int l2, .int (4 : Int32)] x18 μ16 dX11_coin_56 (c_X9_allBelow x13 l2 (4 : Int32) μ e17) mf_X9_allBelow wt_960 wt_961 wt_959 rfl (dtRv hb15) (by decide) rfl (Nat.le_of_ble_eq_true rfl) (Nat.le_of_ble_eq_true rfl) rfl ?_
      obtain ⟨ht20, hf21⟩ := dtIte h
      refine dr_if_ne 68 dX11_coin_59 (by decide) (fun hc19 => ?_) (fun hc19 => ?_)
      · have h := hf21 hc19
        refine dr_aload_n l0 dX11_coin_68 rfl ?_
        obtain ⟨x22, e23, h⟩ := dtBind h
        refine dr_getR x22 dX11_coin_69 fl_RX11_37 e23 ?_
        obtain ⟨_, hb24, h⟩ := dtBind h
        obtain ⟨μ25, e26, h⟩ := dtBind h
        refine dr_callV_v (S0 := []) [] μ25 dX11_coin_72 (c_X3_beginWord x22 μ16 e26) mf_X3_beginWord wt_710 wt_711 wt_963 rfl (dtRv hb24) (by decide) rfl (Nat.le_of_ble_eq_true rfl) (Nat.le_of_ble_eq_true rfl) rfl ?_
        refine dr_iconst (0 : Int32) dX11_coin_75 (by decide) ?_
        refine dr_istore [some (.ref l0), some (.int l1), some (.int l2), some (.int s0), some (.int (0 : Int32))] dX11_coin_76 rfl rfl rfl ?_
        refine dr_mask [true, true, true, false, true] [some (.ref l0), some (.int l1), some (.int l2), none, some (.int (0 : Int32))] rfl ?_
        exact c_X11_coin_78 dtFuel l0 l1 l2 (0 : Int32) μ25 h
      · have h := ht20 hc19
        refine dr_aload_n l0 dX11_coin_62 rfl ?_
        refine dr_iconst (5 : Int32) dX11_coin_63 (by decide) ?_
        obtain ⟨_, hb27, h⟩ := dtBind h
        obtain ⟨x30, μ28, e29, h⟩ := dtCall h
        refine dr_callV_i (S0 := []) [.int (5 : Int32)] x30 μ28 dX11_coin_64 (c_X11_fail l0 (5 : Int32) μ16 e29) mf_X11_fail wt_510 ws_3 wt_508 rfl (dtRv hb27) (by decide) rfl (Nat.le_of_ble_eq_true rfl) (Nat.le_of_ble_eq_true rfl) rfl ?_
        cases h
        exact dr_ireturn dX11_coin_67 rfl
    · have h := hf10 hc8
      refine dr_aload_n l0 dX11_coin_42 rfl ?_
      refine dr_iconst (4 : Int32) dX11_coin_43 (by decide) ?_
      obtain ⟨_, hb31, h⟩ := dtBind h
      obtain ⟨x34, μ32, e33, h⟩ := dtCall h
      refine dr_callV_i (S0 := []) [.int (4 : Int32)] x34 μ32 dX11_coin_44 (c_X11_fail l0 (4 : Int32) μ e33) mf_X11_fail wt_510 ws_3 wt_508 rfl (dtRv hb31) (by decide) rfl (Nat.le_of_ble_eq_true rfl) (Nat.le_of_ble_eq_true rfl) rfl ?_
      cases h
      exact dr_ireturn dX11_coin_47 rfl
  · have h := hf3 hc1
    refine dr_aload_n l0 dX11_coin_24 rfl ?_
    refine dr_iload_n s0 dX11_coin_25 rfl ?_
    obtain ⟨_, hb35, h⟩ := dtBind h
    obtain ⟨x38, μ36, e37, h⟩ := dtCall h
    refine dr_callV_i (S0 := []) [.int s0] x38 μ36 dX11_coin_26 (c_X11_fail l0 s0 μ e37) mf_X11_fail wt_510 ws_3 wt_508 rfl (dtRv hb35) (by decide) rfl (Nat.le_of_ble_eq_true rfl) (Nat.le_of_ble_eq_true rfl) rfl ?_
    cases h
    exact dr_ireturn dX11_coin_29 rfl
set_option maxRecDepth 100000 in
theorem c_X11_coin {r : Int32} {F : dtM} (p0 : Nat) (p1 : Int32) (p2 : Int32) (μ : dtM) (h : f_X11_coin p0 p1 p2 μ = some (r, F)) : dtMet yX11_coin cX11_coin 5 (some .int) 4 [.ref p0, .int p1, .int p2] μ (some (.int r)) F := by
  refine dtMet.of (by decide +kernel) (Nat.le_of_ble_eq_true rfl) (show dtW yX11_coin cX11_coin 5 (some .int) 4 (some (.int r)) F 0 [some (.ref p0), some (.int p1), some (.int p2)] [] μ from ?_)
  rw [f_X11_coin] at h
  refine dr_iload_n p2 dX11_coin_0 rfl ?_
  refine dr_iconst (1 : Int32) dX11_coin_1 (by decide) ?_
  refine dr_iconst (4 : Int32) dX11_coin_2 (by decide) ?_
  obtain ⟨x3, μ1, e2, h⟩ := dtCall h
  refine dr_callS_i (S0 := []) [.int p2, .int (1 : Int32), .int (4 : Int32)] x3 μ1 dX11_coin_3 (c_X11_within p2 (1 : Int32) (4 : Int32) μ e2) mf_X11_within wt_478 wt_477 rfl (Nat.le_of_ble_eq_true rfl) (Nat.le_of_ble_eq_true rfl) rfl ?_
  obtain ⟨ht5, hf6⟩ := dtIte h
  refine dr_if_eq 18 dX11_coin_6 (by decide) (fun hc4 => ?_) (fun hc4 => ?_)
  · have h := ht5 hc4
    refine dr_iconst (1 : Int32) dX11_coin_18 (by decide) ?_
    exact c_X11_coin_19 p0 p1 p2 (1 : Int32) μ1 h
  · have h := hf6 hc4
    refine dr_aload_n p0 dX11_coin_9 rfl ?_
    refine dr_iload_n p1 dX11_coin_10 rfl ?_
    refine dr_iload_n p2 dX11_coin_11 rfl ?_
    obtain ⟨_, hb7, h⟩ := dtBind h
    obtain ⟨x10, μ8, e9, h⟩ := dtCall h
    refine dr_callV_i (S0 := []) [.int p1, .int p2] x10 μ8 dX11_coin_12 (c_X11_runStatus p0 p1 p2 μ1 e9) mf_X11_runStatus wt_957 ws_31 wt_955 rfl (dtRv hb7) (by decide) rfl (Nat.le_of_ble_eq_true rfl) (Nat.le_of_ble_eq_true rfl) rfl ?_
    refine dr_goto 19 dX11_coin_15 (by decide) ?_
    exact c_X11_coin_19 p0 p1 p2 x10 μ8 h
/-! X11_come -/
theorem dX11_come_0 : decode cX11_come 0 = .ok (.aload_n 0, 1) := by decide +kernel
theorem dX11_come_1 : decode cX11_come 1 = .ok (.getfield 37, 3) := by decide +kernel
theorem dX11_come_4 : decode cX11_come 4 = .ok (.iload_n 1, 1) := by decide +kernel
theorem dX11_come_5 : decode cX11_come 5 = .ok (.invokevirtual 310, 3) := by decide +kernel
theorem dX11_come_8 : decode cX11_come 8 = .ok (.ifCond .ne 9, 3) := by decide +kernel
theorem dX11_come_11 : decode cX11_come 11 = .ok (.aload_n 0, 1) := by decide +kernel
theorem dX11_come_12 : decode cX11_come 12 = .ok (.iconst 1, 1) := by decide +kernel
theorem dX11_come_13 : decode cX11_come 13 = .ok (.invokevirtual 138, 3) := by decide +kernel
theorem dX11_come_16 : decode cX11_come 16 = .ok (.ireturn, 1) := by decide +kernel
theorem dX11_come_17 : decode cX11_come 17 = .ok (.aload_n 0, 1) := by decide +kernel
theorem dX11_come_18 : decode cX11_come 18 = .ok (.getfield 37, 3) := by decide +kernel
theorem dX11_come_21 : decode cX11_come 21 = .ok (.getfield 189, 3) := by decide +kernel
theorem dX11_come_24 : decode cX11_come 24 = .ok (.iconst 5, 1) := by decide +kernel
theorem dX11_come_25 : decode cX11_come 25 = .ok (.if_icmp .lt 9, 3) := by decide +kernel
theorem dX11_come_28 : decode cX11_come 28 = .ok (.aload_n 0, 1) := by decide +kernel
theorem dX11_come_29 : decode cX11_come 29 = .ok (.iconst 4, 1) := by decide +kernel
theorem dX11_come_30 : decode cX11_come 30 = .ok (.invokevirtual 138, 3) := by decide +kernel
theorem dX11_come_33 : decode cX11_come 33 = .ok (.ireturn, 1) := by decide +kernel
theorem dX11_come_34 : decode cX11_come 34 = .ok (.aload_n 0, 1) := by decide +kernel
theorem dX11_come_35 : decode cX11_come 35 = .ok (.getfield 37, 3) := by decide +kernel
theorem dX11_come_38 : decode cX11_come 38 = .ok (.lconst 0, 1) := by decide +kernel
theorem dX11_come_39 : decode cX11_come 39 = .ok (.iload_n 1, 1) := by decide +kernel
theorem dX11_come_40 : decode cX11_come 40 = .ok (.invokevirtual 313, 3) := by decide +kernel
theorem dX11_come_43 : decode cX11_come 43 = .ok (.aload_n 0, 1) := by decide +kernel
theorem dX11_come_44 : decode cX11_come 44 = .ok (.aload_n 0, 1) := by decide +kernel
theorem dX11_come_45 : decode cX11_come 45 = .ok (.getfield 37, 3) := by decide +kernel
theorem dX11_come_48 : decode cX11_come 48 = .ok (.getfield 189, 3) := by decide +kernel
theorem dX11_come_51 : decode cX11_come 51 = .ok (.iconst 1, 1) := by decide +kernel
theorem dX11_come_52 : decode cX11_come 52 = .ok (.isub, 1) := by decide +kernel
theorem dX11_come_53 : decode cX11_come 53 = .ok (.invokevirtual 192, 3) := by decide +kernel
theorem dX11_come_56 : decode cX11_come 56 = .ok (.ireturn, 1) := by decide +kernel
set_option maxRecDepth 100000 in
def f_X11_come (p0 : Nat) (p1 : Int32) (μ : dtM) : Option (Int32 × dtM) :=
  (opGR 11 5 μ p0).bind fun x1 => (opRv 3 μ x1).bind fun _ => opCall (f_X3_hasRoom x1 p1 μ) fun x6 μ4 => if x6 = 0 then ((opRv 11 μ4 p0).bind fun _ => opCall (f_X11_fail p0 (1 : Int32) μ4) fun x37 μ35 => some (x37, μ35)) else ((opGR 11 5 μ4 p0).bind fun x10 => (opGI 3 3 μ4 x10).bind fun x12 => if x12 < (5 : Int32) then ((opGR 11 5 μ4 p0).bind fun x17 => (opRv 3 μ4 x17).bind fun _ => (f_X3_addPerson x17 (0 : Int64) p1 μ4).bind fun μ20 => (opGR 11 5 μ20 p0).bind fun x22 => (opGI 3 3 μ20 x22).bind fun x24 => (opRv 11 μ20 p0).bind fun _ => opCall (f_X11_answer p0 (x24 - (1 : Int32)) μ20) fun x29 μ27 => some (x29, μ27)) else ((opRv 11 μ4 p0).bind fun _ => opCall (f_X11_fail p0 (4 : Int32) μ4) fun x33 μ31 => some (x33, μ31)))
set_option maxRecDepth 100000 in
theorem c_X11_come {r : Int32} {F : dtM} (p0 : Nat) (p1 : Int32) (μ : dtM) (h : f_X11_come p0 p1 μ = some (r, F)) : dtMet yX11_come cX11_come 2 (some .int) 2 [.ref p0, .int p1] μ (some (.int r)) F := by
  refine dtMet.of (by decide +kernel) (Nat.le_of_ble_eq_true rfl) (show dtW yX11_come cX11_come 2 (some .int) 2 (some (.int r)) F 0 [some (.ref p0), some (.int p1)] [] μ from ?_)
  rw [f_X11_come] at h
  refine dr_aload_n p0 dX11_come_0 rfl ?_
  obtain ⟨x1, e2, h⟩ := dtBind h
  refine dr_getR x1 dX11_come_1 fl_RX11_37 e2 ?_
  refine dr_iload_n p1 dX11_come_4 rfl ?_
  obtain ⟨_, hb3, h⟩ := dtBind h
  obtain ⟨x6, μ4, e5, h⟩ := dtCall h
  refine dr_callV_i (S0 := []) [.int p1] x6 μ4 dX11_come_5 (c_X3_hasRoom x1 p1 μ e5) mf_X3_hasRoom wt_975 wt_976 wt_974 rfl (dtRv hb3) (by decide) rfl (Nat.le_of_ble_eq_true rfl) (Nat.le_of_ble_eq_true rfl) rfl ?_
  obtain ⟨ht8, hf9⟩ := dtIte h
  refine dr_if_ne 17 dX11_come_8 (by decide) (fun hc7 => ?_) (fun hc7 => ?_)
  · have h := hf9 hc7
    refine dr_aload_n p0 dX11_come_17 rfl ?_
    obtain ⟨x10, e11, h⟩ := dtBind h
    refine dr_getR x10 dX11_come_18 fl_RX11_37 e11 ?_
    obtain ⟨x12, e13, h⟩ := dtBind h
    refine dr_getI x12 dX11_come_21 fl_RX11_189 e13 ?_
    refine dr_iconst (5 : Int32) dX11_come_24 (by decide) ?_
    obtain ⟨ht15, hf16⟩ := dtIte h
    refine dr_icmp_lt 34 dX11_come_25 (by decide) (fun hc14 => ?_) (fun hc14 => ?_)
    · have h := ht15 hc14
      refine dr_aload_n p0 dX11_come_34 rfl ?_
      obtain ⟨x17, e18, h⟩ := dtBind h
      refine dr_getR x17 dX11_come_35 fl_RX11_37 e18 ?_
      refine dr_lconst (0 : Int64) dX11_come_38 (by decide) ?_
      refine dr_iload_n p1 dX11_come_39 rfl ?_
      obtain ⟨_, hb19, h⟩ := dtBind h
      obtain ⟨μ20, e21, h⟩ := dtBind h
      refine dr_callV_v (S0 := []) [.long (0 : Int64), .int p1] μ20 dX11_come_40 (c_X3_addPerson x17 (0 : Int64) p1 μ4 e21) mf_X3_addPerson wt_751 wt_752 wt_978 rfl (dtRv hb19) (by decide) rfl (Nat.le_of_ble_eq_true rfl) (Nat.le_of_ble_eq_true rfl) rfl ?_
      refine dr_aload_n p0 dX11_come_43 rfl ?_
      refine dr_aload_n p0 dX11_come_44 rfl ?_
      obtain ⟨x22, e23, h⟩ := dtBind h
      refine dr_getR x22 dX11_come_45 fl_RX11_37 e23 ?_
      obtain ⟨x24, e25, h⟩ := dtBind h
      refine dr_getI x24 dX11_come_48 fl_RX11_189 e25 ?_
      refine dr_iconst (1 : Int32) dX11_come_51 (by decide) ?_
      refine dr_isub dX11_come_52 ?_
      obtain ⟨_, hb26, h⟩ := dtBind h
      obtain ⟨x29, μ27, e28, h⟩ := dtCall h
      refine dr_callV_i (S0 := []) [.int (x24 - (1 : Int32))] x29 μ27 dX11_come_53 (c_X11_answer p0 (x24 - (1 : Int32)) μ20 e28) mf_X11_answer wt_764 ws_19 wt_762 rfl (dtRv hb26) (by decide) rfl (Nat.le_of_ble_eq_true rfl) (Nat.le_of_ble_eq_true rfl) rfl ?_
      cases h
      exact dr_ireturn dX11_come_56 rfl
    · have h := hf16 hc14
      refine dr_aload_n p0 dX11_come_28 rfl ?_
      refine dr_iconst (4 : Int32) dX11_come_29 (by decide) ?_
      obtain ⟨_, hb30, h⟩ := dtBind h
      obtain ⟨x33, μ31, e32, h⟩ := dtCall h
      refine dr_callV_i (S0 := []) [.int (4 : Int32)] x33 μ31 dX11_come_30 (c_X11_fail p0 (4 : Int32) μ4 e32) mf_X11_fail wt_510 ws_3 wt_508 rfl (dtRv hb30) (by decide) rfl (Nat.le_of_ble_eq_true rfl) (Nat.le_of_ble_eq_true rfl) rfl ?_
      cases h
      exact dr_ireturn dX11_come_33 rfl
  · have h := ht8 hc7
    refine dr_aload_n p0 dX11_come_11 rfl ?_
    refine dr_iconst (1 : Int32) dX11_come_12 (by decide) ?_
    obtain ⟨_, hb34, h⟩ := dtBind h
    obtain ⟨x37, μ35, e36, h⟩ := dtCall h
    refine dr_callV_i (S0 := []) [.int (1 : Int32)] x37 μ35 dX11_come_13 (c_X11_fail p0 (1 : Int32) μ4 e36) mf_X11_fail wt_510 ws_3 wt_508 rfl (dtRv hb34) (by decide) rfl (Nat.le_of_ble_eq_true rfl) (Nat.le_of_ble_eq_true rfl) rfl ?_
    cases h
    exact dr_ireturn dX11_come_16 rfl
/-! X11_line -/
theorem dX11_line_0 : decode cX11_line 0 = .ok (.aload_n 0, 1) := by decide +kernel
theorem dX11_line_1 : decode cX11_line 1 = .ok (.getfield 37, 3) := by decide +kernel
theorem dX11_line_4 : decode cX11_line 4 = .ok (.iload_n 1, 1) := by decide +kernel
theorem dX11_line_5 : decode cX11_line 5 = .ok (.invokevirtual 226, 3) := by decide +kernel
theorem dX11_line_8 : decode cX11_line 8 = .ok (.ifCond .eq 13, 3) := by decide +kernel
theorem dX11_line_11 : decode cX11_line 11 = .ok (.iload_n 2, 1) := by decide +kernel
theorem dX11_line_12 : decode cX11_line 12 = .ok (.iconst 0, 1) := by decide +kernel
theorem dX11_line_13 : decode cX11_line 13 = .ok (.bipush 9, 2) := by decide +kernel
theorem dX11_line_15 : decode cX11_line 15 = .ok (.invokestatic 115, 3) := by decide +kernel
theorem dX11_line_18 : decode cX11_line 18 = .ok (.ifCond .ne 9, 3) := by decide +kernel
theorem dX11_line_21 : decode cX11_line 21 = .ok (.aload_n 0, 1) := by decide +kernel
theorem dX11_line_22 : decode cX11_line 22 = .ok (.iconst 1, 1) := by decide +kernel
theorem dX11_line_23 : decode cX11_line 23 = .ok (.invokevirtual 138, 3) := by decide +kernel
theorem dX11_line_26 : decode cX11_line 26 = .ok (.ireturn, 1) := by decide +kernel
theorem dX11_line_27 : decode cX11_line 27 = .ok (.aload_n 0, 1) := by decide +kernel
theorem dX11_line_28 : decode cX11_line 28 = .ok (.getfield 37, 3) := by decide +kernel
theorem dX11_line_31 : decode cX11_line 31 = .ok (.getfield 235, 3) := by decide +kernel
theorem dX11_line_34 : decode cX11_line 34 = .ok (.iload_n 1, 1) := by decide +kernel
theorem dX11_line_35 : decode cX11_line 35 = .ok (.iaload, 1) := by decide +kernel
theorem dX11_line_36 : decode cX11_line 36 = .ok (.istore_n 3, 1) := by decide +kernel
theorem dX11_line_37 : decode cX11_line 37 = .ok (.aload_n 0, 1) := by decide +kernel
theorem dX11_line_38 : decode cX11_line 38 = .ok (.getfield 37, 3) := by decide +kernel
theorem dX11_line_41 : decode cX11_line 41 = .ok (.getfield 235, 3) := by decide +kernel
theorem dX11_line_44 : decode cX11_line 44 = .ok (.iload_n 1, 1) := by decide +kernel
theorem dX11_line_45 : decode cX11_line 45 = .ok (.iload_n 2, 1) := by decide +kernel
theorem dX11_line_46 : decode cX11_line 46 = .ok (.iastore, 1) := by decide +kernel
theorem dX11_line_47 : decode cX11_line 47 = .ok (.aload_n 0, 1) := by decide +kernel
theorem dX11_line_48 : decode cX11_line 48 = .ok (.iload_n 3, 1) := by decide +kernel
theorem dX11_line_49 : decode cX11_line 49 = .ok (.invokevirtual 192, 3) := by decide +kernel
theorem dX11_line_52 : decode cX11_line 52 = .ok (.ireturn, 1) := by decide +kernel
set_option maxRecDepth 100000 in
def f_X11_line_21 (l0 : Nat) (μ : dtM) : Option (Int32 × dtM) :=
  (opRv 11 μ l0).bind fun _ => opCall (f_X11_fail l0 (1 : Int32) μ) fun x4 μ2 => some (x4, μ2)
set_option maxRecDepth 100000 in
def f_X11_line (p0 : Nat) (p1 : Int32) (p2 : Int32) (μ : dtM) : Option (Int32 × dtM) :=
  (opGR 11 5 μ p0).bind fun x1 => (opRv 3 μ x1).bind fun _ => opCall (f_X3_hasDoor x1 p1 μ) fun x6 μ4 => if x6 = 0 then (f_X11_line_21 p0 μ4) else (opCall (f_X11_within p2 (0 : Int32) (9 : Int32) μ4) fun x12 μ10 => if x12 = 0 then (f_X11_line_21 p0 μ10) else ((opGR 11 5 μ10 p0).bind fun x16 => (opGR 3 11 μ10 x16).bind fun x18 => (opLI 1 μ10 x18 p1).bind fun x20 => (opGR 11 5 μ10 p0).bind fun x22 => (opGR 3 11 μ10 x22).bind fun x24 => (opSI μ10 x24 p1 p2).bind fun μ26 => (opRv 11 μ26 p0).bind fun _ => opCall (f_X11_answer p0 x20 μ26) fun x31 μ29 => some (x31, μ29)))
set_option maxRecDepth 100000 in
theorem c_X11_line_21 {r : Int32} {F : dtM} (l0 : Nat) (μ : dtM) (h : f_X11_line_21 l0 μ = some (r, F)) : dtW yX11_line cX11_line 4 (some .int) 2 (some (.int r)) F 21 [some (.ref l0)] [] μ := by
  rw [f_X11_line_21] at h
  refine dr_aload_n l0 dX11_line_21 rfl ?_
  refine dr_iconst (1 : Int32) dX11_line_22 (by decide) ?_
  obtain ⟨_, hb1, h⟩ := dtBind h
  obtain ⟨x4, μ2, e3, h⟩ := dtCall h
  refine dr_callV_i (S0 := []) [.int (1 : Int32)] x4 μ2 dX11_line_23 (c_X11_fail l0 (1 : Int32) μ e3) mf_X11_fail wt_510 ws_3 wt_508 rfl (dtRv hb1) (by decide) rfl (Nat.le_of_ble_eq_true rfl) (Nat.le_of_ble_eq_true rfl) rfl ?_
  cases h
  exact dr_ireturn dX11_line_26 rfl
set_option maxRecDepth 100000 in
theorem c_X11_line {r : Int32} {F : dtM} (p0 : Nat) (p1 : Int32) (p2 : Int32) (μ : dtM) (h : f_X11_line p0 p1 p2 μ = some (r, F)) : dtMet yX11_line cX11_line 4 (some .int) 2 [.ref p0, .int p1, .int p2] μ (some (.int r)) F := by
  refine dtMet.of (by decide +kernel) (Nat.le_of_ble_eq_true rfl) (show dtW yX11_line cX11_line 4 (some .int) 2 (some (.int r)) F 0 [some (.ref p0), some (.int p1), some (.int p2)] [] μ from ?_)
  rw [f_X11_line] at h
  refine dr_aload_n p0 dX11_line_0 rfl ?_
  obtain ⟨x1, e2, h⟩ := dtBind h
  refine dr_getR x1 dX11_line_1 fl_RX11_37 e2 ?_
  refine dr_iload_n p1 dX11_line_4 rfl ?_
  obtain ⟨_, hb3, h⟩ := dtBind h
  obtain ⟨x6, μ4, e5, h⟩ := dtCall h
  refine dr_callV_i (S0 := []) [.int p1] x6 μ4 dX11_line_5 (c_X3_hasDoor x1 p1 μ e5) mf_X3_hasDoor wt_841 wt_842 wt_840 rfl (dtRv hb3) (by decide) rfl (Nat.le_of_ble_eq_true rfl) (Nat.le_of_ble_eq_true rfl) rfl ?_
  obtain ⟨ht8, hf9⟩ := dtIte h
  refine dr_if_eq 21 dX11_line_8 (by decide) (fun hc7 => ?_) (fun hc7 => ?_)
  · have h := ht8 hc7
    refine dr_mask [true] [some (.ref p0)] rfl ?_
    exact c_X11_line_21 p0 μ4 h
  · have h := hf9 hc7
    refine dr_iload_n p2 dX11_line_11 rfl ?_
    refine dr_iconst (0 : Int32) dX11_line_12 (by decide) ?_
    refine dr_bipush (9 : Int32) dX11_line_13 (by decide) ?_
    obtain ⟨x12, μ10, e11, h⟩ := dtCall h
    refine dr_callS_i (S0 := []) [.int p2, .int (0 : Int32), .int (9 : Int32)] x12 μ10 dX11_line_15 (c_X11_within p2 (0 : Int32) (9 : Int32) μ4 e11) mf_X11_within wt_478 wt_477 rfl (Nat.le_of_ble_eq_true rfl) (Nat.le_of_ble_eq_true rfl) rfl ?_
    obtain ⟨ht14, hf15⟩ := dtIte h
    refine dr_if_ne 27 dX11_line_18 (by decide) (fun hc13 => ?_) (fun hc13 => ?_)
    · have h := hf15 hc13
      refine dr_aload_n p0 dX11_line_27 rfl ?_
      obtain ⟨x16, e17, h⟩ := dtBind h
      refine dr_getR x16 dX11_line_28 fl_RX11_37 e17 ?_
      obtain ⟨x18, e19, h⟩ := dtBind h
      refine dr_getR x18 dX11_line_31 fl_RX11_235 e19 ?_
      refine dr_iload_n p1 dX11_line_34 rfl ?_
      obtain ⟨x20, e21, h⟩ := dtBind h
      refine dr_iaload x20 dX11_line_35 e21 ?_
      refine dr_istore_n 3 [some (.ref p0), some (.int p1), some (.int p2), some (.int x20)] dX11_line_36 rfl rfl rfl rfl ?_
      refine dr_aload_n p0 dX11_line_37 rfl ?_
      obtain ⟨x22, e23, h⟩ := dtBind h
      refine dr_getR x22 dX11_line_38 fl_RX11_37 e23 ?_
      obtain ⟨x24, e25, h⟩ := dtBind h
      refine dr_getR x24 dX11_line_41 fl_RX11_235 e25 ?_
      refine dr_iload_n p1 dX11_line_44 rfl ?_
      refine dr_iload_n p2 dX11_line_45 rfl ?_
      obtain ⟨μ26, e27, h⟩ := dtBind h
      refine dr_iastore μ26 dX11_line_46 e27 ?_
      refine dr_aload_n p0 dX11_line_47 rfl ?_
      refine dr_iload_n x20 dX11_line_48 rfl ?_
      obtain ⟨_, hb28, h⟩ := dtBind h
      obtain ⟨x31, μ29, e30, h⟩ := dtCall h
      refine dr_callV_i (S0 := []) [.int x20] x31 μ29 dX11_line_49 (c_X11_answer p0 x20 μ26 e30) mf_X11_answer wt_764 ws_19 wt_762 rfl (dtRv hb28) (by decide) rfl (Nat.le_of_ble_eq_true rfl) (Nat.le_of_ble_eq_true rfl) rfl ?_
      cases h
      exact dr_ireturn dX11_line_52 rfl
    · have h := ht14 hc13
      refine dr_mask [true] [some (.ref p0)] rfl ?_
      exact c_X11_line_21 p0 μ10 h
