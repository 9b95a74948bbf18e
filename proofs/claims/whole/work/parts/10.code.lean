/-! X0_init -/
theorem dX0_init_0 : decode cX0_init 0 = .ok (.aload_n 0, 1) := by decide +kernel
theorem dX0_init_1 : decode cX0_init 1 = .ok (.invokespecial 3, 3) := by decide +kernel
theorem dX0_init_4 : decode cX0_init 4 = .ok (.aload_n 0, 1) := by decide +kernel
theorem dX0_init_5 : decode cX0_init 5 = .ok (.bipush 60, 2) := by decide +kernel
theorem dX0_init_7 : decode cX0_init 7 = .ok (.newarray .int, 2) := by decide +kernel
theorem dX0_init_9 : decode cX0_init 9 = .ok (.putfield 9, 3) := by decide +kernel
theorem dX0_init_12 : decode cX0_init 12 = .ok (.aload_n 0, 1) := by decide +kernel
theorem dX0_init_13 : decode cX0_init 13 = .ok (.bipush 60, 2) := by decide +kernel
theorem dX0_init_15 : decode cX0_init 15 = .ok (.newarray .int, 2) := by decide +kernel
theorem dX0_init_17 : decode cX0_init 17 = .ok (.putfield 15, 3) := by decide +kernel
theorem dX0_init_20 : decode cX0_init 20 = .ok (.aload_n 0, 1) := by decide +kernel
theorem dX0_init_21 : decode cX0_init 21 = .ok (.bipush 60, 2) := by decide +kernel
theorem dX0_init_23 : decode cX0_init 23 = .ok (.newarray .int, 2) := by decide +kernel
theorem dX0_init_25 : decode cX0_init 25 = .ok (.putfield 18, 3) := by decide +kernel
theorem dX0_init_28 : decode cX0_init 28 = .ok (.aload_n 0, 1) := by decide +kernel
theorem dX0_init_29 : decode cX0_init 29 = .ok (.bipush 60, 2) := by decide +kernel
theorem dX0_init_31 : decode cX0_init 31 = .ok (.newarray .int, 2) := by decide +kernel
theorem dX0_init_33 : decode cX0_init 33 = .ok (.putfield 21, 3) := by decide +kernel
theorem dX0_init_36 : decode cX0_init 36 = .ok (.aload_n 0, 1) := by decide +kernel
theorem dX0_init_37 : decode cX0_init 37 = .ok (.bipush 60, 2) := by decide +kernel
theorem dX0_init_39 : decode cX0_init 39 = .ok (.newarray .int, 2) := by decide +kernel
theorem dX0_init_41 : decode cX0_init 41 = .ok (.putfield 24, 3) := by decide +kernel
theorem dX0_init_44 : decode cX0_init 44 = .ok (.aload_n 0, 1) := by decide +kernel
theorem dX0_init_45 : decode cX0_init 45 = .ok (.bipush 60, 2) := by decide +kernel
theorem dX0_init_47 : decode cX0_init 47 = .ok (.newarray .int, 2) := by decide +kernel
theorem dX0_init_49 : decode cX0_init 49 = .ok (.putfield 27, 3) := by decide +kernel
theorem dX0_init_52 : decode cX0_init 52 = .ok (.return_, 1) := by decide +kernel
set_option maxRecDepth 100000 in
def f_X0_init (p0 : Nat) (μ : dtM) : Option dtM :=
  (opLt p0).bind fun _ => opCall (opNA 1 μ (60 : Int32)) fun q2 μ3 => (opPR 0 3 μ3 p0 q2).bind fun μ5 => opCall (opNA 1 μ5 (60 : Int32)) fun q7 μ8 => (opPR 0 4 μ8 p0 q7).bind fun μ10 => opCall (opNA 1 μ10 (60 : Int32)) fun q12 μ13 => (opPR 0 5 μ13 p0 q12).bind fun μ15 => opCall (opNA 1 μ15 (60 : Int32)) fun q17 μ18 => (opPR 0 6 μ18 p0 q17).bind fun μ20 => opCall (opNA 1 μ20 (60 : Int32)) fun q22 μ23 => (opPR 0 7 μ23 p0 q22).bind fun μ25 => opCall (opNA 1 μ25 (60 : Int32)) fun q27 μ28 => (opPR 0 8 μ28 p0 q27).bind fun μ30 => some μ30
set_option maxRecDepth 100000 in
theorem c_X0_init {F : dtM} (p0 : Nat) (μ : dtM) (h : f_X0_init p0 μ = some F) : dtMet yX0_init cX0_init 1 (none) 1 [.ref p0] μ (none) F := by
  refine dtMet.of (by decide +kernel) (Nat.le_of_ble_eq_true rfl) (show dtW yX0_init cX0_init 1 (none) 1 (none) F 0 [some (.ref p0)] [] μ from ?_)
  rw [f_X0_init] at h
  refine dr_aload_n p0 dX0_init_0 rfl ?_
  obtain ⟨_, hb1, h⟩ := dtBind h
  refine dr_objInit dX0_init_1 wt_198 wt_27 wt_28 (dtLt hb1) (Nat.le_of_ble_eq_true rfl) rfl ?_
  refine dr_aload_n p0 dX0_init_4 rfl ?_
  refine dr_bipush (60 : Int32) dX0_init_5 (by decide) ?_
  obtain ⟨q2, μ3, e4, h⟩ := dtCall h
  refine dr_newarray_i q2 μ3 dX0_init_7 wt_192 e4 ?_
  obtain ⟨μ5, e6, h⟩ := dtBind h
  refine dr_putRF μ5 dX0_init_9 fl_RX0_9 rfl rfl rfl e6 ?_
  refine dr_aload_n p0 dX0_init_12 rfl ?_
  refine dr_bipush (60 : Int32) dX0_init_13 (by decide) ?_
  obtain ⟨q7, μ8, e9, h⟩ := dtCall h
  refine dr_newarray_i q7 μ8 dX0_init_15 wt_192 e9 ?_
  obtain ⟨μ10, e11, h⟩ := dtBind h
  refine dr_putRF μ10 dX0_init_17 fl_RX0_15 rfl rfl rfl e11 ?_
  refine dr_aload_n p0 dX0_init_20 rfl ?_
  refine dr_bipush (60 : Int32) dX0_init_21 (by decide) ?_
  obtain ⟨q12, μ13, e14, h⟩ := dtCall h
  refine dr_newarray_i q12 μ13 dX0_init_23 wt_192 e14 ?_
  obtain ⟨μ15, e16, h⟩ := dtBind h
  refine dr_putRF μ15 dX0_init_25 fl_RX0_18 rfl rfl rfl e16 ?_
  refine dr_aload_n p0 dX0_init_28 rfl ?_
  refine dr_bipush (60 : Int32) dX0_init_29 (by decide) ?_
  obtain ⟨q17, μ18, e19, h⟩ := dtCall h
  refine dr_newarray_i q17 μ18 dX0_init_31 wt_192 e19 ?_
  obtain ⟨μ20, e21, h⟩ := dtBind h
  refine dr_putRF μ20 dX0_init_33 fl_RX0_21 rfl rfl rfl e21 ?_
  refine dr_aload_n p0 dX0_init_36 rfl ?_
  refine dr_bipush (60 : Int32) dX0_init_37 (by decide) ?_
  obtain ⟨q22, μ23, e24, h⟩ := dtCall h
  refine dr_newarray_i q22 μ23 dX0_init_39 wt_192 e24 ?_
  obtain ⟨μ25, e26, h⟩ := dtBind h
  refine dr_putRF μ25 dX0_init_41 fl_RX0_24 rfl rfl rfl e26 ?_
  refine dr_aload_n p0 dX0_init_44 rfl ?_
  refine dr_bipush (60 : Int32) dX0_init_45 (by decide) ?_
  obtain ⟨q27, μ28, e29, h⟩ := dtCall h
  refine dr_newarray_i q27 μ28 dX0_init_47 wt_192 e29 ?_
  obtain ⟨μ30, e31, h⟩ := dtBind h
  refine dr_putRF μ30 dX0_init_49 fl_RX0_27 rfl rfl rfl e31 ?_
  cases h
  exact dr_return dX0_init_52
/-! X0_clear -/
theorem dX0_clear_0 : decode cX0_clear 0 = .ok (.aload_n 0, 1) := by decide +kernel
theorem dX0_clear_1 : decode cX0_clear 1 = .ok (.iconst 0, 1) := by decide +kernel
theorem dX0_clear_2 : decode cX0_clear 2 = .ok (.putfield 30, 3) := by decide +kernel
theorem dX0_clear_5 : decode cX0_clear 5 = .ok (.aload_n 0, 1) := by decide +kernel
theorem dX0_clear_6 : decode cX0_clear 6 = .ok (.iconst 0, 1) := by decide +kernel
theorem dX0_clear_7 : decode cX0_clear 7 = .ok (.putfield 34, 3) := by decide +kernel
theorem dX0_clear_10 : decode cX0_clear 10 = .ok (.aload_n 0, 1) := by decide +kernel
theorem dX0_clear_11 : decode cX0_clear 11 = .ok (.iconst 0, 1) := by decide +kernel
theorem dX0_clear_12 : decode cX0_clear 12 = .ok (.putfield 38, 3) := by decide +kernel
theorem dX0_clear_15 : decode cX0_clear 15 = .ok (.return_, 1) := by decide +kernel
set_option maxRecDepth 100000 in
def f_X0_clear (p0 : Nat) (μ : dtM) : Option dtM :=
  (opPZ 0 0 μ p0 (0 : Int32)).bind fun μ1 => (opPI 0 1 μ1 p0 (0 : Int32)).bind fun μ3 => (opPI 0 2 μ3 p0 (0 : Int32)).bind fun μ5 => some μ5
set_option maxRecDepth 100000 in
theorem c_X0_clear {F : dtM} (p0 : Nat) (μ : dtM) (h : f_X0_clear p0 μ = some F) : dtMet yX0_clear cX0_clear 1 (none) 1 [.ref p0] μ (none) F := by
  refine dtMet.of (by decide +kernel) (Nat.le_of_ble_eq_true rfl) (show dtW yX0_clear cX0_clear 1 (none) 1 (none) F 0 [some (.ref p0)] [] μ from ?_)
  rw [f_X0_clear] at h
  refine dr_aload_n p0 dX0_clear_0 rfl ?_
  refine dr_iconst (0 : Int32) dX0_clear_1 (by decide) ?_
  obtain ⟨μ1, e2, h⟩ := dtBind h
  refine dr_putZ μ1 dX0_clear_2 fl_RX0_30 rfl e2 ?_
  refine dr_aload_n p0 dX0_clear_5 rfl ?_
  refine dr_iconst (0 : Int32) dX0_clear_6 (by decide) ?_
  obtain ⟨μ3, e4, h⟩ := dtBind h
  refine dr_putI μ3 dX0_clear_7 fl_RX0_34 rfl e4 ?_
  refine dr_aload_n p0 dX0_clear_10 rfl ?_
  refine dr_iconst (0 : Int32) dX0_clear_11 (by decide) ?_
  obtain ⟨μ5, e6, h⟩ := dtBind h
  refine dr_putI μ5 dX0_clear_12 fl_RX0_38 rfl e6 ?_
  cases h
  exact dr_return dX0_clear_15
/-! X0_copyFrom -/
theorem dX0_copyFrom_0 : decode cX0_copyFrom 0 = .ok (.aload_n 0, 1) := by decide +kernel
theorem dX0_copyFrom_1 : decode cX0_copyFrom 1 = .ok (.aload_n 1, 1) := by decide +kernel
theorem dX0_copyFrom_2 : decode cX0_copyFrom 2 = .ok (.getfield 30, 3) := by decide +kernel
theorem dX0_copyFrom_5 : decode cX0_copyFrom 5 = .ok (.putfield 30, 3) := by decide +kernel
theorem dX0_copyFrom_8 : decode cX0_copyFrom 8 = .ok (.aload_n 0, 1) := by decide +kernel
theorem dX0_copyFrom_9 : decode cX0_copyFrom 9 = .ok (.aload_n 1, 1) := by decide +kernel
theorem dX0_copyFrom_10 : decode cX0_copyFrom 10 = .ok (.getfield 34, 3) := by decide +kernel
theorem dX0_copyFrom_13 : decode cX0_copyFrom 13 = .ok (.putfield 34, 3) := by decide +kernel
theorem dX0_copyFrom_16 : decode cX0_copyFrom 16 = .ok (.aload_n 0, 1) := by decide +kernel
theorem dX0_copyFrom_17 : decode cX0_copyFrom 17 = .ok (.aload_n 1, 1) := by decide +kernel
theorem dX0_copyFrom_18 : decode cX0_copyFrom 18 = .ok (.getfield 38, 3) := by decide +kernel
theorem dX0_copyFrom_21 : decode cX0_copyFrom 21 = .ok (.putfield 38, 3) := by decide +kernel
theorem dX0_copyFrom_24 : decode cX0_copyFrom 24 = .ok (.aload_n 1, 1) := by decide +kernel
theorem dX0_copyFrom_25 : decode cX0_copyFrom 25 = .ok (.getfield 9, 3) := by decide +kernel
theorem dX0_copyFrom_28 : decode cX0_copyFrom 28 = .ok (.iconst 0, 1) := by decide +kernel
theorem dX0_copyFrom_29 : decode cX0_copyFrom 29 = .ok (.aload_n 0, 1) := by decide +kernel
theorem dX0_copyFrom_30 : decode cX0_copyFrom 30 = .ok (.getfield 9, 3) := by decide +kernel
theorem dX0_copyFrom_33 : decode cX0_copyFrom 33 = .ok (.iconst 0, 1) := by decide +kernel
theorem dX0_copyFrom_34 : decode cX0_copyFrom 34 = .ok (.aload_n 0, 1) := by decide +kernel
theorem dX0_copyFrom_35 : decode cX0_copyFrom 35 = .ok (.getfield 9, 3) := by decide +kernel
theorem dX0_copyFrom_38 : decode cX0_copyFrom 38 = .ok (.arraylength, 1) := by decide +kernel
theorem dX0_copyFrom_39 : decode cX0_copyFrom 39 = .ok (.invokestatic 41, 3) := by decide +kernel
theorem dX0_copyFrom_42 : decode cX0_copyFrom 42 = .ok (.aload_n 1, 1) := by decide +kernel
theorem dX0_copyFrom_43 : decode cX0_copyFrom 43 = .ok (.getfield 15, 3) := by decide +kernel
theorem dX0_copyFrom_46 : decode cX0_copyFrom 46 = .ok (.iconst 0, 1) := by decide +kernel
theorem dX0_copyFrom_47 : decode cX0_copyFrom 47 = .ok (.aload_n 0, 1) := by decide +kernel
theorem dX0_copyFrom_48 : decode cX0_copyFrom 48 = .ok (.getfield 15, 3) := by decide +kernel
theorem dX0_copyFrom_51 : decode cX0_copyFrom 51 = .ok (.iconst 0, 1) := by decide +kernel
theorem dX0_copyFrom_52 : decode cX0_copyFrom 52 = .ok (.aload_n 0, 1) := by decide +kernel
theorem dX0_copyFrom_53 : decode cX0_copyFrom 53 = .ok (.getfield 15, 3) := by decide +kernel
theorem dX0_copyFrom_56 : decode cX0_copyFrom 56 = .ok (.arraylength, 1) := by decide +kernel
theorem dX0_copyFrom_57 : decode cX0_copyFrom 57 = .ok (.invokestatic 41, 3) := by decide +kernel
theorem dX0_copyFrom_60 : decode cX0_copyFrom 60 = .ok (.aload_n 1, 1) := by decide +kernel
theorem dX0_copyFrom_61 : decode cX0_copyFrom 61 = .ok (.getfield 18, 3) := by decide +kernel
theorem dX0_copyFrom_64 : decode cX0_copyFrom 64 = .ok (.iconst 0, 1) := by decide +kernel
theorem dX0_copyFrom_65 : decode cX0_copyFrom 65 = .ok (.aload_n 0, 1) := by decide +kernel
theorem dX0_copyFrom_66 : decode cX0_copyFrom 66 = .ok (.getfield 18, 3) := by decide +kernel
theorem dX0_copyFrom_69 : decode cX0_copyFrom 69 = .ok (.iconst 0, 1) := by decide +kernel
theorem dX0_copyFrom_70 : decode cX0_copyFrom 70 = .ok (.aload_n 0, 1) := by decide +kernel
theorem dX0_copyFrom_71 : decode cX0_copyFrom 71 = .ok (.getfield 18, 3) := by decide +kernel
theorem dX0_copyFrom_74 : decode cX0_copyFrom 74 = .ok (.arraylength, 1) := by decide +kernel
theorem dX0_copyFrom_75 : decode cX0_copyFrom 75 = .ok (.invokestatic 41, 3) := by decide +kernel
theorem dX0_copyFrom_78 : decode cX0_copyFrom 78 = .ok (.aload_n 1, 1) := by decide +kernel
theorem dX0_copyFrom_79 : decode cX0_copyFrom 79 = .ok (.getfield 21, 3) := by decide +kernel
theorem dX0_copyFrom_82 : decode cX0_copyFrom 82 = .ok (.iconst 0, 1) := by decide +kernel
theorem dX0_copyFrom_83 : decode cX0_copyFrom 83 = .ok (.aload_n 0, 1) := by decide +kernel
theorem dX0_copyFrom_84 : decode cX0_copyFrom 84 = .ok (.getfield 21, 3) := by decide +kernel
theorem dX0_copyFrom_87 : decode cX0_copyFrom 87 = .ok (.iconst 0, 1) := by decide +kernel
theorem dX0_copyFrom_88 : decode cX0_copyFrom 88 = .ok (.aload_n 0, 1) := by decide +kernel
theorem dX0_copyFrom_89 : decode cX0_copyFrom 89 = .ok (.getfield 21, 3) := by decide +kernel
theorem dX0_copyFrom_92 : decode cX0_copyFrom 92 = .ok (.arraylength, 1) := by decide +kernel
theorem dX0_copyFrom_93 : decode cX0_copyFrom 93 = .ok (.invokestatic 41, 3) := by decide +kernel
theorem dX0_copyFrom_96 : decode cX0_copyFrom 96 = .ok (.aload_n 1, 1) := by decide +kernel
theorem dX0_copyFrom_97 : decode cX0_copyFrom 97 = .ok (.getfield 24, 3) := by decide +kernel
theorem dX0_copyFrom_100 : decode cX0_copyFrom 100 = .ok (.iconst 0, 1) := by decide +kernel
theorem dX0_copyFrom_101 : decode cX0_copyFrom 101 = .ok (.aload_n 0, 1) := by decide +kernel
theorem dX0_copyFrom_102 : decode cX0_copyFrom 102 = .ok (.getfield 24, 3) := by decide +kernel
theorem dX0_copyFrom_105 : decode cX0_copyFrom 105 = .ok (.iconst 0, 1) := by decide +kernel
theorem dX0_copyFrom_106 : decode cX0_copyFrom 106 = .ok (.aload_n 0, 1) := by decide +kernel
theorem dX0_copyFrom_107 : decode cX0_copyFrom 107 = .ok (.getfield 24, 3) := by decide +kernel
theorem dX0_copyFrom_110 : decode cX0_copyFrom 110 = .ok (.arraylength, 1) := by decide +kernel
theorem dX0_copyFrom_111 : decode cX0_copyFrom 111 = .ok (.invokestatic 41, 3) := by decide +kernel
theorem dX0_copyFrom_114 : decode cX0_copyFrom 114 = .ok (.aload_n 1, 1) := by decide +kernel
theorem dX0_copyFrom_115 : decode cX0_copyFrom 115 = .ok (.getfield 27, 3) := by decide +kernel
theorem dX0_copyFrom_118 : decode cX0_copyFrom 118 = .ok (.iconst 0, 1) := by decide +kernel
theorem dX0_copyFrom_119 : decode cX0_copyFrom 119 = .ok (.aload_n 0, 1) := by decide +kernel
theorem dX0_copyFrom_120 : decode cX0_copyFrom 120 = .ok (.getfield 27, 3) := by decide +kernel
theorem dX0_copyFrom_123 : decode cX0_copyFrom 123 = .ok (.iconst 0, 1) := by decide +kernel
theorem dX0_copyFrom_124 : decode cX0_copyFrom 124 = .ok (.aload_n 0, 1) := by decide +kernel
theorem dX0_copyFrom_125 : decode cX0_copyFrom 125 = .ok (.getfield 27, 3) := by decide +kernel
theorem dX0_copyFrom_128 : decode cX0_copyFrom 128 = .ok (.arraylength, 1) := by decide +kernel
theorem dX0_copyFrom_129 : decode cX0_copyFrom 129 = .ok (.invokestatic 41, 3) := by decide +kernel
theorem dX0_copyFrom_132 : decode cX0_copyFrom 132 = .ok (.return_, 1) := by decide +kernel
set_option maxRecDepth 100000 in
def f_X0_copyFrom (p0 : Nat) (p1 : Nat) (μ : dtM) : Option dtM :=
  (opGI 0 0 μ p1).bind fun x1 => (opPZ 0 0 μ p0 x1).bind fun μ3 => (opGI 0 1 μ3 p1).bind fun x5 => (opPI 0 1 μ3 p0 x5).bind fun μ7 => (opGI 0 2 μ7 p1).bind fun x9 => (opPI 0 2 μ7 p0 x9).bind fun μ11 => (opGR 0 3 μ11 p1).bind fun x13 => (opGR 0 3 μ11 p0).bind fun x15 => (opGR 0 3 μ11 p0).bind fun x17 => (opAL μ11 x17).bind fun x19 => (opCI μ11 x13 (0 : Int32) x15 (0 : Int32) x19).bind fun μ21 => (opGR 0 4 μ21 p1).bind fun x23 => (opGR 0 4 μ21 p0).bind fun x25 => (opGR 0 4 μ21 p0).bind fun x27 => (opAL μ21 x27).bind fun x29 => (opCI μ21 x23 (0 : Int32) x25 (0 : Int32) x29).bind fun μ31 => (opGR 0 5 μ31 p1).bind fun x33 => (opGR 0 5 μ31 p0).bind fun x35 => (opGR 0 5 μ31 p0).bind fun x37 => (opAL μ31 x37).bind fun x39 => (opCI μ31 x33 (0 : Int32) x35 (0 : Int32) x39).bind fun μ41 => (opGR 0 6 μ41 p1).bind fun x43 => (opGR 0 6 μ41 p0).bind fun x45 => (opGR 0 6 μ41 p0).bind fun x47 => (opAL μ41 x47).bind fun x49 => (opCI μ41 x43 (0 : Int32) x45 (0 : Int32) x49).bind fun μ51 => (opGR 0 7 μ51 p1).bind fun x53 => (opGR 0 7 μ51 p0).bind fun x55 => (opGR 0 7 μ51 p0).bind fun x57 => (opAL μ51 x57).bind fun x59 => (opCI μ51 x53 (0 : Int32) x55 (0 : Int32) x59).bind fun μ61 => (opGR 0 8 μ61 p1).bind fun x63 => (opGR 0 8 μ61 p0).bind fun x65 => (opGR 0 8 μ61 p0).bind fun x67 => (opAL μ61 x67).bind fun x69 => (opCI μ61 x63 (0 : Int32) x65 (0 : Int32) x69).bind fun μ71 => some μ71
set_option maxRecDepth 100000 in
theorem c_X0_copyFrom {F : dtM} (p0 : Nat) (p1 : Nat) (μ : dtM) (h : f_X0_copyFrom p0 p1 μ = some F) : dtMet yX0_copyFrom cX0_copyFrom 2 (none) 1 [.ref p0, .ref p1] μ (none) F := by
  refine dtMet.of (by decide +kernel) (Nat.le_of_ble_eq_true rfl) (show dtW yX0_copyFrom cX0_copyFrom 2 (none) 1 (none) F 0 [some (.ref p0), some (.ref p1)] [] μ from ?_)
  rw [f_X0_copyFrom] at h
  refine dr_aload_n p0 dX0_copyFrom_0 rfl ?_
  refine dr_aload_n p1 dX0_copyFrom_1 rfl ?_
  obtain ⟨x1, e2, h⟩ := dtBind h
  refine dr_getZ x1 dX0_copyFrom_2 fl_RX0_30 e2 ?_
  obtain ⟨μ3, e4, h⟩ := dtBind h
  refine dr_putZ μ3 dX0_copyFrom_5 fl_RX0_30 rfl e4 ?_
  refine dr_aload_n p0 dX0_copyFrom_8 rfl ?_
  refine dr_aload_n p1 dX0_copyFrom_9 rfl ?_
  obtain ⟨x5, e6, h⟩ := dtBind h
  refine dr_getI x5 dX0_copyFrom_10 fl_RX0_34 e6 ?_
  obtain ⟨μ7, e8, h⟩ := dtBind h
  refine dr_putI μ7 dX0_copyFrom_13 fl_RX0_34 rfl e8 ?_
  refine dr_aload_n p0 dX0_copyFrom_16 rfl ?_
  refine dr_aload_n p1 dX0_copyFrom_17 rfl ?_
  obtain ⟨x9, e10, h⟩ := dtBind h
  refine dr_getI x9 dX0_copyFrom_18 fl_RX0_38 e10 ?_
  obtain ⟨μ11, e12, h⟩ := dtBind h
  refine dr_putI μ11 dX0_copyFrom_21 fl_RX0_38 rfl e12 ?_
  refine dr_aload_n p1 dX0_copyFrom_24 rfl ?_
  obtain ⟨x13, e14, h⟩ := dtBind h
  refine dr_getR x13 dX0_copyFrom_25 fl_RX0_9 e14 ?_
  refine dr_iconst (0 : Int32) dX0_copyFrom_28 (by decide) ?_
  refine dr_aload_n p0 dX0_copyFrom_29 rfl ?_
  obtain ⟨x15, e16, h⟩ := dtBind h
  refine dr_getR x15 dX0_copyFrom_30 fl_RX0_9 e16 ?_
  refine dr_iconst (0 : Int32) dX0_copyFrom_33 (by decide) ?_
  refine dr_aload_n p0 dX0_copyFrom_34 rfl ?_
  obtain ⟨x17, e18, h⟩ := dtBind h
  refine dr_getR x17 dX0_copyFrom_35 fl_RX0_9 e18 ?_
  obtain ⟨x19, e20, h⟩ := dtBind h
  refine dr_arraylength x19 dX0_copyFrom_38 e20 ?_
  obtain ⟨μ21, e22, h⟩ := dtBind h
  refine dr_copy_i μ21 dX0_copyFrom_39 wt_1332 wt_522 wt_521 wt_14 (Nat.le_of_ble_eq_true rfl) rfl e22 ?_
  refine dr_aload_n p1 dX0_copyFrom_42 rfl ?_
  obtain ⟨x23, e24, h⟩ := dtBind h
  refine dr_getR x23 dX0_copyFrom_43 fl_RX0_15 e24 ?_
  refine dr_iconst (0 : Int32) dX0_copyFrom_46 (by decide) ?_
  refine dr_aload_n p0 dX0_copyFrom_47 rfl ?_
  obtain ⟨x25, e26, h⟩ := dtBind h
  refine dr_getR x25 dX0_copyFrom_48 fl_RX0_15 e26 ?_
  refine dr_iconst (0 : Int32) dX0_copyFrom_51 (by decide) ?_
  refine dr_aload_n p0 dX0_copyFrom_52 rfl ?_
  obtain ⟨x27, e28, h⟩ := dtBind h
  refine dr_getR x27 dX0_copyFrom_53 fl_RX0_15 e28 ?_
  obtain ⟨x29, e30, h⟩ := dtBind h
  refine dr_arraylength x29 dX0_copyFrom_56 e30 ?_
  obtain ⟨μ31, e32, h⟩ := dtBind h
  refine dr_copy_i μ31 dX0_copyFrom_57 wt_1332 wt_522 wt_521 wt_14 (Nat.le_of_ble_eq_true rfl) rfl e32 ?_
  refine dr_aload_n p1 dX0_copyFrom_60 rfl ?_
  obtain ⟨x33, e34, h⟩ := dtBind h
  refine dr_getR x33 dX0_copyFrom_61 fl_RX0_18 e34 ?_
  refine dr_iconst (0 : Int32) dX0_copyFrom_64 (by decide) ?_
  refine dr_aload_n p0 dX0_copyFrom_65 rfl ?_
  obtain ⟨x35, e36, h⟩ := dtBind h
  refine dr_getR x35 dX0_copyFrom_66 fl_RX0_18 e36 ?_
  refine dr_iconst (0 : Int32) dX0_copyFrom_69 (by decide) ?_
  refine dr_aload_n p0 dX0_copyFrom_70 rfl ?_
  obtain ⟨x37, e38, h⟩ := dtBind h
  refine dr_getR x37 dX0_copyFrom_71 fl_RX0_18 e38 ?_
  obtain ⟨x39, e40, h⟩ := dtBind h
  refine dr_arraylength x39 dX0_copyFrom_74 e40 ?_
  obtain ⟨μ41, e42, h⟩ := dtBind h
  refine dr_copy_i μ41 dX0_copyFrom_75 wt_1332 wt_522 wt_521 wt_14 (Nat.le_of_ble_eq_true rfl) rfl e42 ?_
  refine dr_aload_n p1 dX0_copyFrom_78 rfl ?_
  obtain ⟨x43, e44, h⟩ := dtBind h
  refine dr_getR x43 dX0_copyFrom_79 fl_RX0_21 e44 ?_
  refine dr_iconst (0 : Int32) dX0_copyFrom_82 (by decide) ?_
  refine dr_aload_n p0 dX0_copyFrom_83 rfl ?_
  obtain ⟨x45, e46, h⟩ := dtBind h
  refine dr_getR x45 dX0_copyFrom_84 fl_RX0_21 e46 ?_
  refine dr_iconst (0 : Int32) dX0_copyFrom_87 (by decide) ?_
  refine dr_aload_n p0 dX0_copyFrom_88 rfl ?_
  obtain ⟨x47, e48, h⟩ := dtBind h
  refine dr_getR x47 dX0_copyFrom_89 fl_RX0_21 e48 ?_
  obtain ⟨x49, e50, h⟩ := dtBind h
  refine dr_arraylength x49 dX0_copyFrom_92 e50 ?_
  obtain ⟨μ51, e52, h⟩ := dtBind h
  refine dr_copy_i μ51 dX0_copyFrom_93 wt_1332 wt_522 wt_521 wt_14 (Nat.le_of_ble_eq_true rfl) rfl e52 ?_
  refine dr_aload_n p1 dX0_copyFrom_96 rfl ?_
  obtain ⟨x53, e54, h⟩ := dtBind h
  refine dr_getR x53 dX0_copyFrom_97 fl_RX0_24 e54 ?_
  refine dr_iconst (0 : Int32) dX0_copyFrom_100 (by decide) ?_
  refine dr_aload_n p0 dX0_copyFrom_101 rfl ?_
  obtain ⟨x55, e56, h⟩ := dtBind h
  refine dr_getR x55 dX0_copyFrom_102 fl_RX0_24 e56 ?_
  refine dr_iconst (0 : Int32) dX0_copyFrom_105 (by decide) ?_
  refine dr_aload_n p0 dX0_copyFrom_106 rfl ?_
  obtain ⟨x57, e58, h⟩ := dtBind h
  refine dr_getR x57 dX0_copyFrom_107 fl_RX0_24 e58 ?_
  obtain ⟨x59, e60, h⟩ := dtBind h
  refine dr_arraylength x59 dX0_copyFrom_110 e60 ?_
  obtain ⟨μ61, e62, h⟩ := dtBind h
  refine dr_copy_i μ61 dX0_copyFrom_111 wt_1332 wt_522 wt_521 wt_14 (Nat.le_of_ble_eq_true rfl) rfl e62 ?_
  refine dr_aload_n p1 dX0_copyFrom_114 rfl ?_
  obtain ⟨x63, e64, h⟩ := dtBind h
  refine dr_getR x63 dX0_copyFrom_115 fl_RX0_27 e64 ?_
  refine dr_iconst (0 : Int32) dX0_copyFrom_118 (by decide) ?_
  refine dr_aload_n p0 dX0_copyFrom_119 rfl ?_
  obtain ⟨x65, e66, h⟩ := dtBind h
  refine dr_getR x65 dX0_copyFrom_120 fl_RX0_27 e66 ?_
  refine dr_iconst (0 : Int32) dX0_copyFrom_123 (by decide) ?_
  refine dr_aload_n p0 dX0_copyFrom_124 rfl ?_
  obtain ⟨x67, e68, h⟩ := dtBind h
  refine dr_getR x67 dX0_copyFrom_125 fl_RX0_27 e68 ?_
  obtain ⟨x69, e70, h⟩ := dtBind h
  refine dr_arraylength x69 dX0_copyFrom_128 e70 ?_
  obtain ⟨μ71, e72, h⟩ := dtBind h
  refine dr_copy_i μ71 dX0_copyFrom_129 wt_1332 wt_522 wt_521 wt_14 (Nat.le_of_ble_eq_true rfl) rfl e72 ?_
  cases h
  exact dr_return dX0_copyFrom_132
/-! X0_append -/
theorem dX0_append_0 : decode cX0_append 0 = .ok (.aload_n 0, 1) := by decide +kernel
theorem dX0_append_1 : decode cX0_append 1 = .ok (.getfield 38, 3) := by decide +kernel
theorem dX0_append_4 : decode cX0_append 4 = .ok (.aload_n 0, 1) := by decide +kernel
theorem dX0_append_5 : decode cX0_append 5 = .ok (.getfield 9, 3) := by decide +kernel
theorem dX0_append_8 : decode cX0_append 8 = .ok (.arraylength, 1) := by decide +kernel
theorem dX0_append_9 : decode cX0_append 9 = .ok (.if_icmp .lt 5, 3) := by decide +kernel
theorem dX0_append_12 : decode cX0_append 12 = .ok (.iconst (-1), 1) := by decide +kernel
theorem dX0_append_13 : decode cX0_append 13 = .ok (.ireturn, 1) := by decide +kernel
theorem dX0_append_14 : decode cX0_append 14 = .ok (.aload_n 0, 1) := by decide +kernel
theorem dX0_append_15 : decode cX0_append 15 = .ok (.getfield 9, 3) := by decide +kernel
theorem dX0_append_18 : decode cX0_append 18 = .ok (.aload_n 0, 1) := by decide +kernel
theorem dX0_append_19 : decode cX0_append 19 = .ok (.getfield 38, 3) := by decide +kernel
theorem dX0_append_22 : decode cX0_append 22 = .ok (.iload_n 1, 1) := by decide +kernel
theorem dX0_append_23 : decode cX0_append 23 = .ok (.iastore, 1) := by decide +kernel
theorem dX0_append_24 : decode cX0_append 24 = .ok (.aload_n 0, 1) := by decide +kernel
theorem dX0_append_25 : decode cX0_append 25 = .ok (.dup, 1) := by decide +kernel
theorem dX0_append_26 : decode cX0_append 26 = .ok (.getfield 38, 3) := by decide +kernel
theorem dX0_append_29 : decode cX0_append 29 = .ok (.iconst 1, 1) := by decide +kernel
theorem dX0_append_30 : decode cX0_append 30 = .ok (.iadd, 1) := by decide +kernel
theorem dX0_append_31 : decode cX0_append 31 = .ok (.putfield 38, 3) := by decide +kernel
theorem dX0_append_34 : decode cX0_append 34 = .ok (.aload_n 0, 1) := by decide +kernel
theorem dX0_append_35 : decode cX0_append 35 = .ok (.getfield 38, 3) := by decide +kernel
theorem dX0_append_38 : decode cX0_append 38 = .ok (.iconst 1, 1) := by decide +kernel
theorem dX0_append_39 : decode cX0_append 39 = .ok (.isub, 1) := by decide +kernel
theorem dX0_append_40 : decode cX0_append 40 = .ok (.ireturn, 1) := by decide +kernel
set_option maxRecDepth 100000 in
def f_X0_append (p0 : Nat) (p1 : Int32) (μ : dtM) : Option (Int32 × dtM) :=
  (opGI 0 2 μ p0).bind fun x1 => (opGR 0 3 μ p0).bind fun x3 => (opAL μ x3).bind fun x5 => if x1 < x5 then ((opGR 0 3 μ p0).bind fun x10 => (opGI 0 2 μ p0).bind fun x12 => (opSI μ x10 x12 p1).bind fun μ14 => (opGI 0 2 μ14 p0).bind fun x16 => (opPI 0 2 μ14 p0 (x16 + (1 : Int32))).bind fun μ18 => (opGI 0 2 μ18 p0).bind fun x20 => some ((x20 - (1 : Int32)), μ18)) else (some ((-1 : Int32), μ))
set_option maxRecDepth 100000 in
theorem c_X0_append {r : Int32} {F : dtM} (p0 : Nat) (p1 : Int32) (μ : dtM) (h : f_X0_append p0 p1 μ = some (r, F)) : dtMet yX0_append cX0_append 2 (some .int) 1 [.ref p0, .int p1] μ (some (.int r)) F := by
  refine dtMet.of (by decide +kernel) (Nat.le_of_ble_eq_true rfl) (show dtW yX0_append cX0_append 2 (some .int) 1 (some (.int r)) F 0 [some (.ref p0), some (.int p1)] [] μ from ?_)
  rw [f_X0_append] at h
  refine dr_aload_n p0 dX0_append_0 rfl ?_
  obtain ⟨x1, e2, h⟩ := dtBind h
  refine dr_getI x1 dX0_append_1 fl_RX0_38 e2 ?_
  refine dr_aload_n p0 dX0_append_4 rfl ?_
  obtain ⟨x3, e4, h⟩ := dtBind h
  refine dr_getR x3 dX0_append_5 fl_RX0_9 e4 ?_
  obtain ⟨x5, e6, h⟩ := dtBind h
  refine dr_arraylength x5 dX0_append_8 e6 ?_
  obtain ⟨ht8, hf9⟩ := dtIte h
  refine dr_icmp_lt 14 dX0_append_9 (by decide) (fun hc7 => ?_) (fun hc7 => ?_)
  · have h := ht8 hc7
    refine dr_aload_n p0 dX0_append_14 rfl ?_
    obtain ⟨x10, e11, h⟩ := dtBind h
    refine dr_getR x10 dX0_append_15 fl_RX0_9 e11 ?_
    refine dr_aload_n p0 dX0_append_18 rfl ?_
    obtain ⟨x12, e13, h⟩ := dtBind h
    refine dr_getI x12 dX0_append_19 fl_RX0_38 e13 ?_
    refine dr_iload_n p1 dX0_append_22 rfl ?_
    obtain ⟨μ14, e15, h⟩ := dtBind h
    refine dr_iastore μ14 dX0_append_23 e15 ?_
    refine dr_aload_n p0 dX0_append_24 rfl ?_
    refine dr_dup dX0_append_25 rfl ?_
    obtain ⟨x16, e17, h⟩ := dtBind h
    refine dr_getI x16 dX0_append_26 fl_RX0_38 e17 ?_
    refine dr_iconst (1 : Int32) dX0_append_29 (by decide) ?_
    refine dr_iadd dX0_append_30 ?_
    obtain ⟨μ18, e19, h⟩ := dtBind h
    refine dr_putI μ18 dX0_append_31 fl_RX0_38 rfl e19 ?_
    refine dr_aload_n p0 dX0_append_34 rfl ?_
    obtain ⟨x20, e21, h⟩ := dtBind h
    refine dr_getI x20 dX0_append_35 fl_RX0_38 e21 ?_
    refine dr_iconst (1 : Int32) dX0_append_38 (by decide) ?_
    refine dr_isub dX0_append_39 ?_
    cases h
    exact dr_ireturn dX0_append_40 rfl
  · have h := hf9 hc7
    refine dr_iconst (-1 : Int32) dX0_append_12 (by decide) ?_
    cases h
    exact dr_ireturn dX0_append_13 rfl
/-! X8_init -/
theorem dX8_init_0 : decode cX8_init 0 = .ok (.aload_n 0, 1) := by decide +kernel
theorem dX8_init_1 : decode cX8_init 1 = .ok (.invokespecial 3, 3) := by decide +kernel
theorem dX8_init_4 : decode cX8_init 4 = .ok (.aload_n 0, 1) := by decide +kernel
theorem dX8_init_5 : decode cX8_init 5 = .ok (.iconst 0, 1) := by decide +kernel
theorem dX8_init_6 : decode cX8_init 6 = .ok (.newarray .byte, 2) := by decide +kernel
theorem dX8_init_8 : decode cX8_init 8 = .ok (.putfield 9, 3) := by decide +kernel
theorem dX8_init_11 : decode cX8_init 11 = .ok (.return_, 1) := by decide +kernel
set_option maxRecDepth 100000 in
def f_X8_init (p0 : Nat) (μ : dtM) : Option dtM :=
  (opLt p0).bind fun _ => opCall (opNA 2 μ (0 : Int32)) fun q2 μ3 => (opPR 8 0 μ3 p0 q2).bind fun μ5 => some μ5
set_option maxRecDepth 100000 in
theorem c_X8_init {F : dtM} (p0 : Nat) (μ : dtM) (h : f_X8_init p0 μ = some F) : dtMet yX8_init cX8_init 1 (none) 1 [.ref p0] μ (none) F := by
  refine dtMet.of (by decide +kernel) (Nat.le_of_ble_eq_true rfl) (show dtW yX8_init cX8_init 1 (none) 1 (none) F 0 [some (.ref p0)] [] μ from ?_)
  rw [f_X8_init] at h
  refine dr_aload_n p0 dX8_init_0 rfl ?_
  obtain ⟨_, hb1, h⟩ := dtBind h
  refine dr_objInit dX8_init_1 wt_257 wt_27 wt_28 (dtLt hb1) (Nat.le_of_ble_eq_true rfl) rfl ?_
  refine dr_aload_n p0 dX8_init_4 rfl ?_
  refine dr_iconst (0 : Int32) dX8_init_5 (by decide) ?_
  obtain ⟨q2, μ3, e4, h⟩ := dtCall h
  refine dr_newarray_b q2 μ3 dX8_init_6 wt_77 e4 ?_
  obtain ⟨μ5, e6, h⟩ := dtBind h
  refine dr_putR μ5 dX8_init_8 fl_RX8_9 rfl e6 ?_
  cases h
  exact dr_return dX8_init_11
/-! X1_init -/
theorem dX1_init_0 : decode cX1_init 0 = .ok (.aload_n 0, 1) := by decide +kernel
theorem dX1_init_1 : decode cX1_init 1 = .ok (.invokespecial 3, 3) := by decide +kernel
theorem dX1_init_4 : decode cX1_init 4 = .ok (.aload_n 0, 1) := by decide +kernel
theorem dX1_init_5 : decode cX1_init 5 = .ok (.new 9, 3) := by decide +kernel
theorem dX1_init_8 : decode cX1_init 8 = .ok (.dup, 1) := by decide +kernel
theorem dX1_init_9 : decode cX1_init 9 = .ok (.invokespecial 11, 3) := by decide +kernel
theorem dX1_init_12 : decode cX1_init 12 = .ok (.putfield 12, 3) := by decide +kernel
theorem dX1_init_15 : decode cX1_init 15 = .ok (.aload_n 0, 1) := by decide +kernel
theorem dX1_init_16 : decode cX1_init 16 = .ok (.iconst 3, 1) := by decide +kernel
theorem dX1_init_17 : decode cX1_init 17 = .ok (.newarray .int, 2) := by decide +kernel
theorem dX1_init_19 : decode cX1_init 19 = .ok (.putfield 18, 3) := by decide +kernel
theorem dX1_init_22 : decode cX1_init 22 = .ok (.return_, 1) := by decide +kernel
set_option maxRecDepth 100000 in
def f_X1_init (p0 : Nat) (μ : dtM) : Option dtM :=
  (opLt p0).bind fun _ => opCall (opNew 8 μ) fun q2 μ3 => (opLt q2).bind fun _ => (f_X8_init q2 μ3).bind fun μ6 => (opPR 1 0 μ6 p0 q2).bind fun μ8 => opCall (opNA 1 μ8 (3 : Int32)) fun q10 μ11 => (opPR 1 1 μ11 p0 q10).bind fun μ13 => some μ13
set_option maxRecDepth 100000 in
theorem c_X1_init {F : dtM} (p0 : Nat) (μ : dtM) (h : f_X1_init p0 μ = some F) : dtMet yX1_init cX1_init 1 (none) 2 [.ref p0] μ (none) F := by
  refine dtMet.of (by decide +kernel) (Nat.le_of_ble_eq_true rfl) (show dtW yX1_init cX1_init 1 (none) 2 (none) F 0 [some (.ref p0)] [] μ from ?_)
  rw [f_X1_init] at h
  refine dr_aload_n p0 dX1_init_0 rfl ?_
  obtain ⟨_, hb1, h⟩ := dtBind h
  refine dr_objInit dX1_init_1 wt_310 wt_27 wt_28 (dtLt hb1) (Nat.le_of_ble_eq_true rfl) rfl ?_
  refine dr_aload_n p0 dX1_init_4 rfl ?_
  obtain ⟨q2, μ3, e4, h⟩ := dtCall h
  refine dr_new (ci := 8) q2 μ3 dX1_init_5 wt_311 wt_253 wt_7 (by decide) e4 ?_
  refine dr_dup dX1_init_8 rfl ?_
  obtain ⟨_, hb5, h⟩ := dtBind h
  obtain ⟨μ6, e7, h⟩ := dtBind h
  refine dr_callIN (S0 := [.ref q2, .ref p0]) μ6 [] dX1_init_9 (c_X8_init q2 μ3 e7) mf_X8_init rfl wt_255 wn_312 rfl (dtLt hb5) (Nat.le_of_ble_eq_true rfl) rfl rfl ?_
  obtain ⟨μ8, e9, h⟩ := dtBind h
  refine dr_putRF μ8 dX1_init_12 fl_RX1_12 rfl rfl rfl e9 ?_
  refine dr_aload_n p0 dX1_init_15 rfl ?_
  refine dr_iconst (3 : Int32) dX1_init_16 (by decide) ?_
  obtain ⟨q10, μ11, e12, h⟩ := dtCall h
  refine dr_newarray_i q10 μ11 dX1_init_17 wt_192 e12 ?_
  obtain ⟨μ13, e14, h⟩ := dtBind h
  refine dr_putRF μ13 dX1_init_19 fl_RX1_18 rfl rfl rfl e14 ?_
  cases h
  exact dr_return dX1_init_22
/-! X11_within -/
theorem dX11_within_0 : decode cX11_within 0 = .ok (.iload_n 0, 1) := by decide +kernel
theorem dX11_within_1 : decode cX11_within 1 = .ok (.iload_n 1, 1) := by decide +kernel
theorem dX11_within_2 : decode cX11_within 2 = .ok (.if_icmp .lt 12, 3) := by decide +kernel
theorem dX11_within_5 : decode cX11_within 5 = .ok (.iload_n 0, 1) := by decide +kernel
theorem dX11_within_6 : decode cX11_within 6 = .ok (.iload_n 2, 1) := by decide +kernel
theorem dX11_within_7 : decode cX11_within 7 = .ok (.if_icmp .gt 7, 3) := by decide +kernel
theorem dX11_within_10 : decode cX11_within 10 = .ok (.iconst 1, 1) := by decide +kernel
theorem dX11_within_11 : decode cX11_within 11 = .ok (.goto 4, 3) := by decide +kernel
theorem dX11_within_14 : decode cX11_within 14 = .ok (.iconst 0, 1) := by decide +kernel
theorem dX11_within_15 : decode cX11_within 15 = .ok (.ireturn, 1) := by decide +kernel
set_option maxRecDepth 100000 in
def f_X11_within_15 (s0 : Int32) (μ : dtM) : Option (Int32 × dtM) :=
  opRet s0 μ
set_option maxRecDepth 100000 in
def f_X11_within_14  (μ : dtM) : Option (Int32 × dtM) :=
  f_X11_within_15 (0 : Int32) μ
set_option maxRecDepth 100000 in
def f_X11_within (p0 : Int32) (p1 : Int32) (p2 : Int32) (μ : dtM) : Option (Int32 × dtM) :=
  if p0 < p1 then (f_X11_within_14 μ) else (if p2 < p0 then (f_X11_within_14 μ) else (f_X11_within_15 (1 : Int32) μ))
set_option maxRecDepth 100000 in
theorem c_X11_within_15 {r : Int32} {F : dtM} (s0 : Int32) (μ : dtM) (h : f_X11_within_15 s0 μ = some (r, F)) : dtW yX11_within cX11_within 3 (some .boolean) 1 (some (.int r)) F 15 [] [.int s0] μ := by
  rw [f_X11_within_15] at h
  obtain ⟨hz, rfl, rfl⟩ := dtRet h
  exact dr_ireturn dX11_within_15 (dtNz hz)
set_option maxRecDepth 100000 in
theorem c_X11_within_14 {r : Int32} {F : dtM}  (μ : dtM) (h : f_X11_within_14  μ = some (r, F)) : dtW yX11_within cX11_within 3 (some .boolean) 1 (some (.int r)) F 14 [] [] μ := by
  rw [f_X11_within_14] at h
  refine dr_iconst (0 : Int32) dX11_within_14 (by decide) ?_
  exact c_X11_within_15 (0 : Int32) μ h
set_option maxRecDepth 100000 in
theorem c_X11_within {r : Int32} {F : dtM} (p0 : Int32) (p1 : Int32) (p2 : Int32) (μ : dtM) (h : f_X11_within p0 p1 p2 μ = some (r, F)) : dtMet yX11_within cX11_within 3 (some .boolean) 1 [.int p0, .int p1, .int p2] μ (some (.int r)) F := by
  refine dtMet.of (by decide +kernel) (Nat.le_of_ble_eq_true rfl) (show dtW yX11_within cX11_within 3 (some .boolean) 1 (some (.int r)) F 0 [some (.int p0), some (.int p1), some (.int p2)] [] μ from ?_)
  rw [f_X11_within] at h
  refine dr_iload_n p0 dX11_within_0 rfl ?_
  refine dr_iload_n p1 dX11_within_1 rfl ?_
  obtain ⟨ht2, hf3⟩ := dtIte h
  refine dr_icmp_lt 14 dX11_within_2 (by decide) (fun hc1 => ?_) (fun hc1 => ?_)
  · have h := ht2 hc1
    refine dr_mask [] [] rfl ?_
    exact c_X11_within_14 μ h
  · have h := hf3 hc1
    refine dr_iload_n p0 dX11_within_5 rfl ?_
    refine dr_iload_n p2 dX11_within_6 rfl ?_
    obtain ⟨ht5, hf6⟩ := dtIte h
    refine dr_icmp_gt 14 dX11_within_7 (by decide) (fun hc4 => ?_) (fun hc4 => ?_)
    · have h := ht5 hc4
      refine dr_mask [] [] rfl ?_
      exact c_X11_within_14 μ h
    · have h := hf6 hc4
      refine dr_iconst (1 : Int32) dX11_within_10 (by decide) ?_
      refine dr_goto 15 dX11_within_11 (by decide) ?_
      refine dr_mask [] [] rfl ?_
      exact c_X11_within_15 (1 : Int32) μ h
/-! X1_isStepWord -/
theorem dX1_isStepWord_0 : decode cX1_isStepWord 0 = .ok (.iload_n 0, 1) := by decide +kernel
theorem dX1_isStepWord_1 : decode cX1_isStepWord 1 = .ok (.iconst 4, 1) := by decide +kernel
theorem dX1_isStepWord_2 : decode cX1_isStepWord 2 = .ok (.if_icmp .eq 32, 3) := by decide +kernel
theorem dX1_isStepWord_5 : decode cX1_isStepWord 5 = .ok (.iload_n 0, 1) := by decide +kernel
theorem dX1_isStepWord_6 : decode cX1_isStepWord 6 = .ok (.bipush 19, 2) := by decide +kernel
theorem dX1_isStepWord_8 : decode cX1_isStepWord 8 = .ok (.if_icmp .eq 26, 3) := by decide +kernel
theorem dX1_isStepWord_11 : decode cX1_isStepWord 11 = .ok (.iload_n 0, 1) := by decide +kernel
theorem dX1_isStepWord_12 : decode cX1_isStepWord 12 = .ok (.bipush 21, 2) := by decide +kernel
theorem dX1_isStepWord_14 : decode cX1_isStepWord 14 = .ok (.if_icmp .eq 20, 3) := by decide +kernel
theorem dX1_isStepWord_17 : decode cX1_isStepWord 17 = .ok (.iload_n 0, 1) := by decide +kernel
theorem dX1_isStepWord_18 : decode cX1_isStepWord 18 = .ok (.bipush 23, 2) := by decide +kernel
theorem dX1_isStepWord_20 : decode cX1_isStepWord 20 = .ok (.if_icmp .eq 14, 3) := by decide +kernel
theorem dX1_isStepWord_23 : decode cX1_isStepWord 23 = .ok (.iload_n 0, 1) := by decide +kernel
theorem dX1_isStepWord_24 : decode cX1_isStepWord 24 = .ok (.bipush 15, 2) := by decide +kernel
theorem dX1_isStepWord_26 : decode cX1_isStepWord 26 = .ok (.bipush 18, 2) := by decide +kernel
theorem dX1_isStepWord_28 : decode cX1_isStepWord 28 = .ok (.invokestatic 85, 3) := by decide +kernel
theorem dX1_isStepWord_31 : decode cX1_isStepWord 31 = .ok (.ifCond .eq 7, 3) := by decide +kernel
theorem dX1_isStepWord_34 : decode cX1_isStepWord 34 = .ok (.iconst 1, 1) := by decide +kernel
theorem dX1_isStepWord_35 : decode cX1_isStepWord 35 = .ok (.goto 4, 3) := by decide +kernel
theorem dX1_isStepWord_38 : decode cX1_isStepWord 38 = .ok (.iconst 0, 1) := by decide +kernel
theorem dX1_isStepWord_39 : decode cX1_isStepWord 39 = .ok (.ireturn, 1) := by decide +kernel
set_option maxRecDepth 100000 in
def f_X1_isStepWord_39 (s0 : Int32) (μ : dtM) : Option (Int32 × dtM) :=
  opRet s0 μ
set_option maxRecDepth 100000 in
def f_X1_isStepWord_34  (μ : dtM) : Option (Int32 × dtM) :=
  f_X1_isStepWord_39 (1 : Int32) μ
set_option maxRecDepth 100000 in
def f_X1_isStepWord (p0 : Int32) (μ : dtM) : Option (Int32 × dtM) :=
  if p0 = (4 : Int32) then (f_X1_isStepWord_34 μ) else (if p0 = (19 : Int32) then (f_X1_isStepWord_34 μ) else (if p0 = (21 : Int32) then (f_X1_isStepWord_34 μ) else (if p0 = (23 : Int32) then (f_X1_isStepWord_34 μ) else (opCall (f_X11_within p0 (15 : Int32) (18 : Int32) μ) fun x15 μ13 => if x15 = 0 then (f_X1_isStepWord_39 (0 : Int32) μ13) else (f_X1_isStepWord_34 μ13)))))
set_option maxRecDepth 100000 in
theorem c_X1_isStepWord_39 {r : Int32} {F : dtM} (s0 : Int32) (μ : dtM) (h : f_X1_isStepWord_39 s0 μ = some (r, F)) : dtW yX1_isStepWord cX1_isStepWord 1 (some .boolean) 2 (some (.int r)) F 39 [] [.int s0] μ := by
  rw [f_X1_isStepWord_39] at h
  obtain ⟨hz, rfl, rfl⟩ := dtRet h
  exact dr_ireturn dX1_isStepWord_39 (dtNz hz)
set_option maxRecDepth 100000 in
theorem c_X1_isStepWord_34 {r : Int32} {F : dtM}  (μ : dtM) (h : f_X1_isStepWord_34  μ = some (r, F)) : dtW yX1_isStepWord cX1_isStepWord 1 (some .boolean) 2 (some (.int r)) F 34 [] [] μ := by
  rw [f_X1_isStepWord_34] at h
  refine dr_iconst (1 : Int32) dX1_isStepWord_34 (by decide) ?_
  refine dr_goto 39 dX1_isStepWord_35 (by decide) ?_
  exact c_X1_isStepWord_39 (1 : Int32) μ h
set_option maxRecDepth 100000 in
theorem c_X1_isStepWord {r : Int32} {F : dtM} (p0 : Int32) (μ : dtM) (h : f_X1_isStepWord p0 μ = some (r, F)) : dtMet yX1_isStepWord cX1_isStepWord 1 (some .boolean) 2 [.int p0] μ (some (.int r)) F := by
  refine dtMet.of (by decide +kernel) (Nat.le_of_ble_eq_true rfl) (show dtW yX1_isStepWord cX1_isStepWord 1 (some .boolean) 2 (some (.int r)) F 0 [some (.int p0)] [] μ from ?_)
  rw [f_X1_isStepWord] at h
  refine dr_iload_n p0 dX1_isStepWord_0 rfl ?_
  refine dr_iconst (4 : Int32) dX1_isStepWord_1 (by decide) ?_
  obtain ⟨ht2, hf3⟩ := dtIte h
  refine dr_icmp_eq 34 dX1_isStepWord_2 (by decide) (fun hc1 => ?_) (fun hc1 => ?_)
  · have h := ht2 hc1
    refine dr_mask [] [] rfl ?_
    exact c_X1_isStepWord_34 μ h
  · have h := hf3 hc1
    refine dr_iload_n p0 dX1_isStepWord_5 rfl ?_
    refine dr_bipush (19 : Int32) dX1_isStepWord_6 (by decide) ?_
    obtain ⟨ht5, hf6⟩ := dtIte h
    refine dr_icmp_eq 34 dX1_isStepWord_8 (by decide) (fun hc4 => ?_) (fun hc4 => ?_)
    · have h := ht5 hc4
      refine dr_mask [] [] rfl ?_
      exact c_X1_isStepWord_34 μ h
    · have h := hf6 hc4
      refine dr_iload_n p0 dX1_isStepWord_11 rfl ?_
      refine dr_bipush (21 : Int32) dX1_isStepWord_12 (by decide) ?_
      obtain ⟨ht8, hf9⟩ := dtIte h
      refine dr_icmp_eq 34 dX1_isStepWord_14 (by decide) (fun hc7 => ?_) (fun hc7 => ?_)
      · have h := ht8 hc7
        refine dr_mask [] [] rfl ?_
        exact c_X1_isStepWord_34 μ h
      · have h := hf9 hc7
        refine dr_iload_n p0 dX1_isStepWord_17 rfl ?_
        refine dr_bipush (23 : Int32) dX1_isStepWord_18 (by decide) ?_
        obtain ⟨ht11, hf12⟩ := dtIte h
        refine dr_icmp_eq 34 dX1_isStepWord_20 (by decide) (fun hc10 => ?_) (fun hc10 => ?_)
        · have h := ht11 hc10
          refine dr_mask [] [] rfl ?_
          exact c_X1_isStepWord_34 μ h
        · have h := hf12 hc10
          refine dr_iload_n p0 dX1_isStepWord_23 rfl ?_
          refine dr_bipush (15 : Int32) dX1_isStepWord_24 (by decide) ?_
          refine dr_bipush (18 : Int32) dX1_isStepWord_26 (by decide) ?_
          obtain ⟨x15, μ13, e14, h⟩ := dtCall h
          refine dr_callSN_i (S0 := []) [.int p0, .int (15 : Int32), .int (18 : Int32)] x15 μ13 dX1_isStepWord_28 (c_X11_within p0 (15 : Int32) (18 : Int32) μ e14) mf_X11_within wt_478 wn_795 rfl (Nat.le_of_ble_eq_true rfl) (Nat.le_of_ble_eq_true rfl) rfl ?_
          obtain ⟨ht17, hf18⟩ := dtIte h
          refine dr_if_eq 38 dX1_isStepWord_31 (by decide) (fun hc16 => ?_) (fun hc16 => ?_)
          · have h := ht17 hc16
            refine dr_iconst (0 : Int32) dX1_isStepWord_38 (by decide) ?_
            refine dr_mask [] [] rfl ?_
            exact c_X1_isStepWord_39 (0 : Int32) μ13 h
          · have h := hf18 hc16
            refine dr_mask [] [] rfl ?_
            exact c_X1_isStepWord_34 μ13 h
/-! X8_findKeyword -/
theorem dX8_findKeyword_0 : decode cX8_findKeyword 0 = .ok (.iconst 0, 1) := by decide +kernel
theorem dX8_findKeyword_1 : decode cX8_findKeyword 1 = .ok (.istore_n 1, 1) := by decide +kernel
theorem dX8_findKeyword_2 : decode cX8_findKeyword 2 = .ok (.aload_n 0, 1) := by decide +kernel
theorem dX8_findKeyword_3 : decode cX8_findKeyword 3 = .ok (.getfield 37, 3) := by decide +kernel
theorem dX8_findKeyword_6 : decode cX8_findKeyword 6 = .ok (.istore_n 2, 1) := by decide +kernel
theorem dX8_findKeyword_7 : decode cX8_findKeyword 7 = .ok (.iconst 1, 1) := by decide +kernel
theorem dX8_findKeyword_8 : decode cX8_findKeyword 8 = .ok (.istore_n 3, 1) := by decide +kernel
theorem dX8_findKeyword_9 : decode cX8_findKeyword 9 = .ok (.iconst 0, 1) := by decide +kernel
theorem dX8_findKeyword_10 : decode cX8_findKeyword 10 = .ok (.istore 4, 2) := by decide +kernel
theorem dX8_findKeyword_12 : decode cX8_findKeyword 12 = .ok (.iload 4, 2) := by decide +kernel
theorem dX8_findKeyword_14 : decode cX8_findKeyword 14 = .ok (.ldc 70, 2) := by decide +kernel
theorem dX8_findKeyword_16 : decode cX8_findKeyword 16 = .ok (.invokevirtual 72, 3) := by decide +kernel
theorem dX8_findKeyword_19 : decode cX8_findKeyword 19 = .ok (.if_icmp .ge 83, 3) := by decide +kernel
theorem dX8_findKeyword_22 : decode cX8_findKeyword 22 = .ok (.ldc 70, 2) := by decide +kernel
theorem dX8_findKeyword_24 : decode cX8_findKeyword 24 = .ok (.iload 4, 2) := by decide +kernel
theorem dX8_findKeyword_26 : decode cX8_findKeyword 26 = .ok (.invokevirtual 76, 3) := by decide +kernel
theorem dX8_findKeyword_29 : decode cX8_findKeyword 29 = .ok (.istore 5, 2) := by decide +kernel
theorem dX8_findKeyword_31 : decode cX8_findKeyword 31 = .ok (.iload 5, 2) := by decide +kernel
theorem dX8_findKeyword_33 : decode cX8_findKeyword 33 = .ok (.bipush 32, 2) := by decide +kernel
theorem dX8_findKeyword_35 : decode cX8_findKeyword 35 = .ok (.if_icmp .ne 30, 3) := by decide +kernel
theorem dX8_findKeyword_38 : decode cX8_findKeyword 38 = .ok (.iload_n 3, 1) := by decide +kernel
theorem dX8_findKeyword_39 : decode cX8_findKeyword 39 = .ok (.ifCond .eq 13, 3) := by decide +kernel
theorem dX8_findKeyword_42 : decode cX8_findKeyword 42 = .ok (.iload_n 2, 1) := by decide +kernel
theorem dX8_findKeyword_43 : decode cX8_findKeyword 43 = .ok (.aload_n 0, 1) := by decide +kernel
theorem dX8_findKeyword_44 : decode cX8_findKeyword 44 = .ok (.getfield 25, 3) := by decide +kernel
theorem dX8_findKeyword_47 : decode cX8_findKeyword 47 = .ok (.if_icmp .ne 5, 3) := by decide +kernel
theorem dX8_findKeyword_50 : decode cX8_findKeyword 50 = .ok (.iload_n 1, 1) := by decide +kernel
theorem dX8_findKeyword_51 : decode cX8_findKeyword 51 = .ok (.ireturn, 1) := by decide +kernel
theorem dX8_findKeyword_52 : decode cX8_findKeyword 52 = .ok (.iinc 1 1, 3) := by decide +kernel
theorem dX8_findKeyword_55 : decode cX8_findKeyword 55 = .ok (.aload_n 0, 1) := by decide +kernel
theorem dX8_findKeyword_56 : decode cX8_findKeyword 56 = .ok (.getfield 37, 3) := by decide +kernel
theorem dX8_findKeyword_59 : decode cX8_findKeyword 59 = .ok (.istore_n 2, 1) := by decide +kernel
theorem dX8_findKeyword_60 : decode cX8_findKeyword 60 = .ok (.iconst 1, 1) := by decide +kernel
theorem dX8_findKeyword_61 : decode cX8_findKeyword 61 = .ok (.istore_n 3, 1) := by decide +kernel
theorem dX8_findKeyword_62 : decode cX8_findKeyword 62 = .ok (.goto 34, 3) := by decide +kernel
theorem dX8_findKeyword_65 : decode cX8_findKeyword 65 = .ok (.iload_n 3, 1) := by decide +kernel
theorem dX8_findKeyword_66 : decode cX8_findKeyword 66 = .ok (.ifCond .eq 28, 3) := by decide +kernel
theorem dX8_findKeyword_69 : decode cX8_findKeyword 69 = .ok (.iload_n 2, 1) := by decide +kernel
theorem dX8_findKeyword_70 : decode cX8_findKeyword 70 = .ok (.aload_n 0, 1) := by decide +kernel
theorem dX8_findKeyword_71 : decode cX8_findKeyword 71 = .ok (.getfield 25, 3) := by decide +kernel
theorem dX8_findKeyword_74 : decode cX8_findKeyword 74 = .ok (.if_icmp .ge 20, 3) := by decide +kernel
theorem dX8_findKeyword_77 : decode cX8_findKeyword 77 = .ok (.aload_n 0, 1) := by decide +kernel
theorem dX8_findKeyword_78 : decode cX8_findKeyword 78 = .ok (.getfield 9, 3) := by decide +kernel
theorem dX8_findKeyword_81 : decode cX8_findKeyword 81 = .ok (.iload_n 2, 1) := by decide +kernel
theorem dX8_findKeyword_82 : decode cX8_findKeyword 82 = .ok (.baload, 1) := by decide +kernel
theorem dX8_findKeyword_83 : decode cX8_findKeyword 83 = .ok (.iload 5, 2) := by decide +kernel
theorem dX8_findKeyword_85 : decode cX8_findKeyword 85 = .ok (.if_icmp .ne 9, 3) := by decide +kernel
theorem dX8_findKeyword_88 : decode cX8_findKeyword 88 = .ok (.iinc 2 1, 3) := by decide +kernel
theorem dX8_findKeyword_91 : decode cX8_findKeyword 91 = .ok (.goto 5, 3) := by decide +kernel
theorem dX8_findKeyword_94 : decode cX8_findKeyword 94 = .ok (.iconst 0, 1) := by decide +kernel
theorem dX8_findKeyword_95 : decode cX8_findKeyword 95 = .ok (.istore_n 3, 1) := by decide +kernel
theorem dX8_findKeyword_96 : decode cX8_findKeyword 96 = .ok (.iinc 4 1, 3) := by decide +kernel
theorem dX8_findKeyword_99 : decode cX8_findKeyword 99 = .ok (.goto (-87), 3) := by decide +kernel
theorem dX8_findKeyword_102 : decode cX8_findKeyword 102 = .ok (.iconst (-1), 1) := by decide +kernel
theorem dX8_findKeyword_103 : decode cX8_findKeyword 103 = .ok (.ireturn, 1) := by decide +kernel
set_option maxRecDepth 100000 in
def f_X8_findKeyword_96 (k12 : Nat → Int32 → Int32 → Int32 → Int32 → dtM → Option (Int32 × dtM)) (l0 : Nat) (l1 : Int32) (l2 : Int32) (l3 : Int32) (l4 : Int32) (μ : dtM) : Option (Int32 × dtM) :=
  k12 l0 l1 l2 l3 (l4 + 1) μ
set_option maxRecDepth 100000 in
def f_X8_findKeyword_94 (k12 : Nat → Int32 → Int32 → Int32 → Int32 → dtM → Option (Int32 × dtM)) (l0 : Nat) (l1 : Int32) (l2 : Int32) (l4 : Int32) (μ : dtM) : Option (Int32 × dtM) :=
  f_X8_findKeyword_96 k12 l0 l1 l2 (0 : Int32) l4 μ
set_option maxRecDepth 100000 in
def f_X8_findKeyword_52 (k12 : Nat → Int32 → Int32 → Int32 → Int32 → dtM → Option (Int32 × dtM)) (l0 : Nat) (l1 : Int32) (l4 : Int32) (μ : dtM) : Option (Int32 × dtM) :=
  (opGI 8 2 μ l0).bind fun x1 => f_X8_findKeyword_96 k12 l0 (l1 + 1) x1 (1 : Int32) l4 μ
set_option maxRecDepth 100000 in
def f_X8_findKeyword_12 : Nat → Nat → Int32 → Int32 → Int32 → Int32 → dtM → Option (Int32 × dtM)
  | 0, _, _, _, _, _, _ => none
  | n + 1, l0, l1, l2, l3, l4, μ =>
    (opLen 1000002).bind fun x1 => if x1 ≤ l4 then (some ((-1 : Int32), μ)) else ((opChar 1000002 l4).bind fun x6 => if x6 = (32 : Int32) then (if l3 = 0 then (f_X8_findKeyword_52 (f_X8_findKeyword_12 n) l0 l1 l4 μ) else ((opGI 8 3 μ l0).bind fun x29 => if l2 = x29 then (some (l1, μ)) else (f_X8_findKeyword_52 (f_X8_findKeyword_12 n) l0 l1 l4 μ))) else (if l3 = 0 then (f_X8_findKeyword_94 (f_X8_findKeyword_12 n) l0 l1 l2 l4 μ) else ((opGI 8 3 μ l0).bind fun x14 => if x14 ≤ l2 then (f_X8_findKeyword_94 (f_X8_findKeyword_12 n) l0 l1 l2 l4 μ) else ((opGR 8 0 μ l0).bind fun x19 => (opLI 2 μ x19 l2).bind fun x21 => if x21 = x6 then (f_X8_findKeyword_96 (f_X8_findKeyword_12 n) l0 l1 (l2 + 1) l3 l4 μ) else (f_X8_findKeyword_94 (f_X8_findKeyword_12 n) l0 l1 l2 l4 μ)))))
set_option maxRecDepth 100000 in
def f_X8_findKeyword (p0 : Nat) (μ : dtM) : Option (Int32 × dtM) :=
  (opGI 8 2 μ p0).bind fun x1 => f_X8_findKeyword_12 dtFuel p0 (0 : Int32) x1 (1 : Int32) (0 : Int32) μ
set_option maxRecDepth 100000 in
theorem c_X8_findKeyword_96 {r : Int32} {F : dtM} (k12 : Nat → Int32 → Int32 → Int32 → Int32 → dtM → Option (Int32 × dtM)) (hk12 : ∀ (l0 : Nat) (l1 : Int32) (l2 : Int32) (l3 : Int32) (l4 : Int32) (μ : dtM), k12 l0 l1 l2 l3 l4 μ = some (r, F) → dtW yX8_findKeyword cX8_findKeyword 6 (some .int) 6 (some (.int r)) F 12 [some (.ref l0), some (.int l1), some (.int l2), some (.int l3), some (.int l4)] [] μ) (l0 : Nat) (l1 : Int32) (l2 : Int32) (l3 : Int32) (l4 : Int32) (μ : dtM) (h : f_X8_findKeyword_96 k12 l0 l1 l2 l3 l4 μ = some (r, F)) : dtW yX8_findKeyword cX8_findKeyword 6 (some .int) 6 (some (.int r)) F 96 [some (.ref l0), some (.int l1), some (.int l2), some (.int l3), some (.int l4)] [] μ := by
  rw [f_X8_findKeyword_96] at h
  refine dr_iinc l4 (l4 + 1) [some (.ref l0), some (.int l1), some (.int l2), some (.int l3), some (.int (l4 + 1))] dX8_findKeyword_96 rfl rfl rfl rfl rfl ?_
  refine dr_goto 12 dX8_findKeyword_99 (by decide) ?_
  exact hk12 l0 l1 l2 l3 (l4 + 1) μ h
set_option maxRecDepth 100000 in
theorem c_X8_findKeyword_94 {r : Int32} {F : dtM} (k12 : Nat → Int32 → Int32 → Int32 → Int32 → dtM → Option (Int32 × dtM)) (hk12 : ∀ (l0 : Nat) (l1 : Int32) (l2 : Int32) (l3 : Int32) (l4 : Int32) (μ : dtM), k12 l0 l1 l2 l3 l4 μ = some (r, F) → dtW yX8_findKeyword cX8_findKeyword 6 (some .int) 6 (some (.int r)) F 12 [some (.ref l0), some (.int l1), some (.int l2), some (.int l3), some (.int l4)] [] μ) (l0 : Nat) (l1 : Int32) (l2 : Int32) (l4 : Int32) (μ : dtM) (h : f_X8_findKeyword_94 k12 l0 l1 l2 l4 μ = some (r, F)) : dtW yX8_findKeyword cX8_findKeyword 6 (some .int) 6 (some (.int r)) F 94 [some (.ref l0), some (.int l1), some (.int l2), none, some (.int l4)] [] μ := by
  rw [f_X8_findKeyword_94] at h
  refine dr_iconst (0 : Int32) dX8_findKeyword_94 (by decide) ?_
  refine dr_istore_n 3 [some (.ref l0), some (.int l1), some (.int l2), some (.int (0 : Int32)), some (.int l4)] dX8_findKeyword_95 rfl rfl rfl rfl ?_
  exact c_X8_findKeyword_96 k12 hk12 l0 l1 l2 (0 : Int32) l4 μ h
set_option maxRecDepth 100000 in
theorem c_X8_findKeyword_52 {r : Int32} {F : dtM} (k12 : Nat → Int32 → Int32 → Int32 → Int32 → dtM → Option (Int32 × dtM)) (hk12 : ∀ (l0 : Nat) (l1 : Int32) (l2 : Int32) (l3 : Int32) (l4 : Int32) (μ : dtM), k12 l0 l1 l2 l3 l4 μ = some (r, F) → dtW yX8_findKeyword cX8_findKeyword 6 (some .int) 6 (some (.int r)) F 12 [some (.ref l0), some (.int l1), some (.int l2), some (.int l3), some (.int l4)] [] μ) (l0 : Nat) (l1 : Int32) (l4 : Int32) (μ : dtM) (h : f_X8_findKeyword_52 k12 l0 l1 l4 μ = some (r, F)) : dtW yX8_findKeyword cX8_findKeyword 6 (some .int) 6 (some (.int r)) F 52 [some (.ref l0), some (.int l1), none, none, some (.int l4)] [] μ := by
  rw [f_X8_findKeyword_52] at h
  refine dr_iinc l1 (l1 + 1) [some (.ref l0), some (.int (l1 + 1)), none, none, some (.int l4)] dX8_findKeyword_52 rfl rfl rfl rfl rfl ?_
  refine dr_aload_n l0 dX8_findKeyword_55 rfl ?_
  obtain ⟨x1, e2, h⟩ := dtBind h
  refine dr_getI x1 dX8_findKeyword_56 fl_RX8_37 e2 ?_
  refine dr_istore_n 2 [some (.ref l0), some (.int (l1 + 1)), some (.int x1), none, some (.int l4)] dX8_findKeyword_59 rfl rfl rfl rfl ?_
  refine dr_iconst (1 : Int32) dX8_findKeyword_60 (by decide) ?_
  refine dr_istore_n 3 [some (.ref l0), some (.int (l1 + 1)), some (.int x1), some (.int (1 : Int32)), some (.int l4)] dX8_findKeyword_61 rfl rfl rfl rfl ?_
  refine dr_goto 96 dX8_findKeyword_62 (by decide) ?_
  exact c_X8_findKeyword_96 k12 hk12 l0 (l1 + 1) x1 (1 : Int32) l4 μ h
set_option maxRecDepth 100000 in
theorem c_X8_findKeyword_12 {r : Int32} {F : dtM} : ∀ (n : Nat) (l0 : Nat) (l1 : Int32) (l2 : Int32) (l3 : Int32) (l4 : Int32) (μ : dtM), f_X8_findKeyword_12 n l0 l1 l2 l3 l4 μ = some (r, F) → dtW yX8_findKeyword cX8_findKeyword 6 (some .int) 6 (some (.int r)) F 12 [some (.ref l0), some (.int l1), some (.int l2), some (.int l3), some (.int l4)] [] μ := by
  intro n
  induction n with
  | zero => intro l0 l1 l2 l3 l4 μ h; cases h
  | succ n ih =>
    intro l0 l1 l2 l3 l4 μ h
    have h := (show f_X8_findKeyword_12 (n + 1) l0 l1 l2 l3 l4 μ = some _ from h)
    rw [f_X8_findKeyword_12] at h
    refine dr_iload l4 dX8_findKeyword_12 rfl ?_
    refine dr_ldcS0 dX8_findKeyword_14 rfl ?_
    obtain ⟨x1, e2, h⟩ := dtBind h
    refine dr_strlength x1 dX8_findKeyword_16 wt_563 e2 (Nat.le_of_ble_eq_true rfl) rfl ?_
    obtain ⟨ht4, hf5⟩ := dtIte h
    refine dr_icmp_ge 102 dX8_findKeyword_19 (by decide) (fun hc3 => ?_) (fun hc3 => ?_)
    · have h := ht4 hc3
      refine dr_iconst (-1 : Int32) dX8_findKeyword_102 (by decide) ?_
      cases h
      exact dr_ireturn dX8_findKeyword_103 rfl
    · have h := hf5 hc3
      refine dr_ldcS0 dX8_findKeyword_22 rfl ?_
      refine dr_iload l4 dX8_findKeyword_24 rfl ?_
      obtain ⟨x6, e7, h⟩ := dtBind h
      refine dr_strcharAt x6 dX8_findKeyword_26 wt_573 e7 (Nat.le_of_ble_eq_true rfl) rfl ?_
      refine dr_istore [some (.ref l0), some (.int l1), some (.int l2), some (.int l3), some (.int l4), some (.int x6)] dX8_findKeyword_29 rfl rfl rfl ?_
      refine dr_iload x6 dX8_findKeyword_31 rfl ?_
      refine dr_bipush (32 : Int32) dX8_findKeyword_33 (by decide) ?_
      obtain ⟨ht9, hf10⟩ := dtIte h
      refine dr_icmp_ne 65 dX8_findKeyword_35 (by decide) (fun hc8 => ?_) (fun hc8 => ?_)
      · have h := hf10 hc8
        refine dr_iload_n l3 dX8_findKeyword_65 rfl ?_
        obtain ⟨ht12, hf13⟩ := dtIte h
        refine dr_if_eq 94 dX8_findKeyword_66 (by decide) (fun hc11 => ?_) (fun hc11 => ?_)
        · have h := ht12 hc11
          refine dr_mask [true, true, true, false, true] [some (.ref l0), some (.int l1), some (.int l2), none, some (.int l4)] rfl ?_
          exact c_X8_findKeyword_94 (f_X8_findKeyword_12 n) ih l0 l1 l2 l4 μ h
        · have h := hf13 hc11
          refine dr_iload_n l2 dX8_findKeyword_69 rfl ?_
          refine dr_aload_n l0 dX8_findKeyword_70 rfl ?_
          obtain ⟨x14, e15, h⟩ := dtBind h
          refine dr_getI x14 dX8_findKeyword_71 fl_RX8_25 e15 ?_
          obtain ⟨ht17, hf18⟩ := dtIte h
          refine dr_icmp_ge 94 dX8_findKeyword_74 (by decide) (fun hc16 => ?_) (fun hc16 => ?_)
          · have h := ht17 hc16
            refine dr_mask [true, true, true, false, true] [some (.ref l0), some (.int l1), some (.int l2), none, some (.int l4)] rfl ?_
            exact c_X8_findKeyword_94 (f_X8_findKeyword_12 n) ih l0 l1 l2 l4 μ h
          · have h := hf18 hc16
            refine dr_aload_n l0 dX8_findKeyword_77 rfl ?_
            obtain ⟨x19, e20, h⟩ := dtBind h
            refine dr_getR x19 dX8_findKeyword_78 fl_RX8_9 e20 ?_
            refine dr_iload_n l2 dX8_findKeyword_81 rfl ?_
            obtain ⟨x21, e22, h⟩ := dtBind h
            refine dr_baload x21 dX8_findKeyword_82 e22 ?_
            refine dr_iload x6 dX8_findKeyword_83 rfl ?_
            obtain ⟨ht24, hf25⟩ := dtIte h
            refine dr_icmp_ne 94 dX8_findKeyword_85 (by decide) (fun hc23 => ?_) (fun hc23 => ?_)
            · have h := hf25 hc23
              refine dr_mask [true, true, true, false, true] [some (.ref l0), some (.int l1), some (.int l2), none, some (.int l4)] rfl ?_
              exact c_X8_findKeyword_94 (f_X8_findKeyword_12 n) ih l0 l1 l2 l4 μ h
            · have h := ht24 hc23
              refine dr_iinc l2 (l2 + 1) [some (.ref l0), some (.int l1), some (.int (l2 + 1)), some (.int l3), some (.int l4), some (.int x6)] dX8_findKeyword_88 rfl rfl rfl rfl rfl ?_
              refine dr_goto 96 dX8_findKeyword_91 (by decide) ?_
              refine dr_mask [true, true, true, true, true] [some (.ref l0), some (.int l1), some (.int (l2 + 1)), some (.int l3), some (.int l4)] rfl ?_
              exact c_X8_findKeyword_96 (f_X8_findKeyword_12 n) ih l0 l1 (l2 + 1) l3 l4 μ h
      · have h := ht9 hc8
        refine dr_iload_n l3 dX8_findKeyword_38 rfl ?_
        obtain ⟨ht27, hf28⟩ := dtIte h
        refine dr_if_eq 52 dX8_findKeyword_39 (by decide) (fun hc26 => ?_) (fun hc26 => ?_)
        · have h := ht27 hc26
          refine dr_mask [true, true, false, false, true] [some (.ref l0), some (.int l1), none, none, some (.int l4)] rfl ?_
          exact c_X8_findKeyword_52 (f_X8_findKeyword_12 n) ih l0 l1 l4 μ h
        · have h := hf28 hc26
          refine dr_iload_n l2 dX8_findKeyword_42 rfl ?_
          refine dr_aload_n l0 dX8_findKeyword_43 rfl ?_
          obtain ⟨x29, e30, h⟩ := dtBind h
          refine dr_getI x29 dX8_findKeyword_44 fl_RX8_25 e30 ?_
          obtain ⟨ht32, hf33⟩ := dtIte h
          refine dr_icmp_ne 52 dX8_findKeyword_47 (by decide) (fun hc31 => ?_) (fun hc31 => ?_)
          · have h := hf33 hc31
            refine dr_mask [true, true, false, false, true] [some (.ref l0), some (.int l1), none, none, some (.int l4)] rfl ?_
            exact c_X8_findKeyword_52 (f_X8_findKeyword_12 n) ih l0 l1 l4 μ h
          · have h := ht32 hc31
            refine dr_iload_n l1 dX8_findKeyword_50 rfl ?_
            cases h
            exact dr_ireturn dX8_findKeyword_51 rfl
set_option maxRecDepth 100000 in
theorem c_X8_findKeyword {r : Int32} {F : dtM} (p0 : Nat) (μ : dtM) (h : f_X8_findKeyword p0 μ = some (r, F)) : dtMet yX8_findKeyword cX8_findKeyword 6 (some .int) 6 [.ref p0] μ (some (.int r)) F := by
  refine dtMet.of (by decide +kernel) (Nat.le_of_ble_eq_true rfl) (show dtW yX8_findKeyword cX8_findKeyword 6 (some .int) 6 (some (.int r)) F 0 [some (.ref p0)] [] μ from ?_)
  rw [f_X8_findKeyword] at h
  refine dr_iconst (0 : Int32) dX8_findKeyword_0 (by decide) ?_
  refine dr_istore_n 1 [some (.ref p0), some (.int (0 : Int32))] dX8_findKeyword_1 rfl rfl rfl rfl ?_
  refine dr_aload_n p0 dX8_findKeyword_2 rfl ?_
  obtain ⟨x1, e2, h⟩ := dtBind h
  refine dr_getI x1 dX8_findKeyword_3 fl_RX8_37 e2 ?_
  refine dr_istore_n 2 [some (.ref p0), some (.int (0 : Int32)), some (.int x1)] dX8_findKeyword_6 rfl rfl rfl rfl ?_
  refine dr_iconst (1 : Int32) dX8_findKeyword_7 (by decide) ?_
  refine dr_istore_n 3 [some (.ref p0), some (.int (0 : Int32)), some (.int x1), some (.int (1 : Int32))] dX8_findKeyword_8 rfl rfl rfl rfl ?_
  refine dr_iconst (0 : Int32) dX8_findKeyword_9 (by decide) ?_
  refine dr_istore [some (.ref p0), some (.int (0 : Int32)), some (.int x1), some (.int (1 : Int32)), some (.int (0 : Int32))] dX8_findKeyword_10 rfl rfl rfl ?_
  exact c_X8_findKeyword_12 dtFuel p0 (0 : Int32) x1 (1 : Int32) (0 : Int32) μ h
/-! X8_isRunOf -/
theorem dX8_isRunOf_0 : decode cX8_isRunOf 0 = .ok (.aload_n 0, 1) := by decide +kernel
theorem dX8_isRunOf_1 : decode cX8_isRunOf 1 = .ok (.getfield 25, 3) := by decide +kernel
theorem dX8_isRunOf_4 : decode cX8_isRunOf 4 = .ok (.aload_n 0, 1) := by decide +kernel
theorem dX8_isRunOf_5 : decode cX8_isRunOf 5 = .ok (.getfield 21, 3) := by decide +kernel
theorem dX8_isRunOf_8 : decode cX8_isRunOf 8 = .ok (.if_icmp .ge 42, 3) := by decide +kernel
theorem dX8_isRunOf_11 : decode cX8_isRunOf 11 = .ok (.aload_n 0, 1) := by decide +kernel
theorem dX8_isRunOf_12 : decode cX8_isRunOf 12 = .ok (.getfield 9, 3) := by decide +kernel
theorem dX8_isRunOf_15 : decode cX8_isRunOf 15 = .ok (.aload_n 0, 1) := by decide +kernel
theorem dX8_isRunOf_16 : decode cX8_isRunOf 16 = .ok (.getfield 25, 3) := by decide +kernel
theorem dX8_isRunOf_19 : decode cX8_isRunOf 19 = .ok (.baload, 1) := by decide +kernel
theorem dX8_isRunOf_20 : decode cX8_isRunOf 20 = .ok (.iload_n 1, 1) := by decide +kernel
theorem dX8_isRunOf_21 : decode cX8_isRunOf 21 = .ok (.if_icmp .lt 29, 3) := by decide +kernel
theorem dX8_isRunOf_24 : decode cX8_isRunOf 24 = .ok (.aload_n 0, 1) := by decide +kernel
theorem dX8_isRunOf_25 : decode cX8_isRunOf 25 = .ok (.getfield 9, 3) := by decide +kernel
theorem dX8_isRunOf_28 : decode cX8_isRunOf 28 = .ok (.aload_n 0, 1) := by decide +kernel
theorem dX8_isRunOf_29 : decode cX8_isRunOf 29 = .ok (.getfield 25, 3) := by decide +kernel
theorem dX8_isRunOf_32 : decode cX8_isRunOf 32 = .ok (.baload, 1) := by decide +kernel
theorem dX8_isRunOf_33 : decode cX8_isRunOf 33 = .ok (.iload_n 2, 1) := by decide +kernel
theorem dX8_isRunOf_34 : decode cX8_isRunOf 34 = .ok (.if_icmp .gt 16, 3) := by decide +kernel
theorem dX8_isRunOf_37 : decode cX8_isRunOf 37 = .ok (.aload_n 0, 1) := by decide +kernel
theorem dX8_isRunOf_38 : decode cX8_isRunOf 38 = .ok (.dup, 1) := by decide +kernel
theorem dX8_isRunOf_39 : decode cX8_isRunOf 39 = .ok (.getfield 25, 3) := by decide +kernel
theorem dX8_isRunOf_42 : decode cX8_isRunOf 42 = .ok (.iconst 1, 1) := by decide +kernel
theorem dX8_isRunOf_43 : decode cX8_isRunOf 43 = .ok (.iadd, 1) := by decide +kernel
theorem dX8_isRunOf_44 : decode cX8_isRunOf 44 = .ok (.putfield 25, 3) := by decide +kernel
theorem dX8_isRunOf_47 : decode cX8_isRunOf 47 = .ok (.goto (-47), 3) := by decide +kernel
theorem dX8_isRunOf_50 : decode cX8_isRunOf 50 = .ok (.aload_n 0, 1) := by decide +kernel
theorem dX8_isRunOf_51 : decode cX8_isRunOf 51 = .ok (.getfield 25, 3) := by decide +kernel
theorem dX8_isRunOf_54 : decode cX8_isRunOf 54 = .ok (.aload_n 0, 1) := by decide +kernel
theorem dX8_isRunOf_55 : decode cX8_isRunOf 55 = .ok (.getfield 37, 3) := by decide +kernel
theorem dX8_isRunOf_58 : decode cX8_isRunOf 58 = .ok (.if_icmp .le 7, 3) := by decide +kernel
theorem dX8_isRunOf_61 : decode cX8_isRunOf 61 = .ok (.iconst 1, 1) := by decide +kernel
theorem dX8_isRunOf_62 : decode cX8_isRunOf 62 = .ok (.goto 4, 3) := by decide +kernel
theorem dX8_isRunOf_65 : decode cX8_isRunOf 65 = .ok (.iconst 0, 1) := by decide +kernel
theorem dX8_isRunOf_66 : decode cX8_isRunOf 66 = .ok (.ireturn, 1) := by decide +kernel
set_option maxRecDepth 100000 in
def f_X8_isRunOf_66 (s0 : Int32) (μ : dtM) : Option (Int32 × dtM) :=
  opRet s0 μ
set_option maxRecDepth 100000 in
def f_X8_isRunOf_50 (l0 : Nat) (μ : dtM) : Option (Int32 × dtM) :=
  (opGI 8 3 μ l0).bind fun x1 => (opGI 8 2 μ l0).bind fun x3 => if x1 ≤ x3 then (f_X8_isRunOf_66 (0 : Int32) μ) else (f_X8_isRunOf_66 (1 : Int32) μ)
set_option maxRecDepth 100000 in
def f_X8_isRunOf_0 : Nat → Nat → Int32 → Int32 → dtM → Option (Int32 × dtM)
  | 0, _, _, _, _ => none
  | n + 1, l0, l1, l2, μ =>
    (opGI 8 3 μ l0).bind fun x1 => (opGI 8 1 μ l0).bind fun x3 => if x3 ≤ x1 then (f_X8_isRunOf_50 l0 μ) else ((opGR 8 0 μ l0).bind fun x8 => (opGI 8 3 μ l0).bind fun x10 => (opLI 2 μ x8 x10).bind fun x12 => if x12 < l1 then (f_X8_isRunOf_50 l0 μ) else ((opGR 8 0 μ l0).bind fun x17 => (opGI 8 3 μ l0).bind fun x19 => (opLI 2 μ x17 x19).bind fun x21 => if l2 < x21 then (f_X8_isRunOf_50 l0 μ) else ((opGI 8 3 μ l0).bind fun x26 => (opPI 8 3 μ l0 (x26 + (1 : Int32))).bind fun μ28 => f_X8_isRunOf_0 n l0 l1 l2 μ28)))
set_option maxRecDepth 100000 in
def f_X8_isRunOf (p0 : Nat) (p1 : Int32) (p2 : Int32) (μ : dtM) : Option (Int32 × dtM) :=
  f_X8_isRunOf_0 dtFuel p0 p1 p2 μ
set_option maxRecDepth 100000 in
theorem c_X8_isRunOf_66 {r : Int32} {F : dtM} (s0 : Int32) (μ : dtM) (h : f_X8_isRunOf_66 s0 μ = some (r, F)) : dtW yX8_isRunOf cX8_isRunOf 3 (some .boolean) 1 (some (.int r)) F 66 [] [.int s0] μ := by
  rw [f_X8_isRunOf_66] at h
  obtain ⟨hz, rfl, rfl⟩ := dtRet h
  exact dr_ireturn dX8_isRunOf_66 (dtNz hz)
set_option maxRecDepth 100000 in
theorem c_X8_isRunOf_50 {r : Int32} {F : dtM} (l0 : Nat) (μ : dtM) (h : f_X8_isRunOf_50 l0 μ = some (r, F)) : dtW yX8_isRunOf cX8_isRunOf 3 (some .boolean) 1 (some (.int r)) F 50 [some (.ref l0)] [] μ := by
  rw [f_X8_isRunOf_50] at h
  refine dr_aload_n l0 dX8_isRunOf_50 rfl ?_
  obtain ⟨x1, e2, h⟩ := dtBind h
  refine dr_getI x1 dX8_isRunOf_51 fl_RX8_25 e2 ?_
  refine dr_aload_n l0 dX8_isRunOf_54 rfl ?_
  obtain ⟨x3, e4, h⟩ := dtBind h
  refine dr_getI x3 dX8_isRunOf_55 fl_RX8_37 e4 ?_
  obtain ⟨ht6, hf7⟩ := dtIte h
  refine dr_icmp_le 65 dX8_isRunOf_58 (by decide) (fun hc5 => ?_) (fun hc5 => ?_)
  · have h := ht6 hc5
    refine dr_iconst (0 : Int32) dX8_isRunOf_65 (by decide) ?_
    refine dr_mask [] [] rfl ?_
    exact c_X8_isRunOf_66 (0 : Int32) μ h
  · have h := hf7 hc5
    refine dr_iconst (1 : Int32) dX8_isRunOf_61 (by decide) ?_
    refine dr_goto 66 dX8_isRunOf_62 (by decide) ?_
    refine dr_mask [] [] rfl ?_
    exact c_X8_isRunOf_66 (1 : Int32) μ h
set_option maxRecDepth 100000 in
theorem c_X8_isRunOf_0 {r : Int32} {F : dtM} : ∀ (n : Nat) (l0 : Nat) (l1 : Int32) (l2 : Int32) (μ : dtM), f_X8_isRunOf_0 n l0 l1 l2 μ = some (r, F) → dtW yX8_isRunOf cX8_isRunOf 3 (some .boolean) 1 (some (.int r)) F 0 [some (.ref l0), some (.int l1), some (.int l2)] [] μ := by
  intro n
  induction n with
  | zero => intro l0 l1 l2 μ h; cases h
  | succ n ih =>
    intro l0 l1 l2 μ h
    have h := (show f_X8_isRunOf_0 (n + 1) l0 l1 l2 μ = some _ from h)
    rw [f_X8_isRunOf_0] at h
    refine dr_aload_n l0 dX8_isRunOf_0 rfl ?_
    obtain ⟨x1, e2, h⟩ := dtBind h
    refine dr_getI x1 dX8_isRunOf_1 fl_RX8_25 e2 ?_
    refine dr_aload_n l0 dX8_isRunOf_4 rfl ?_
    obtain ⟨x3, e4, h⟩ := dtBind h
    refine dr_getI x3 dX8_isRunOf_5 fl_RX8_21 e4 ?_
    obtain ⟨ht6, hf7⟩ := dtIte h
    refine dr_icmp_ge 50 dX8_isRunOf_8 (by decide) (fun hc5 => ?_) (fun hc5 => ?_)
    · have h := ht6 hc5
      refine dr_mask [true] [some (.ref l0)] rfl ?_
      exact c_X8_isRunOf_50 l0 μ h
    · have h := hf7 hc5
      refine dr_aload_n l0 dX8_isRunOf_11 rfl ?_
      obtain ⟨x8, e9, h⟩ := dtBind h
      refine dr_getR x8 dX8_isRunOf_12 fl_RX8_9 e9 ?_
      refine dr_aload_n l0 dX8_isRunOf_15 rfl ?_
      obtain ⟨x10, e11, h⟩ := dtBind h
      refine dr_getI x10 dX8_isRunOf_16 fl_RX8_25 e11 ?_
      obtain ⟨x12, e13, h⟩ := dtBind h
      refine dr_baload x12 dX8_isRunOf_19 e13 ?_
      refine dr_iload_n l1 dX8_isRunOf_20 rfl ?_
      obtain ⟨ht15, hf16⟩ := dtIte h
      refine dr_icmp_lt 50 dX8_isRunOf_21 (by decide) (fun hc14 => ?_) (fun hc14 => ?_)
      · have h := ht15 hc14
        refine dr_mask [true] [some (.ref l0)] rfl ?_
        exact c_X8_isRunOf_50 l0 μ h
      · have h := hf16 hc14
        refine dr_aload_n l0 dX8_isRunOf_24 rfl ?_
        obtain ⟨x17, e18, h⟩ := dtBind h
        refine dr_getR x17 dX8_isRunOf_25 fl_RX8_9 e18 ?_
        refine dr_aload_n l0 dX8_isRunOf_28 rfl ?_
        obtain ⟨x19, e20, h⟩ := dtBind h
        refine dr_getI x19 dX8_isRunOf_29 fl_RX8_25 e20 ?_
        obtain ⟨x21, e22, h⟩ := dtBind h
        refine dr_baload x21 dX8_isRunOf_32 e22 ?_
        refine dr_iload_n l2 dX8_isRunOf_33 rfl ?_
        obtain ⟨ht24, hf25⟩ := dtIte h
        refine dr_icmp_gt 50 dX8_isRunOf_34 (by decide) (fun hc23 => ?_) (fun hc23 => ?_)
        · have h := ht24 hc23
          refine dr_mask [true] [some (.ref l0)] rfl ?_
          exact c_X8_isRunOf_50 l0 μ h
        · have h := hf25 hc23
          refine dr_aload_n l0 dX8_isRunOf_37 rfl ?_
          refine dr_dup dX8_isRunOf_38 rfl ?_
          obtain ⟨x26, e27, h⟩ := dtBind h
          refine dr_getI x26 dX8_isRunOf_39 fl_RX8_25 e27 ?_
          refine dr_iconst (1 : Int32) dX8_isRunOf_42 (by decide) ?_
          refine dr_iadd dX8_isRunOf_43 ?_
          obtain ⟨μ28, e29, h⟩ := dtBind h
          refine dr_putI μ28 dX8_isRunOf_44 fl_RX8_25 rfl e29 ?_
          refine dr_goto 0 dX8_isRunOf_47 (by decide) ?_
          exact ih l0 l1 l2 μ28 h
set_option maxRecDepth 100000 in
theorem c_X8_isRunOf {r : Int32} {F : dtM} (p0 : Nat) (p1 : Int32) (p2 : Int32) (μ : dtM) (h : f_X8_isRunOf p0 p1 p2 μ = some (r, F)) : dtMet yX8_isRunOf cX8_isRunOf 3 (some .boolean) 1 [.ref p0, .int p1, .int p2] μ (some (.int r)) F := by
  refine dtMet.of (by decide +kernel) (Nat.le_of_ble_eq_true rfl) (show dtW yX8_isRunOf cX8_isRunOf 3 (some .boolean) 1 (some (.int r)) F 0 [some (.ref p0), some (.int p1), some (.int p2)] [] μ from ?_)
  rw [f_X8_isRunOf] at h
  exact c_X8_isRunOf_0 dtFuel p0 p1 p2 μ h
/-! X8_nameCode -/
theorem dX8_nameCode_0 : decode cX8_nameCode 0 = .ok (.aload_n 0, 1) := by decide +kernel
theorem dX8_nameCode_1 : decode cX8_nameCode 1 = .ok (.getfield 25, 3) := by decide +kernel
theorem dX8_nameCode_4 : decode cX8_nameCode 4 = .ok (.aload_n 0, 1) := by decide +kernel
theorem dX8_nameCode_5 : decode cX8_nameCode 5 = .ok (.getfield 37, 3) := by decide +kernel
theorem dX8_nameCode_8 : decode cX8_nameCode 8 = .ok (.isub, 1) := by decide +kernel
theorem dX8_nameCode_9 : decode cX8_nameCode 9 = .ok (.bipush 8, 2) := by decide +kernel
theorem dX8_nameCode_11 : decode cX8_nameCode 11 = .ok (.if_icmp .le 5, 3) := by decide +kernel
theorem dX8_nameCode_14 : decode cX8_nameCode 14 = .ok (.lconst 0, 1) := by decide +kernel
theorem dX8_nameCode_15 : decode cX8_nameCode 15 = .ok (.lreturn, 1) := by decide +kernel
theorem dX8_nameCode_16 : decode cX8_nameCode 16 = .ok (.lconst 0, 1) := by decide +kernel
theorem dX8_nameCode_17 : decode cX8_nameCode 17 = .ok (.lstore_n 1, 1) := by decide +kernel
theorem dX8_nameCode_18 : decode cX8_nameCode 18 = .ok (.aload_n 0, 1) := by decide +kernel
theorem dX8_nameCode_19 : decode cX8_nameCode 19 = .ok (.getfield 37, 3) := by decide +kernel
theorem dX8_nameCode_22 : decode cX8_nameCode 22 = .ok (.istore_n 3, 1) := by decide +kernel
theorem dX8_nameCode_23 : decode cX8_nameCode 23 = .ok (.iload_n 3, 1) := by decide +kernel
theorem dX8_nameCode_24 : decode cX8_nameCode 24 = .ok (.aload_n 0, 1) := by decide +kernel
theorem dX8_nameCode_25 : decode cX8_nameCode 25 = .ok (.getfield 25, 3) := by decide +kernel
theorem dX8_nameCode_28 : decode cX8_nameCode 28 = .ok (.if_icmp .ge 28, 3) := by decide +kernel
theorem dX8_nameCode_31 : decode cX8_nameCode 31 = .ok (.lload_n 1, 1) := by decide +kernel
theorem dX8_nameCode_32 : decode cX8_nameCode 32 = .ok (.ldc2_w 68, 3) := by decide +kernel
theorem dX8_nameCode_35 : decode cX8_nameCode 35 = .ok (.lmul, 1) := by decide +kernel
theorem dX8_nameCode_36 : decode cX8_nameCode 36 = .ok (.aload_n 0, 1) := by decide +kernel
theorem dX8_nameCode_37 : decode cX8_nameCode 37 = .ok (.getfield 9, 3) := by decide +kernel
theorem dX8_nameCode_40 : decode cX8_nameCode 40 = .ok (.iload_n 3, 1) := by decide +kernel
theorem dX8_nameCode_41 : decode cX8_nameCode 41 = .ok (.baload, 1) := by decide +kernel
theorem dX8_nameCode_42 : decode cX8_nameCode 42 = .ok (.bipush 97, 2) := by decide +kernel
theorem dX8_nameCode_44 : decode cX8_nameCode 44 = .ok (.isub, 1) := by decide +kernel
theorem dX8_nameCode_45 : decode cX8_nameCode 45 = .ok (.iconst 1, 1) := by decide +kernel
theorem dX8_nameCode_46 : decode cX8_nameCode 46 = .ok (.iadd, 1) := by decide +kernel
theorem dX8_nameCode_47 : decode cX8_nameCode 47 = .ok (.i2l, 1) := by decide +kernel
theorem dX8_nameCode_48 : decode cX8_nameCode 48 = .ok (.ladd, 1) := by decide +kernel
theorem dX8_nameCode_49 : decode cX8_nameCode 49 = .ok (.lstore_n 1, 1) := by decide +kernel
theorem dX8_nameCode_50 : decode cX8_nameCode 50 = .ok (.iinc 3 1, 3) := by decide +kernel
theorem dX8_nameCode_53 : decode cX8_nameCode 53 = .ok (.goto (-30), 3) := by decide +kernel
theorem dX8_nameCode_56 : decode cX8_nameCode 56 = .ok (.lload_n 1, 1) := by decide +kernel
theorem dX8_nameCode_57 : decode cX8_nameCode 57 = .ok (.lreturn, 1) := by decide +kernel
set_option maxRecDepth 100000 in
def f_X8_nameCode_23 : Nat → Nat → Int64 → Int32 → dtM → Option (Int64 × dtM)
  | 0, _, _, _, _ => none
  | n + 1, l0, l1, l3, μ =>
    (opGI 8 3 μ l0).bind fun x1 => if x1 ≤ l3 then (some (l1, μ)) else ((opGR 8 0 μ l0).bind fun x6 => (opLI 2 μ x6 l3).bind fun x8 => (some ((l1 * (32 : Int64)) + (((x8 - (97 : Int32)) + (1 : Int32)).toInt64))).bind fun x10 => f_X8_nameCode_23 n l0 x10 (l3 + 1) μ)
set_option maxRecDepth 100000 in
def f_X8_nameCode (p0 : Nat) (μ : dtM) : Option (Int64 × dtM) :=
  (opGI 8 3 μ p0).bind fun x1 => (opGI 8 2 μ p0).bind fun x3 => if (x1 - x3) ≤ (8 : Int32) then ((opGI 8 2 μ p0).bind fun x8 => f_X8_nameCode_23 dtFuel p0 (0 : Int64) x8 μ) else (some ((0 : Int64), μ))
set_option maxRecDepth 100000 in
theorem c_X8_nameCode_23 {r : Int64} {F : dtM} : ∀ (n : Nat) (l0 : Nat) (l1 : Int64) (l3 : Int32) (μ : dtM), f_X8_nameCode_23 n l0 l1 l3 μ = some (r, F) → dtW yX8_nameCode cX8_nameCode 4 (some .long) 1 (some (.long r)) F 23 [some (.ref l0), some (.long l1), none, some (.int l3)] [] μ := by
  intro n
  induction n with
  | zero => intro l0 l1 l3 μ h; cases h
  | succ n ih =>
    intro l0 l1 l3 μ h
    have h := (show f_X8_nameCode_23 (n + 1) l0 l1 l3 μ = some _ from h)
    rw [f_X8_nameCode_23] at h
    refine dr_iload_n l3 dX8_nameCode_23 rfl ?_
    refine dr_aload_n l0 dX8_nameCode_24 rfl ?_
    obtain ⟨x1, e2, h⟩ := dtBind h
    refine dr_getI x1 dX8_nameCode_25 fl_RX8_25 e2 ?_
    obtain ⟨ht4, hf5⟩ := dtIte h
    refine dr_icmp_ge 56 dX8_nameCode_28 (by decide) (fun hc3 => ?_) (fun hc3 => ?_)
    · have h := ht4 hc3
      refine dr_lload_n l1 dX8_nameCode_56 rfl ?_
      cases h
      exact dr_lreturn dX8_nameCode_57
    · have h := hf5 hc3
      refine dr_lload_n l1 dX8_nameCode_31 rfl ?_
      refine dr_ldc2 (32 : Int64) dX8_nameCode_32 wt_615 ?_
      refine dr_lmul dX8_nameCode_35 ?_
      refine dr_aload_n l0 dX8_nameCode_36 rfl ?_
      obtain ⟨x6, e7, h⟩ := dtBind h
      refine dr_getR x6 dX8_nameCode_37 fl_RX8_9 e7 ?_
      refine dr_iload_n l3 dX8_nameCode_40 rfl ?_
      obtain ⟨x8, e9, h⟩ := dtBind h
      refine dr_baload x8 dX8_nameCode_41 e9 ?_
      refine dr_bipush (97 : Int32) dX8_nameCode_42 (by decide) ?_
      refine dr_isub dX8_nameCode_44 ?_
      refine dr_iconst (1 : Int32) dX8_nameCode_45 (by decide) ?_
      refine dr_iadd dX8_nameCode_46 ?_
      refine dr_i2l dX8_nameCode_47 ?_
      refine dr_ladd dX8_nameCode_48 ?_
      obtain ⟨x10, e11, h⟩ := dtBind h
      refine dr_nmj e11 ?_
      refine dr_lstore_n 1 [some (.ref l0), some (.long x10), none, some (.int l3)] dX8_nameCode_49 rfl rfl rfl rfl ?_
      refine dr_iinc l3 (l3 + 1) [some (.ref l0), some (.long x10), none, some (.int (l3 + 1))] dX8_nameCode_50 rfl rfl rfl rfl rfl ?_
      refine dr_goto 23 dX8_nameCode_53 (by decide) ?_
      exact ih l0 x10 (l3 + 1) μ h
set_option maxRecDepth 100000 in
theorem c_X8_nameCode {r : Int64} {F : dtM} (p0 : Nat) (μ : dtM) (h : f_X8_nameCode p0 μ = some (r, F)) : dtMet yX8_nameCode cX8_nameCode 4 (some .long) 1 [.ref p0] μ (some (.long r)) F := by
  refine dtMet.of (by decide +kernel) (Nat.le_of_ble_eq_true rfl) (show dtW yX8_nameCode cX8_nameCode 4 (some .long) 1 (some (.long r)) F 0 [some (.ref p0)] [] μ from ?_)
  rw [f_X8_nameCode] at h
  refine dr_aload_n p0 dX8_nameCode_0 rfl ?_
  obtain ⟨x1, e2, h⟩ := dtBind h
  refine dr_getI x1 dX8_nameCode_1 fl_RX8_25 e2 ?_
  refine dr_aload_n p0 dX8_nameCode_4 rfl ?_
  obtain ⟨x3, e4, h⟩ := dtBind h
  refine dr_getI x3 dX8_nameCode_5 fl_RX8_37 e4 ?_
  refine dr_isub dX8_nameCode_8 ?_
  refine dr_bipush (8 : Int32) dX8_nameCode_9 (by decide) ?_
  obtain ⟨ht6, hf7⟩ := dtIte h
  refine dr_icmp_le 16 dX8_nameCode_11 (by decide) (fun hc5 => ?_) (fun hc5 => ?_)
  · have h := ht6 hc5
    refine dr_lconst (0 : Int64) dX8_nameCode_16 (by decide) ?_
    refine dr_lstore_n 1 [some (.ref p0), some (.long (0 : Int64)), none] dX8_nameCode_17 rfl rfl rfl rfl ?_
    refine dr_aload_n p0 dX8_nameCode_18 rfl ?_
    obtain ⟨x8, e9, h⟩ := dtBind h
    refine dr_getI x8 dX8_nameCode_19 fl_RX8_37 e9 ?_
    refine dr_istore_n 3 [some (.ref p0), some (.long (0 : Int64)), none, some (.int x8)] dX8_nameCode_22 rfl rfl rfl rfl ?_
    exact c_X8_nameCode_23 dtFuel p0 (0 : Int64) x8 μ h
  · have h := hf7 hc5
    refine dr_lconst (0 : Int64) dX8_nameCode_14 (by decide) ?_
    cases h
    exact dr_lreturn dX8_nameCode_15
/-! X8_numberValue -/
theorem dX8_numberValue_0 : decode cX8_numberValue 0 = .ok (.iconst 0, 1) := by decide +kernel
theorem dX8_numberValue_1 : decode cX8_numberValue 1 = .ok (.istore_n 1, 1) := by decide +kernel
theorem dX8_numberValue_2 : decode cX8_numberValue 2 = .ok (.aload_n 0, 1) := by decide +kernel
theorem dX8_numberValue_3 : decode cX8_numberValue 3 = .ok (.getfield 37, 3) := by decide +kernel
theorem dX8_numberValue_6 : decode cX8_numberValue 6 = .ok (.istore_n 2, 1) := by decide +kernel
theorem dX8_numberValue_7 : decode cX8_numberValue 7 = .ok (.iload_n 2, 1) := by decide +kernel
theorem dX8_numberValue_8 : decode cX8_numberValue 8 = .ok (.aload_n 0, 1) := by decide +kernel
theorem dX8_numberValue_9 : decode cX8_numberValue 9 = .ok (.getfield 25, 3) := by decide +kernel
theorem dX8_numberValue_12 : decode cX8_numberValue 12 = .ok (.if_icmp .ge 24, 3) := by decide +kernel
theorem dX8_numberValue_15 : decode cX8_numberValue 15 = .ok (.iload_n 1, 1) := by decide +kernel
theorem dX8_numberValue_16 : decode cX8_numberValue 16 = .ok (.bipush 10, 2) := by decide +kernel
theorem dX8_numberValue_18 : decode cX8_numberValue 18 = .ok (.imul, 1) := by decide +kernel
theorem dX8_numberValue_19 : decode cX8_numberValue 19 = .ok (.aload_n 0, 1) := by decide +kernel
theorem dX8_numberValue_20 : decode cX8_numberValue 20 = .ok (.getfield 9, 3) := by decide +kernel
theorem dX8_numberValue_23 : decode cX8_numberValue 23 = .ok (.iload_n 2, 1) := by decide +kernel
theorem dX8_numberValue_24 : decode cX8_numberValue 24 = .ok (.baload, 1) := by decide +kernel
theorem dX8_numberValue_25 : decode cX8_numberValue 25 = .ok (.bipush 48, 2) := by decide +kernel
theorem dX8_numberValue_27 : decode cX8_numberValue 27 = .ok (.isub, 1) := by decide +kernel
theorem dX8_numberValue_28 : decode cX8_numberValue 28 = .ok (.iadd, 1) := by decide +kernel
theorem dX8_numberValue_29 : decode cX8_numberValue 29 = .ok (.istore_n 1, 1) := by decide +kernel
theorem dX8_numberValue_30 : decode cX8_numberValue 30 = .ok (.iinc 2 1, 3) := by decide +kernel
theorem dX8_numberValue_33 : decode cX8_numberValue 33 = .ok (.goto (-26), 3) := by decide +kernel
theorem dX8_numberValue_36 : decode cX8_numberValue 36 = .ok (.iload_n 1, 1) := by decide +kernel
theorem dX8_numberValue_37 : decode cX8_numberValue 37 = .ok (.ireturn, 1) := by decide +kernel
set_option maxRecDepth 100000 in
def f_X8_numberValue_7 : Nat → Nat → Int32 → Int32 → dtM → Option (Int32 × dtM)
  | 0, _, _, _, _ => none
  | n + 1, l0, l1, l2, μ =>
    (opGI 8 3 μ l0).bind fun x1 => if x1 ≤ l2 then (some (l1, μ)) else ((opGR 8 0 μ l0).bind fun x6 => (opLI 2 μ x6 l2).bind fun x8 => (some ((l1 * (10 : Int32)) + (x8 - (48 : Int32)))).bind fun x10 => f_X8_numberValue_7 n l0 x10 (l2 + 1) μ)
set_option maxRecDepth 100000 in
def f_X8_numberValue (p0 : Nat) (μ : dtM) : Option (Int32 × dtM) :=
  (opGI 8 2 μ p0).bind fun x1 => f_X8_numberValue_7 dtFuel p0 (0 : Int32) x1 μ
set_option maxRecDepth 100000 in
theorem c_X8_numberValue_7 {r : Int32} {F : dtM} : ∀ (n : Nat) (l0 : Nat) (l1 : Int32) (l2 : Int32) (μ : dtM), f_X8_numberValue_7 n l0 l1 l2 μ = some (r, F) → dtW yX8_numberValue cX8_numberValue 3 (some .int) 1 (some (.int r)) F 7 [some (.ref l0), some (.int l1), some (.int l2)] [] μ := by
  intro n
  induction n with
  | zero => intro l0 l1 l2 μ h; cases h
  | succ n ih =>
    intro l0 l1 l2 μ h
    have h := (show f_X8_numberValue_7 (n + 1) l0 l1 l2 μ = some _ from h)
    rw [f_X8_numberValue_7] at h
    refine dr_iload_n l2 dX8_numberValue_7 rfl ?_
    refine dr_aload_n l0 dX8_numberValue_8 rfl ?_
    obtain ⟨x1, e2, h⟩ := dtBind h
    refine dr_getI x1 dX8_numberValue_9 fl_RX8_25 e2 ?_
    obtain ⟨ht4, hf5⟩ := dtIte h
    refine dr_icmp_ge 36 dX8_numberValue_12 (by decide) (fun hc3 => ?_) (fun hc3 => ?_)
    · have h := ht4 hc3
      refine dr_iload_n l1 dX8_numberValue_36 rfl ?_
      cases h
      exact dr_ireturn dX8_numberValue_37 rfl
    · have h := hf5 hc3
      refine dr_iload_n l1 dX8_numberValue_15 rfl ?_
      refine dr_bipush (10 : Int32) dX8_numberValue_16 (by decide) ?_
      refine dr_imul dX8_numberValue_18 ?_
      refine dr_aload_n l0 dX8_numberValue_19 rfl ?_
      obtain ⟨x6, e7, h⟩ := dtBind h
      refine dr_getR x6 dX8_numberValue_20 fl_RX8_9 e7 ?_
      refine dr_iload_n l2 dX8_numberValue_23 rfl ?_
      obtain ⟨x8, e9, h⟩ := dtBind h
      refine dr_baload x8 dX8_numberValue_24 e9 ?_
      refine dr_bipush (48 : Int32) dX8_numberValue_25 (by decide) ?_
      refine dr_isub dX8_numberValue_27 ?_
      refine dr_iadd dX8_numberValue_28 ?_
      obtain ⟨x10, e11, h⟩ := dtBind h
      refine dr_nmi e11 ?_
      refine dr_istore_n 1 [some (.ref l0), some (.int x10), some (.int l2)] dX8_numberValue_29 rfl rfl rfl rfl ?_
      refine dr_iinc l2 (l2 + 1) [some (.ref l0), some (.int x10), some (.int (l2 + 1))] dX8_numberValue_30 rfl rfl rfl rfl rfl ?_
      refine dr_goto 7 dX8_numberValue_33 (by decide) ?_
      exact ih l0 x10 (l2 + 1) μ h
set_option maxRecDepth 100000 in
theorem c_X8_numberValue {r : Int32} {F : dtM} (p0 : Nat) (μ : dtM) (h : f_X8_numberValue p0 μ = some (r, F)) : dtMet yX8_numberValue cX8_numberValue 3 (some .int) 1 [.ref p0] μ (some (.int r)) F := by
  refine dtMet.of (by decide +kernel) (Nat.le_of_ble_eq_true rfl) (show dtW yX8_numberValue cX8_numberValue 3 (some .int) 1 (some (.int r)) F 0 [some (.ref p0)] [] μ from ?_)
  rw [f_X8_numberValue] at h
  refine dr_iconst (0 : Int32) dX8_numberValue_0 (by decide) ?_
  refine dr_istore_n 1 [some (.ref p0), some (.int (0 : Int32))] dX8_numberValue_1 rfl rfl rfl rfl ?_
  refine dr_aload_n p0 dX8_numberValue_2 rfl ?_
  obtain ⟨x1, e2, h⟩ := dtBind h
  refine dr_getI x1 dX8_numberValue_3 fl_RX8_37 e2 ?_
  refine dr_istore_n 2 [some (.ref p0), some (.int (0 : Int32)), some (.int x1)] dX8_numberValue_6 rfl rfl rfl rfl ?_
  exact c_X8_numberValue_7 dtFuel p0 (0 : Int32) x1 μ h
/-! X8_advance -/
theorem dX8_advance_0 : decode cX8_advance 0 = .ok (.aload_n 0, 1) := by decide +kernel
theorem dX8_advance_1 : decode cX8_advance 1 = .ok (.aload_n 0, 1) := by decide +kernel
theorem dX8_advance_2 : decode cX8_advance 2 = .ok (.getfield 25, 3) := by decide +kernel
theorem dX8_advance_5 : decode cX8_advance 5 = .ok (.putfield 37, 3) := by decide +kernel
theorem dX8_advance_8 : decode cX8_advance 8 = .ok (.aload_n 0, 1) := by decide +kernel
theorem dX8_advance_9 : decode cX8_advance 9 = .ok (.getfield 37, 3) := by decide +kernel
theorem dX8_advance_12 : decode cX8_advance 12 = .ok (.aload_n 0, 1) := by decide +kernel
theorem dX8_advance_13 : decode cX8_advance 13 = .ok (.getfield 21, 3) := by decide +kernel
theorem dX8_advance_16 : decode cX8_advance 16 = .ok (.if_icmp .ge 44, 3) := by decide +kernel
theorem dX8_advance_19 : decode cX8_advance 19 = .ok (.aload_n 0, 1) := by decide +kernel
theorem dX8_advance_20 : decode cX8_advance 20 = .ok (.getfield 9, 3) := by decide +kernel
theorem dX8_advance_23 : decode cX8_advance 23 = .ok (.aload_n 0, 1) := by decide +kernel
theorem dX8_advance_24 : decode cX8_advance 24 = .ok (.getfield 37, 3) := by decide +kernel
theorem dX8_advance_27 : decode cX8_advance 27 = .ok (.baload, 1) := by decide +kernel
theorem dX8_advance_28 : decode cX8_advance 28 = .ok (.bipush 10, 2) := by decide +kernel
theorem dX8_advance_30 : decode cX8_advance 30 = .ok (.if_icmp .eq 17, 3) := by decide +kernel
theorem dX8_advance_33 : decode cX8_advance 33 = .ok (.aload_n 0, 1) := by decide +kernel
theorem dX8_advance_34 : decode cX8_advance 34 = .ok (.getfield 9, 3) := by decide +kernel
theorem dX8_advance_37 : decode cX8_advance 37 = .ok (.aload_n 0, 1) := by decide +kernel
theorem dX8_advance_38 : decode cX8_advance 38 = .ok (.getfield 37, 3) := by decide +kernel
theorem dX8_advance_41 : decode cX8_advance 41 = .ok (.baload, 1) := by decide +kernel
theorem dX8_advance_42 : decode cX8_advance 42 = .ok (.bipush 32, 2) := by decide +kernel
theorem dX8_advance_44 : decode cX8_advance 44 = .ok (.if_icmp .ne 16, 3) := by decide +kernel
theorem dX8_advance_47 : decode cX8_advance 47 = .ok (.aload_n 0, 1) := by decide +kernel
theorem dX8_advance_48 : decode cX8_advance 48 = .ok (.dup, 1) := by decide +kernel
theorem dX8_advance_49 : decode cX8_advance 49 = .ok (.getfield 37, 3) := by decide +kernel
theorem dX8_advance_52 : decode cX8_advance 52 = .ok (.iconst 1, 1) := by decide +kernel
theorem dX8_advance_53 : decode cX8_advance 53 = .ok (.iadd, 1) := by decide +kernel
theorem dX8_advance_54 : decode cX8_advance 54 = .ok (.putfield 37, 3) := by decide +kernel
theorem dX8_advance_57 : decode cX8_advance 57 = .ok (.goto (-49), 3) := by decide +kernel
theorem dX8_advance_60 : decode cX8_advance 60 = .ok (.aload_n 0, 1) := by decide +kernel
theorem dX8_advance_61 : decode cX8_advance 61 = .ok (.aload_n 0, 1) := by decide +kernel
theorem dX8_advance_62 : decode cX8_advance 62 = .ok (.getfield 37, 3) := by decide +kernel
theorem dX8_advance_65 : decode cX8_advance 65 = .ok (.putfield 25, 3) := by decide +kernel
theorem dX8_advance_68 : decode cX8_advance 68 = .ok (.aload_n 0, 1) := by decide +kernel
theorem dX8_advance_69 : decode cX8_advance 69 = .ok (.iconst 0, 1) := by decide +kernel
theorem dX8_advance_70 : decode cX8_advance 70 = .ok (.putfield 40, 3) := by decide +kernel
theorem dX8_advance_73 : decode cX8_advance 73 = .ok (.aload_n 0, 1) := by decide +kernel
theorem dX8_advance_74 : decode cX8_advance 74 = .ok (.iconst 0, 1) := by decide +kernel
theorem dX8_advance_75 : decode cX8_advance 75 = .ok (.putfield 43, 3) := by decide +kernel
theorem dX8_advance_78 : decode cX8_advance 78 = .ok (.aload_n 0, 1) := by decide +kernel
theorem dX8_advance_79 : decode cX8_advance 79 = .ok (.iconst (-1), 1) := by decide +kernel
theorem dX8_advance_80 : decode cX8_advance 80 = .ok (.putfield 46, 3) := by decide +kernel
theorem dX8_advance_83 : decode cX8_advance 83 = .ok (.aload_n 0, 1) := by decide +kernel
theorem dX8_advance_84 : decode cX8_advance 84 = .ok (.lconst 0, 1) := by decide +kernel
theorem dX8_advance_85 : decode cX8_advance 85 = .ok (.putfield 49, 3) := by decide +kernel
theorem dX8_advance_88 : decode cX8_advance 88 = .ok (.aload_n 0, 1) := by decide +kernel
theorem dX8_advance_89 : decode cX8_advance 89 = .ok (.getfield 37, 3) := by decide +kernel
theorem dX8_advance_92 : decode cX8_advance 92 = .ok (.aload_n 0, 1) := by decide +kernel
theorem dX8_advance_93 : decode cX8_advance 93 = .ok (.getfield 21, 3) := by decide +kernel
theorem dX8_advance_96 : decode cX8_advance 96 = .ok (.if_icmp .lt 4, 3) := by decide +kernel
theorem dX8_advance_99 : decode cX8_advance 99 = .ok (.return_, 1) := by decide +kernel
theorem dX8_advance_100 : decode cX8_advance 100 = .ok (.aload_n 0, 1) := by decide +kernel
theorem dX8_advance_101 : decode cX8_advance 101 = .ok (.bipush 97, 2) := by decide +kernel
theorem dX8_advance_103 : decode cX8_advance 103 = .ok (.bipush 122, 2) := by decide +kernel
theorem dX8_advance_105 : decode cX8_advance 105 = .ok (.invokevirtual 53, 3) := by decide +kernel
theorem dX8_advance_108 : decode cX8_advance 108 = .ok (.ifCond .eq 39, 3) := by decide +kernel
theorem dX8_advance_111 : decode cX8_advance 111 = .ok (.aload_n 0, 1) := by decide +kernel
theorem dX8_advance_112 : decode cX8_advance 112 = .ok (.iconst 1, 1) := by decide +kernel
theorem dX8_advance_113 : decode cX8_advance 113 = .ok (.putfield 40, 3) := by decide +kernel
theorem dX8_advance_116 : decode cX8_advance 116 = .ok (.aload_n 0, 1) := by decide +kernel
theorem dX8_advance_117 : decode cX8_advance 117 = .ok (.aload_n 0, 1) := by decide +kernel
theorem dX8_advance_118 : decode cX8_advance 118 = .ok (.invokevirtual 57, 3) := by decide +kernel
theorem dX8_advance_121 : decode cX8_advance 121 = .ok (.putfield 46, 3) := by decide +kernel
theorem dX8_advance_124 : decode cX8_advance 124 = .ok (.aload_n 0, 1) := by decide +kernel
theorem dX8_advance_125 : decode cX8_advance 125 = .ok (.aload_n 0, 1) := by decide +kernel
theorem dX8_advance_126 : decode cX8_advance 126 = .ok (.getfield 46, 3) := by decide +kernel
theorem dX8_advance_129 : decode cX8_advance 129 = .ok (.iconst (-1), 1) := by decide +kernel
theorem dX8_advance_130 : decode cX8_advance 130 = .ok (.if_icmp .ne 10, 3) := by decide +kernel
theorem dX8_advance_133 : decode cX8_advance 133 = .ok (.aload_n 0, 1) := by decide +kernel
theorem dX8_advance_134 : decode cX8_advance 134 = .ok (.invokevirtual 61, 3) := by decide +kernel
theorem dX8_advance_137 : decode cX8_advance 137 = .ok (.goto 4, 3) := by decide +kernel
theorem dX8_advance_140 : decode cX8_advance 140 = .ok (.lconst 0, 1) := by decide +kernel
theorem dX8_advance_141 : decode cX8_advance 141 = .ok (.putfield 49, 3) := by decide +kernel
theorem dX8_advance_144 : decode cX8_advance 144 = .ok (.goto 127, 3) := by decide +kernel
theorem dX8_advance_147 : decode cX8_advance 147 = .ok (.aload_n 0, 1) := by decide +kernel
theorem dX8_advance_148 : decode cX8_advance 148 = .ok (.bipush 48, 2) := by decide +kernel
theorem dX8_advance_150 : decode cX8_advance 150 = .ok (.bipush 57, 2) := by decide +kernel
theorem dX8_advance_152 : decode cX8_advance 152 = .ok (.invokevirtual 53, 3) := by decide +kernel
theorem dX8_advance_155 : decode cX8_advance 155 = .ok (.ifCond .eq 48, 3) := by decide +kernel
theorem dX8_advance_158 : decode cX8_advance 158 = .ok (.aload_n 0, 1) := by decide +kernel
theorem dX8_advance_159 : decode cX8_advance 159 = .ok (.aload_n 0, 1) := by decide +kernel
theorem dX8_advance_160 : decode cX8_advance 160 = .ok (.getfield 25, 3) := by decide +kernel
theorem dX8_advance_163 : decode cX8_advance 163 = .ok (.aload_n 0, 1) := by decide +kernel
theorem dX8_advance_164 : decode cX8_advance 164 = .ok (.getfield 37, 3) := by decide +kernel
theorem dX8_advance_167 : decode cX8_advance 167 = .ok (.isub, 1) := by decide +kernel
theorem dX8_advance_168 : decode cX8_advance 168 = .ok (.iconst 4, 1) := by decide +kernel
theorem dX8_advance_169 : decode cX8_advance 169 = .ok (.if_icmp .gt 7, 3) := by decide +kernel
theorem dX8_advance_172 : decode cX8_advance 172 = .ok (.iconst 2, 1) := by decide +kernel
theorem dX8_advance_173 : decode cX8_advance 173 = .ok (.goto 4, 3) := by decide +kernel
theorem dX8_advance_176 : decode cX8_advance 176 = .ok (.iconst 4, 1) := by decide +kernel
theorem dX8_advance_177 : decode cX8_advance 177 = .ok (.putfield 40, 3) := by decide +kernel
theorem dX8_advance_180 : decode cX8_advance 180 = .ok (.aload_n 0, 1) := by decide +kernel
theorem dX8_advance_181 : decode cX8_advance 181 = .ok (.aload_n 0, 1) := by decide +kernel
theorem dX8_advance_182 : decode cX8_advance 182 = .ok (.getfield 40, 3) := by decide +kernel
theorem dX8_advance_185 : decode cX8_advance 185 = .ok (.iconst 2, 1) := by decide +kernel
theorem dX8_advance_186 : decode cX8_advance 186 = .ok (.if_icmp .ne 10, 3) := by decide +kernel
theorem dX8_advance_189 : decode cX8_advance 189 = .ok (.aload_n 0, 1) := by decide +kernel
theorem dX8_advance_190 : decode cX8_advance 190 = .ok (.invokevirtual 65, 3) := by decide +kernel
theorem dX8_advance_193 : decode cX8_advance 193 = .ok (.goto 4, 3) := by decide +kernel
theorem dX8_advance_196 : decode cX8_advance 196 = .ok (.iconst 0, 1) := by decide +kernel
theorem dX8_advance_197 : decode cX8_advance 197 = .ok (.putfield 43, 3) := by decide +kernel
theorem dX8_advance_200 : decode cX8_advance 200 = .ok (.goto 71, 3) := by decide +kernel
theorem dX8_advance_203 : decode cX8_advance 203 = .ok (.aload_n 0, 1) := by decide +kernel
theorem dX8_advance_204 : decode cX8_advance 204 = .ok (.aload_n 0, 1) := by decide +kernel
theorem dX8_advance_205 : decode cX8_advance 205 = .ok (.getfield 37, 3) := by decide +kernel
theorem dX8_advance_208 : decode cX8_advance 208 = .ok (.iconst 1, 1) := by decide +kernel
theorem dX8_advance_209 : decode cX8_advance 209 = .ok (.iadd, 1) := by decide +kernel
theorem dX8_advance_210 : decode cX8_advance 210 = .ok (.putfield 25, 3) := by decide +kernel
theorem dX8_advance_213 : decode cX8_advance 213 = .ok (.aload_n 0, 1) := by decide +kernel
theorem dX8_advance_214 : decode cX8_advance 214 = .ok (.aload_n 0, 1) := by decide +kernel
theorem dX8_advance_215 : decode cX8_advance 215 = .ok (.getfield 9, 3) := by decide +kernel
theorem dX8_advance_218 : decode cX8_advance 218 = .ok (.aload_n 0, 1) := by decide +kernel
theorem dX8_advance_219 : decode cX8_advance 219 = .ok (.getfield 37, 3) := by decide +kernel
theorem dX8_advance_222 : decode cX8_advance 222 = .ok (.baload, 1) := by decide +kernel
theorem dX8_advance_223 : decode cX8_advance 223 = .ok (.putfield 43, 3) := by decide +kernel
theorem dX8_advance_226 : decode cX8_advance 226 = .ok (.aload_n 0, 1) := by decide +kernel
theorem dX8_advance_227 : decode cX8_advance 227 = .ok (.aload_n 0, 1) := by decide +kernel
theorem dX8_advance_228 : decode cX8_advance 228 = .ok (.getfield 43, 3) := by decide +kernel
theorem dX8_advance_231 : decode cX8_advance 231 = .ok (.bipush 59, 2) := by decide +kernel
theorem dX8_advance_233 : decode cX8_advance 233 = .ok (.if_icmp .eq 30, 3) := by decide +kernel
theorem dX8_advance_236 : decode cX8_advance 236 = .ok (.aload_n 0, 1) := by decide +kernel
theorem dX8_advance_237 : decode cX8_advance 237 = .ok (.getfield 43, 3) := by decide +kernel
theorem dX8_advance_240 : decode cX8_advance 240 = .ok (.bipush 60, 2) := by decide +kernel
theorem dX8_advance_242 : decode cX8_advance 242 = .ok (.if_icmp .eq 21, 3) := by decide +kernel
theorem dX8_advance_245 : decode cX8_advance 245 = .ok (.aload_n 0, 1) := by decide +kernel
theorem dX8_advance_246 : decode cX8_advance 246 = .ok (.getfield 43, 3) := by decide +kernel
theorem dX8_advance_249 : decode cX8_advance 249 = .ok (.bipush 62, 2) := by decide +kernel
theorem dX8_advance_251 : decode cX8_advance 251 = .ok (.if_icmp .eq 12, 3) := by decide +kernel
theorem dX8_advance_254 : decode cX8_advance 254 = .ok (.aload_n 0, 1) := by decide +kernel
theorem dX8_advance_255 : decode cX8_advance 255 = .ok (.getfield 43, 3) := by decide +kernel
theorem dX8_advance_258 : decode cX8_advance 258 = .ok (.bipush 61, 2) := by decide +kernel
theorem dX8_advance_260 : decode cX8_advance 260 = .ok (.if_icmp .ne 7, 3) := by decide +kernel
theorem dX8_advance_263 : decode cX8_advance 263 = .ok (.iconst 3, 1) := by decide +kernel
theorem dX8_advance_264 : decode cX8_advance 264 = .ok (.goto 4, 3) := by decide +kernel
theorem dX8_advance_267 : decode cX8_advance 267 = .ok (.iconst 4, 1) := by decide +kernel
theorem dX8_advance_268 : decode cX8_advance 268 = .ok (.putfield 40, 3) := by decide +kernel
theorem dX8_advance_271 : decode cX8_advance 271 = .ok (.return_, 1) := by decide +kernel
set_option maxRecDepth 100000 in
def f_X8_advance_271  (μ : dtM) : Option dtM :=
  some μ
set_option maxRecDepth 100000 in
def f_X8_advance_268 (s0 : Nat) (s1 : Int32) (μ : dtM) : Option dtM :=
  (opPI 8 4 μ s0 s1).bind fun μ1 => f_X8_advance_271 μ1
set_option maxRecDepth 100000 in
def f_X8_advance_263 (s0 : Nat) (μ : dtM) : Option dtM :=
  f_X8_advance_268 s0 (3 : Int32) μ
set_option maxRecDepth 100000 in
def f_X8_advance_197 (s0 : Nat) (s1 : Int32) (μ : dtM) : Option dtM :=
  (opPI 8 5 μ s0 s1).bind fun μ1 => f_X8_advance_271 μ1
set_option maxRecDepth 100000 in
def f_X8_advance_177 (l0 : Nat) (s0 : Nat) (s1 : Int32) (μ : dtM) : Option dtM :=
  (opPI 8 4 μ s0 s1).bind fun μ1 => (opGI 8 4 μ1 l0).bind fun x3 => if x3 = (2 : Int32) then ((opRv 8 μ1 l0).bind fun _ => opCall (f_X8_numberValue l0 μ1) fun x11 μ9 => f_X8_advance_197 l0 x11 μ9) else (f_X8_advance_197 l0 (0 : Int32) μ1)
set_option maxRecDepth 100000 in
def f_X8_advance_141 (s0 : Nat) (s1 : Int64) (μ : dtM) : Option dtM :=
  (opPJ 8 7 μ s0 s1).bind fun μ1 => f_X8_advance_271 μ1
set_option maxRecDepth 100000 in
def f_X8_advance_60 (l0 : Nat) (μ : dtM) : Option dtM :=
  (opGI 8 2 μ l0).bind fun x1 => (opPI 8 3 μ l0 x1).bind fun μ3 => (opPI 8 4 μ3 l0 (0 : Int32)).bind fun μ5 => (opPI 8 5 μ5 l0 (0 : Int32)).bind fun μ7 => (opPI 8 6 μ7 l0 (-1 : Int32)).bind fun μ9 => (opPJ 8 7 μ9 l0 (0 : Int64)).bind fun μ11 => (opGI 8 2 μ11 l0).bind fun x13 => (opGI 8 1 μ11 l0).bind fun x15 => if x13 < x15 then ((opRv 8 μ11 l0).bind fun _ => opCall (f_X8_isRunOf l0 (97 : Int32) (122 : Int32) μ11) fun x23 μ21 => if x23 = 0 then ((opRv 8 μ21 l0).bind fun _ => opCall (f_X8_isRunOf l0 (48 : Int32) (57 : Int32) μ21) fun x30 μ28 => if x30 = 0 then ((opGI 8 2 μ28 l0).bind fun x34 => (opPI 8 3 μ28 l0 (x34 + (1 : Int32))).bind fun μ36 => (opGR 8 0 μ36 l0).bind fun x38 => (opGI 8 2 μ36 l0).bind fun x40 => (opLI 2 μ36 x38 x40).bind fun x42 => (opPI 8 5 μ36 l0 x42).bind fun μ44 => (opGI 8 5 μ44 l0).bind fun x46 => if x46 = (59 : Int32) then (f_X8_advance_263 l0 μ44) else ((opGI 8 5 μ44 l0).bind fun x51 => if x51 = (60 : Int32) then (f_X8_advance_263 l0 μ44) else ((opGI 8 5 μ44 l0).bind fun x56 => if x56 = (62 : Int32) then (f_X8_advance_263 l0 μ44) else ((opGI 8 5 μ44 l0).bind fun x61 => if x61 = (61 : Int32) then (f_X8_advance_263 l0 μ44) else (f_X8_advance_268 l0 (4 : Int32) μ44))))) else ((opGI 8 3 μ28 l0).bind fun x66 => (opGI 8 2 μ28 l0).bind fun x68 => if (4 : Int32) < (x66 - x68) then (f_X8_advance_177 l0 l0 (4 : Int32) μ28) else (f_X8_advance_177 l0 l0 (2 : Int32) μ28))) else ((opPI 8 4 μ21 l0 (1 : Int32)).bind fun μ73 => (opRv 8 μ73 l0).bind fun _ => opCall (f_X8_findKeyword l0 μ73) fun x78 μ76 => (opPI 8 6 μ76 l0 x78).bind fun μ79 => (opGI 8 6 μ79 l0).bind fun x81 => if x81 = (-1 : Int32) then ((opRv 8 μ79 l0).bind fun _ => opCall (f_X8_nameCode l0 μ79) fun x89 μ87 => f_X8_advance_141 l0 x89 μ87) else (f_X8_advance_141 l0 (0 : Int64) μ79))) else (some μ11)
set_option maxRecDepth 100000 in
def f_X8_advance_47 (k8 : Nat → dtM → Option dtM) (l0 : Nat) (μ : dtM) : Option dtM :=
  (opGI 8 2 μ l0).bind fun x1 => (opPI 8 2 μ l0 (x1 + (1 : Int32))).bind fun μ3 => k8 l0 μ3
set_option maxRecDepth 100000 in
def f_X8_advance_8 : Nat → Nat → dtM → Option dtM
  | 0, _, _ => none
  | n + 1, l0, μ =>
    (opGI 8 2 μ l0).bind fun x1 => (opGI 8 1 μ l0).bind fun x3 => if x3 ≤ x1 then (f_X8_advance_60 l0 μ) else ((opGR 8 0 μ l0).bind fun x8 => (opGI 8 2 μ l0).bind fun x10 => (opLI 2 μ x8 x10).bind fun x12 => if x12 = (10 : Int32) then (f_X8_advance_47 (f_X8_advance_8 n) l0 μ) else ((opGR 8 0 μ l0).bind fun x17 => (opGI 8 2 μ l0).bind fun x19 => (opLI 2 μ x17 x19).bind fun x21 => if x21 = (32 : Int32) then (f_X8_advance_47 (f_X8_advance_8 n) l0 μ) else (f_X8_advance_60 l0 μ)))
set_option maxRecDepth 100000 in
def f_X8_advance (p0 : Nat) (μ : dtM) : Option dtM :=
  (opGI 8 3 μ p0).bind fun x1 => (opPI 8 2 μ p0 x1).bind fun μ3 => f_X8_advance_8 dtFuel p0 μ3
set_option maxRecDepth 100000 in
theorem c_X8_advance_271 {F : dtM}  (μ : dtM) (h : f_X8_advance_271  μ = some F) : dtW yX8_advance cX8_advance 1 (none) 7 (none) F 271 [] [] μ := by
  rw [f_X8_advance_271] at h
  cases h
  exact dr_return dX8_advance_271
set_option maxRecDepth 100000 in
theorem c_X8_advance_268 {F : dtM} (s0 : Nat) (s1 : Int32) (μ : dtM) (h : f_X8_advance_268 s0 s1 μ = some F) : dtW yX8_advance cX8_advance 1 (none) 7 (none) F 268 [] [.int s1, .ref s0] μ := by
  rw [f_X8_advance_268] at h
  obtain ⟨μ1, e2, h⟩ := dtBind h
  refine dr_putI μ1 dX8_advance_268 fl_RX8_40 rfl e2 ?_
  exact c_X8_advance_271 μ1 h
set_option maxRecDepth 100000 in
theorem c_X8_advance_263 {F : dtM} (s0 : Nat) (μ : dtM) (h : f_X8_advance_263 s0 μ = some F) : dtW yX8_advance cX8_advance 1 (none) 7 (none) F 263 [] [.ref s0] μ := by
  rw [f_X8_advance_263] at h
  refine dr_iconst (3 : Int32) dX8_advance_263 (by decide) ?_
  refine dr_goto 268 dX8_advance_264 (by decide) ?_
  exact c_X8_advance_268 s0 (3 : Int32) μ h
set_option maxRecDepth 100000 in
theorem c_X8_advance_197 {F : dtM} (s0 : Nat) (s1 : Int32) (μ : dtM) (h : f_X8_advance_197 s0 s1 μ = some F) : dtW yX8_advance cX8_advance 1 (none) 7 (none) F 197 [] [.int s1, .ref s0] μ := by
  rw [f_X8_advance_197] at h
  obtain ⟨μ1, e2, h⟩ := dtBind h
  refine dr_putI μ1 dX8_advance_197 fl_RX8_43 rfl e2 ?_
  refine dr_goto 271 dX8_advance_200 (by decide) ?_
  exact c_X8_advance_271 μ1 h
set_option maxRecDepth 100000 in
theorem c_X8_advance_177 {F : dtM} (l0 : Nat) (s0 : Nat) (s1 : Int32) (μ : dtM) (h : f_X8_advance_177 l0 s0 s1 μ = some F) : dtW yX8_advance cX8_advance 1 (none) 7 (none) F 177 [some (.ref l0)] [.int s1, .ref s0] μ := by
  rw [f_X8_advance_177] at h
  obtain ⟨μ1, e2, h⟩ := dtBind h
  refine dr_putI μ1 dX8_advance_177 fl_RX8_40 rfl e2 ?_
  refine dr_aload_n l0 dX8_advance_180 rfl ?_
  refine dr_aload_n l0 dX8_advance_181 rfl ?_
  obtain ⟨x3, e4, h⟩ := dtBind h
  refine dr_getI x3 dX8_advance_182 fl_RX8_40 e4 ?_
  refine dr_iconst (2 : Int32) dX8_advance_185 (by decide) ?_
  obtain ⟨ht6, hf7⟩ := dtIte h
  refine dr_icmp_ne 196 dX8_advance_186 (by decide) (fun hc5 => ?_) (fun hc5 => ?_)
  · have h := hf7 hc5
    refine dr_iconst (0 : Int32) dX8_advance_196 (by decide) ?_
    refine dr_mask [] [] rfl ?_
    exact c_X8_advance_197 l0 (0 : Int32) μ1 h
  · have h := ht6 hc5
    refine dr_aload_n l0 dX8_advance_189 rfl ?_
    obtain ⟨_, hb8, h⟩ := dtBind h
    obtain ⟨x11, μ9, e10, h⟩ := dtCall h
    refine dr_callV_i (S0 := [.ref l0]) [] x11 μ9 dX8_advance_190 (c_X8_numberValue l0 μ1 e10) mf_X8_numberValue wt_618 ws_7 wt_616 rfl (dtRv hb8) (by decide) rfl (Nat.le_of_ble_eq_true rfl) (Nat.le_of_ble_eq_true rfl) rfl ?_
    refine dr_goto 197 dX8_advance_193 (by decide) ?_
    refine dr_mask [] [] rfl ?_
    exact c_X8_advance_197 l0 x11 μ9 h
set_option maxRecDepth 100000 in
theorem c_X8_advance_141 {F : dtM} (s0 : Nat) (s1 : Int64) (μ : dtM) (h : f_X8_advance_141 s0 s1 μ = some F) : dtW yX8_advance cX8_advance 1 (none) 7 (none) F 141 [] [.long s1, .ref s0] μ := by
  rw [f_X8_advance_141] at h
  obtain ⟨μ1, e2, h⟩ := dtBind h
  refine dr_putJ μ1 dX8_advance_141 fl_RX8_49 rfl e2 ?_
  refine dr_goto 271 dX8_advance_144 (by decide) ?_
  exact c_X8_advance_271 μ1 h
set_option maxRecDepth 100000 in
theorem c_X8_advance_60 {F : dtM} (l0 : Nat) (μ : dtM) (h : f_X8_advance_60 l0 μ = some F) : dtW yX8_advance cX8_advance 1 (none) 7 (none) F 60 [some (.ref l0)] [] μ := by
  rw [f_X8_advance_60] at h
  refine dr_aload_n l0 dX8_advance_60 rfl ?_
  refine dr_aload_n l0 dX8_advance_61 rfl ?_
  obtain ⟨x1, e2, h⟩ := dtBind h
  refine dr_getI x1 dX8_advance_62 fl_RX8_37 e2 ?_
  obtain ⟨μ3, e4, h⟩ := dtBind h
  refine dr_putI μ3 dX8_advance_65 fl_RX8_25 rfl e4 ?_
  refine dr_aload_n l0 dX8_advance_68 rfl ?_
  refine dr_iconst (0 : Int32) dX8_advance_69 (by decide) ?_
  obtain ⟨μ5, e6, h⟩ := dtBind h
  refine dr_putI μ5 dX8_advance_70 fl_RX8_40 rfl e6 ?_
  refine dr_aload_n l0 dX8_advance_73 rfl ?_
  refine dr_iconst (0 : Int32) dX8_advance_74 (by decide) ?_
  obtain ⟨μ7, e8, h⟩ := dtBind h
  refine dr_putI μ7 dX8_advance_75 fl_RX8_43 rfl e8 ?_
  refine dr_aload_n l0 dX8_advance_78 rfl ?_
  refine dr_iconst (-1 : Int32) dX8_advance_79 (by decide) ?_
  obtain ⟨μ9, e10, h⟩ := dtBind h
  refine dr_putI μ9 dX8_advance_80 fl_RX8_46 rfl e10 ?_
  refine dr_aload_n l0 dX8_advance_83 rfl ?_
  refine dr_lconst (0 : Int64) dX8_advance_84 (by decide) ?_
  obtain ⟨μ11, e12, h⟩ := dtBind h
  refine dr_putJ μ11 dX8_advance_85 fl_RX8_49 rfl e12 ?_
  refine dr_aload_n l0 dX8_advance_88 rfl ?_
  obtain ⟨x13, e14, h⟩ := dtBind h
  refine dr_getI x13 dX8_advance_89 fl_RX8_37 e14 ?_
  refine dr_aload_n l0 dX8_advance_92 rfl ?_
  obtain ⟨x15, e16, h⟩ := dtBind h
  refine dr_getI x15 dX8_advance_93 fl_RX8_21 e16 ?_
  obtain ⟨ht18, hf19⟩ := dtIte h
  refine dr_icmp_lt 100 dX8_advance_96 (by decide) (fun hc17 => ?_) (fun hc17 => ?_)
  · have h := ht18 hc17
    refine dr_aload_n l0 dX8_advance_100 rfl ?_
    refine dr_bipush (97 : Int32) dX8_advance_101 (by decide) ?_
    refine dr_bipush (122 : Int32) dX8_advance_103 (by decide) ?_
    obtain ⟨_, hb20, h⟩ := dtBind h
    obtain ⟨x23, μ21, e22, h⟩ := dtCall h
    refine dr_callV_i (S0 := []) [.int (97 : Int32), .int (122 : Int32)] x23 μ21 dX8_advance_105 (c_X8_isRunOf l0 (97 : Int32) (122 : Int32) μ11 e22) mf_X8_isRunOf wt_556 ws_4 wt_554 rfl (dtRv hb20) (by decide) rfl (Nat.le_of_ble_eq_true rfl) (Nat.le_of_ble_eq_true rfl) rfl ?_
    obtain ⟨ht25, hf26⟩ := dtIte h
    refine dr_if_eq 147 dX8_advance_108 (by decide) (fun hc24 => ?_) (fun hc24 => ?_)
    · have h := ht25 hc24
      refine dr_aload_n l0 dX8_advance_147 rfl ?_
      refine dr_bipush (48 : Int32) dX8_advance_148 (by decide) ?_
      refine dr_bipush (57 : Int32) dX8_advance_150 (by decide) ?_
      obtain ⟨_, hb27, h⟩ := dtBind h
      obtain ⟨x30, μ28, e29, h⟩ := dtCall h
      refine dr_callV_i (S0 := []) [.int (48 : Int32), .int (57 : Int32)] x30 μ28 dX8_advance_152 (c_X8_isRunOf l0 (48 : Int32) (57 : Int32) μ21 e29) mf_X8_isRunOf wt_556 ws_4 wt_554 rfl (dtRv hb27) (by decide) rfl (Nat.le_of_ble_eq_true rfl) (Nat.le_of_ble_eq_true rfl) rfl ?_
      obtain ⟨ht32, hf33⟩ := dtIte h
      refine dr_if_eq 203 dX8_advance_155 (by decide) (fun hc31 => ?_) (fun hc31 => ?_)
      · have h := ht32 hc31
        refine dr_aload_n l0 dX8_advance_203 rfl ?_
        refine dr_aload_n l0 dX8_advance_204 rfl ?_
        obtain ⟨x34, e35, h⟩ := dtBind h
        refine dr_getI x34 dX8_advance_205 fl_RX8_37 e35 ?_
        refine dr_iconst (1 : Int32) dX8_advance_208 (by decide) ?_
        refine dr_iadd dX8_advance_209 ?_
        obtain ⟨μ36, e37, h⟩ := dtBind h
        refine dr_putI μ36 dX8_advance_210 fl_RX8_25 rfl e37 ?_
        refine dr_aload_n l0 dX8_advance_213 rfl ?_
        refine dr_aload_n l0 dX8_advance_214 rfl ?_
        obtain ⟨x38, e39, h⟩ := dtBind h
        refine dr_getR x38 dX8_advance_215 fl_RX8_9 e39 ?_
        refine dr_aload_n l0 dX8_advance_218 rfl ?_
        obtain ⟨x40, e41, h⟩ := dtBind h
        refine dr_getI x40 dX8_advance_219 fl_RX8_37 e41 ?_
        obtain ⟨x42, e43, h⟩ := dtBind h
        refine dr_baload x42 dX8_advance_222 e43 ?_
        obtain ⟨μ44, e45, h⟩ := dtBind h
        refine dr_putI μ44 dX8_advance_223 fl_RX8_43 rfl e45 ?_
        refine dr_aload_n l0 dX8_advance_226 rfl ?_
        refine dr_aload_n l0 dX8_advance_227 rfl ?_
        obtain ⟨x46, e47, h⟩ := dtBind h
        refine dr_getI x46 dX8_advance_228 fl_RX8_43 e47 ?_
        refine dr_bipush (59 : Int32) dX8_advance_231 (by decide) ?_
        obtain ⟨ht49, hf50⟩ := dtIte h
        refine dr_icmp_eq 263 dX8_advance_233 (by decide) (fun hc48 => ?_) (fun hc48 => ?_)
        · have h := ht49 hc48
          refine dr_mask [] [] rfl ?_
          exact c_X8_advance_263 l0 μ44 h
        · have h := hf50 hc48
          refine dr_aload_n l0 dX8_advance_236 rfl ?_
          obtain ⟨x51, e52, h⟩ := dtBind h
          refine dr_getI x51 dX8_advance_237 fl_RX8_43 e52 ?_
          refine dr_bipush (60 : Int32) dX8_advance_240 (by decide) ?_
          obtain ⟨ht54, hf55⟩ := dtIte h
          refine dr_icmp_eq 263 dX8_advance_242 (by decide) (fun hc53 => ?_) (fun hc53 => ?_)
          · have h := ht54 hc53
            refine dr_mask [] [] rfl ?_
            exact c_X8_advance_263 l0 μ44 h
          · have h := hf55 hc53
            refine dr_aload_n l0 dX8_advance_245 rfl ?_
            obtain ⟨x56, e57, h⟩ := dtBind h
            refine dr_getI x56 dX8_advance_246 fl_RX8_43 e57 ?_
            refine dr_bipush (62 : Int32) dX8_advance_249 (by decide) ?_
            obtain ⟨ht59, hf60⟩ := dtIte h
            refine dr_icmp_eq 263 dX8_advance_251 (by decide) (fun hc58 => ?_) (fun hc58 => ?_)
            · have h := ht59 hc58
              refine dr_mask [] [] rfl ?_
              exact c_X8_advance_263 l0 μ44 h
            · have h := hf60 hc58
              refine dr_aload_n l0 dX8_advance_254 rfl ?_
              obtain ⟨x61, e62, h⟩ := dtBind h
              refine dr_getI x61 dX8_advance_255 fl_RX8_43 e62 ?_
              refine dr_bipush (61 : Int32) dX8_advance_258 (by decide) ?_
              obtain ⟨ht64, hf65⟩ := dtIte h
              refine dr_icmp_ne 267 dX8_advance_260 (by decide) (fun hc63 => ?_) (fun hc63 => ?_)
              · have h := hf65 hc63
                refine dr_iconst (4 : Int32) dX8_advance_267 (by decide) ?_
                refine dr_mask [] [] rfl ?_
                exact c_X8_advance_268 l0 (4 : Int32) μ44 h
              · have h := ht64 hc63
                refine dr_mask [] [] rfl ?_
                exact c_X8_advance_263 l0 μ44 h
      · have h := hf33 hc31
        refine dr_aload_n l0 dX8_advance_158 rfl ?_
        refine dr_aload_n l0 dX8_advance_159 rfl ?_
        obtain ⟨x66, e67, h⟩ := dtBind h
        refine dr_getI x66 dX8_advance_160 fl_RX8_25 e67 ?_
        refine dr_aload_n l0 dX8_advance_163 rfl ?_
        obtain ⟨x68, e69, h⟩ := dtBind h
        refine dr_getI x68 dX8_advance_164 fl_RX8_37 e69 ?_
        refine dr_isub dX8_advance_167 ?_
        refine dr_iconst (4 : Int32) dX8_advance_168 (by decide) ?_
        obtain ⟨ht71, hf72⟩ := dtIte h
        refine dr_icmp_gt 176 dX8_advance_169 (by decide) (fun hc70 => ?_) (fun hc70 => ?_)
        · have h := ht71 hc70
          refine dr_iconst (4 : Int32) dX8_advance_176 (by decide) ?_
          exact c_X8_advance_177 l0 l0 (4 : Int32) μ28 h
        · have h := hf72 hc70
          refine dr_iconst (2 : Int32) dX8_advance_172 (by decide) ?_
          refine dr_goto 177 dX8_advance_173 (by decide) ?_
          exact c_X8_advance_177 l0 l0 (2 : Int32) μ28 h
    · have h := hf26 hc24
      refine dr_aload_n l0 dX8_advance_111 rfl ?_
      refine dr_iconst (1 : Int32) dX8_advance_112 (by decide) ?_
      obtain ⟨μ73, e74, h⟩ := dtBind h
      refine dr_putI μ73 dX8_advance_113 fl_RX8_40 rfl e74 ?_
      refine dr_aload_n l0 dX8_advance_116 rfl ?_
      refine dr_aload_n l0 dX8_advance_117 rfl ?_
      obtain ⟨_, hb75, h⟩ := dtBind h
      obtain ⟨x78, μ76, e77, h⟩ := dtCall h
      refine dr_callV_i (S0 := [.ref l0]) [] x78 μ76 dX8_advance_118 (c_X8_findKeyword l0 μ73 e77) mf_X8_findKeyword wt_560 ws_5 wt_558 rfl (dtRv hb75) (by decide) rfl (Nat.le_of_ble_eq_true rfl) (Nat.le_of_ble_eq_true rfl) rfl ?_
      obtain ⟨μ79, e80, h⟩ := dtBind h
      refine dr_putI μ79 dX8_advance_121 fl_RX8_46 rfl e80 ?_
      refine dr_aload_n l0 dX8_advance_124 rfl ?_
      refine dr_aload_n l0 dX8_advance_125 rfl ?_
      obtain ⟨x81, e82, h⟩ := dtBind h
      refine dr_getI x81 dX8_advance_126 fl_RX8_46 e82 ?_
      refine dr_iconst (-1 : Int32) dX8_advance_129 (by decide) ?_
      obtain ⟨ht84, hf85⟩ := dtIte h
      refine dr_icmp_ne 140 dX8_advance_130 (by decide) (fun hc83 => ?_) (fun hc83 => ?_)
      · have h := hf85 hc83
        refine dr_lconst (0 : Int64) dX8_advance_140 (by decide) ?_
        refine dr_mask [] [] rfl ?_
        exact c_X8_advance_141 l0 (0 : Int64) μ79 h
      · have h := ht84 hc83
        refine dr_aload_n l0 dX8_advance_133 rfl ?_
        obtain ⟨_, hb86, h⟩ := dtBind h
        obtain ⟨x89, μ87, e88, h⟩ := dtCall h
        refine dr_callV_l (S0 := [.ref l0]) [] x89 μ87 dX8_advance_134 (c_X8_nameCode l0 μ79 e88) mf_X8_nameCode wt_613 ws_6 wt_611 rfl (dtRv hb86) (by decide) rfl (Nat.le_of_ble_eq_true rfl) (Nat.le_of_ble_eq_true rfl) rfl ?_
        refine dr_goto 141 dX8_advance_137 (by decide) ?_
        refine dr_mask [] [] rfl ?_
        exact c_X8_advance_141 l0 x89 μ87 h
  · have h := hf19 hc17
    cases h
    exact dr_return dX8_advance_99
set_option maxRecDepth 100000 in
theorem c_X8_advance_47 {F : dtM} (k8 : Nat → dtM → Option dtM) (hk8 : ∀ (l0 : Nat) (μ : dtM), k8 l0 μ = some F → dtW yX8_advance cX8_advance 1 (none) 7 (none) F 8 [some (.ref l0)] [] μ) (l0 : Nat) (μ : dtM) (h : f_X8_advance_47 k8 l0 μ = some F) : dtW yX8_advance cX8_advance 1 (none) 7 (none) F 47 [some (.ref l0)] [] μ := by
  rw [f_X8_advance_47] at h
  refine dr_aload_n l0 dX8_advance_47 rfl ?_
  refine dr_dup dX8_advance_48 rfl ?_
  obtain ⟨x1, e2, h⟩ := dtBind h
  refine dr_getI x1 dX8_advance_49 fl_RX8_37 e2 ?_
  refine dr_iconst (1 : Int32) dX8_advance_52 (by decide) ?_
  refine dr_iadd dX8_advance_53 ?_
  obtain ⟨μ3, e4, h⟩ := dtBind h
  refine dr_putI μ3 dX8_advance_54 fl_RX8_37 rfl e4 ?_
  refine dr_goto 8 dX8_advance_57 (by decide) ?_
  exact hk8 l0 μ3 h
set_option maxRecDepth 100000 in
theorem c_X8_advance_8 {F : dtM} : ∀ (n : Nat) (l0 : Nat) (μ : dtM), f_X8_advance_8 n l0 μ = some F → dtW yX8_advance cX8_advance 1 (none) 7 (none) F 8 [some (.ref l0)] [] μ := by
  intro n
  induction n with
  | zero => intro l0 μ h; cases h
  | succ n ih =>
    intro l0 μ h
    have h := (show f_X8_advance_8 (n + 1) l0 μ = some _ from h)
    rw [f_X8_advance_8] at h
    refine dr_aload_n l0 dX8_advance_8 rfl ?_
    obtain ⟨x1, e2, h⟩ := dtBind h
    refine dr_getI x1 dX8_advance_9 fl_RX8_37 e2 ?_
    refine dr_aload_n l0 dX8_advance_12 rfl ?_
    obtain ⟨x3, e4, h⟩ := dtBind h
    refine dr_getI x3 dX8_advance_13 fl_RX8_21 e4 ?_
    obtain ⟨ht6, hf7⟩ := dtIte h
    refine dr_icmp_ge 60 dX8_advance_16 (by decide) (fun hc5 => ?_) (fun hc5 => ?_)
    · have h := ht6 hc5
      exact c_X8_advance_60 l0 μ h
    · have h := hf7 hc5
      refine dr_aload_n l0 dX8_advance_19 rfl ?_
      obtain ⟨x8, e9, h⟩ := dtBind h
      refine dr_getR x8 dX8_advance_20 fl_RX8_9 e9 ?_
      refine dr_aload_n l0 dX8_advance_23 rfl ?_
      obtain ⟨x10, e11, h⟩ := dtBind h
      refine dr_getI x10 dX8_advance_24 fl_RX8_37 e11 ?_
      obtain ⟨x12, e13, h⟩ := dtBind h
      refine dr_baload x12 dX8_advance_27 e13 ?_
      refine dr_bipush (10 : Int32) dX8_advance_28 (by decide) ?_
      obtain ⟨ht15, hf16⟩ := dtIte h
      refine dr_icmp_eq 47 dX8_advance_30 (by decide) (fun hc14 => ?_) (fun hc14 => ?_)
      · have h := ht15 hc14
        exact c_X8_advance_47 (f_X8_advance_8 n) ih l0 μ h
      · have h := hf16 hc14
        refine dr_aload_n l0 dX8_advance_33 rfl ?_
        obtain ⟨x17, e18, h⟩ := dtBind h
        refine dr_getR x17 dX8_advance_34 fl_RX8_9 e18 ?_
        refine dr_aload_n l0 dX8_advance_37 rfl ?_
        obtain ⟨x19, e20, h⟩ := dtBind h
        refine dr_getI x19 dX8_advance_38 fl_RX8_37 e20 ?_
        obtain ⟨x21, e22, h⟩ := dtBind h
        refine dr_baload x21 dX8_advance_41 e22 ?_
        refine dr_bipush (32 : Int32) dX8_advance_42 (by decide) ?_
        obtain ⟨ht24, hf25⟩ := dtIte h
        refine dr_icmp_ne 60 dX8_advance_44 (by decide) (fun hc23 => ?_) (fun hc23 => ?_)
        · have h := hf25 hc23
          exact c_X8_advance_60 l0 μ h
        · have h := ht24 hc23
          exact c_X8_advance_47 (f_X8_advance_8 n) ih l0 μ h
set_option maxRecDepth 100000 in
theorem c_X8_advance {F : dtM} (p0 : Nat) (μ : dtM) (h : f_X8_advance p0 μ = some F) : dtMet yX8_advance cX8_advance 1 (none) 7 [.ref p0] μ (none) F := by
  refine dtMet.of (by decide +kernel) (Nat.le_of_ble_eq_true rfl) (show dtW yX8_advance cX8_advance 1 (none) 7 (none) F 0 [some (.ref p0)] [] μ from ?_)
  rw [f_X8_advance] at h
  refine dr_aload_n p0 dX8_advance_0 rfl ?_
  refine dr_aload_n p0 dX8_advance_1 rfl ?_
  obtain ⟨x1, e2, h⟩ := dtBind h
  refine dr_getI x1 dX8_advance_2 fl_RX8_25 e2 ?_
  obtain ⟨μ3, e4, h⟩ := dtBind h
  refine dr_putI μ3 dX8_advance_5 fl_RX8_37 rfl e4 ?_
  exact c_X8_advance_8 dtFuel p0 μ3 h
/-! X8_flaw -/
theorem dX8_flaw_0 : decode cX8_flaw 0 = .ok (.aload_n 0, 1) := by decide +kernel
theorem dX8_flaw_1 : decode cX8_flaw 1 = .ok (.aload_n 0, 1) := by decide +kernel
theorem dX8_flaw_2 : decode cX8_flaw 2 = .ok (.getfield 40, 3) := by decide +kernel
theorem dX8_flaw_5 : decode cX8_flaw 5 = .ok (.iconst 4, 1) := by decide +kernel
theorem dX8_flaw_6 : decode cX8_flaw 6 = .ok (.if_icmp .ne 7, 3) := by decide +kernel
theorem dX8_flaw_9 : decode cX8_flaw 9 = .ok (.iconst 1, 1) := by decide +kernel
theorem dX8_flaw_10 : decode cX8_flaw 10 = .ok (.goto 4, 3) := by decide +kernel
theorem dX8_flaw_13 : decode cX8_flaw 13 = .ok (.iload_n 1, 1) := by decide +kernel
theorem dX8_flaw_14 : decode cX8_flaw 14 = .ok (.putfield 28, 3) := by decide +kernel
theorem dX8_flaw_17 : decode cX8_flaw 17 = .ok (.aload_n 0, 1) := by decide +kernel
theorem dX8_flaw_18 : decode cX8_flaw 18 = .ok (.aload_n 0, 1) := by decide +kernel
theorem dX8_flaw_19 : decode cX8_flaw 19 = .ok (.getfield 37, 3) := by decide +kernel
theorem dX8_flaw_22 : decode cX8_flaw 22 = .ok (.putfield 31, 3) := by decide +kernel
theorem dX8_flaw_25 : decode cX8_flaw 25 = .ok (.iconst 0, 1) := by decide +kernel
theorem dX8_flaw_26 : decode cX8_flaw 26 = .ok (.ireturn, 1) := by decide +kernel
set_option maxRecDepth 100000 in
def f_X8_flaw_14 (l0 : Nat) (s0 : Nat) (s1 : Int32) (μ : dtM) : Option (Int32 × dtM) :=
  (opPI 8 8 μ s0 s1).bind fun μ1 => (opGI 8 2 μ1 l0).bind fun x3 => (opPI 8 9 μ1 l0 x3).bind fun μ5 => opRet (0 : Int32) μ5
set_option maxRecDepth 100000 in
def f_X8_flaw (p0 : Nat) (p1 : Int32) (μ : dtM) : Option (Int32 × dtM) :=
  (opGI 8 4 μ p0).bind fun x1 => if x1 = (4 : Int32) then (f_X8_flaw_14 p0 p0 (1 : Int32) μ) else (f_X8_flaw_14 p0 p0 p1 μ)
set_option maxRecDepth 100000 in
theorem c_X8_flaw_14 {r : Int32} {F : dtM} (l0 : Nat) (s0 : Nat) (s1 : Int32) (μ : dtM) (h : f_X8_flaw_14 l0 s0 s1 μ = some (r, F)) : dtW yX8_flaw cX8_flaw 2 (some .boolean) 1 (some (.int r)) F 14 [some (.ref l0)] [.int s1, .ref s0] μ := by
  rw [f_X8_flaw_14] at h
  obtain ⟨μ1, e2, h⟩ := dtBind h
  refine dr_putI μ1 dX8_flaw_14 fl_RX8_28 rfl e2 ?_
  refine dr_aload_n l0 dX8_flaw_17 rfl ?_
  refine dr_aload_n l0 dX8_flaw_18 rfl ?_
  obtain ⟨x3, e4, h⟩ := dtBind h
  refine dr_getI x3 dX8_flaw_19 fl_RX8_37 e4 ?_
  obtain ⟨μ5, e6, h⟩ := dtBind h
  refine dr_putI μ5 dX8_flaw_22 fl_RX8_31 rfl e6 ?_
  refine dr_iconst (0 : Int32) dX8_flaw_25 (by decide) ?_
  obtain ⟨hz, rfl, rfl⟩ := dtRet h
  exact dr_ireturn dX8_flaw_26 (dtNz hz)
set_option maxRecDepth 100000 in
theorem c_X8_flaw {r : Int32} {F : dtM} (p0 : Nat) (p1 : Int32) (μ : dtM) (h : f_X8_flaw p0 p1 μ = some (r, F)) : dtMet yX8_flaw cX8_flaw 2 (some .boolean) 1 [.ref p0, .int p1] μ (some (.int r)) F := by
  refine dtMet.of (by decide +kernel) (Nat.le_of_ble_eq_true rfl) (show dtW yX8_flaw cX8_flaw 2 (some .boolean) 1 (some (.int r)) F 0 [some (.ref p0), some (.int p1)] [] μ from ?_)
  rw [f_X8_flaw] at h
  refine dr_aload_n p0 dX8_flaw_0 rfl ?_
  refine dr_aload_n p0 dX8_flaw_1 rfl ?_
  obtain ⟨x1, e2, h⟩ := dtBind h
  refine dr_getI x1 dX8_flaw_2 fl_RX8_40 e2 ?_
  refine dr_iconst (4 : Int32) dX8_flaw_5 (by decide) ?_
  obtain ⟨ht4, hf5⟩ := dtIte h
  refine dr_icmp_ne 13 dX8_flaw_6 (by decide) (fun hc3 => ?_) (fun hc3 => ?_)
  · have h := hf5 hc3
    refine dr_iload_n p1 dX8_flaw_13 rfl ?_
    refine dr_mask [true] [some (.ref p0)] rfl ?_
    exact c_X8_flaw_14 p0 p0 p1 μ h
  · have h := ht4 hc3
    refine dr_iconst (1 : Int32) dX8_flaw_9 (by decide) ?_
    refine dr_goto 14 dX8_flaw_10 (by decide) ?_
    refine dr_mask [true] [some (.ref p0)] rfl ?_
    exact c_X8_flaw_14 p0 p0 (1 : Int32) μ h
/-! X1_beginStep -/
theorem dX1_beginStep_0 : decode cX1_beginStep 0 = .ok (.aload_n 0, 1) := by decide +kernel
theorem dX1_beginStep_1 : decode cX1_beginStep 1 = .ok (.getfield 12, 3) := by decide +kernel
theorem dX1_beginStep_4 : decode cX1_beginStep 4 = .ok (.getfield 39, 3) := by decide +kernel
theorem dX1_beginStep_7 : decode cX1_beginStep 7 = .ok (.istore_n 2, 1) := by decide +kernel
theorem dX1_beginStep_8 : decode cX1_beginStep 8 = .ok (.iload_n 2, 1) := by decide +kernel
theorem dX1_beginStep_9 : decode cX1_beginStep 9 = .ok (.bipush 19, 2) := by decide +kernel
theorem dX1_beginStep_11 : decode cX1_beginStep 11 = .ok (.if_icmp .eq 9, 3) := by decide +kernel
theorem dX1_beginStep_14 : decode cX1_beginStep 14 = .ok (.iload_n 2, 1) := by decide +kernel
theorem dX1_beginStep_15 : decode cX1_beginStep 15 = .ok (.bipush 21, 2) := by decide +kernel
theorem dX1_beginStep_17 : decode cX1_beginStep 17 = .ok (.if_icmp .ne 7, 3) := by decide +kernel
theorem dX1_beginStep_20 : decode cX1_beginStep 20 = .ok (.iconst 1, 1) := by decide +kernel
theorem dX1_beginStep_21 : decode cX1_beginStep 21 = .ok (.goto 4, 3) := by decide +kernel
theorem dX1_beginStep_24 : decode cX1_beginStep 24 = .ok (.iconst 0, 1) := by decide +kernel
theorem dX1_beginStep_25 : decode cX1_beginStep 25 = .ok (.istore_n 3, 1) := by decide +kernel
theorem dX1_beginStep_26 : decode cX1_beginStep 26 = .ok (.iconst 0, 1) := by decide +kernel
theorem dX1_beginStep_27 : decode cX1_beginStep 27 = .ok (.istore 4, 2) := by decide +kernel
theorem dX1_beginStep_29 : decode cX1_beginStep 29 = .ok (.iload_n 2, 1) := by decide +kernel
theorem dX1_beginStep_30 : decode cX1_beginStep 30 = .ok (.invokestatic 79, 3) := by decide +kernel
theorem dX1_beginStep_33 : decode cX1_beginStep 33 = .ok (.ifCond .ne 9, 3) := by decide +kernel
theorem dX1_beginStep_36 : decode cX1_beginStep 36 = .ok (.iconst 2, 1) := by decide +kernel
theorem dX1_beginStep_37 : decode cX1_beginStep 37 = .ok (.istore 4, 2) := by decide +kernel
theorem dX1_beginStep_39 : decode cX1_beginStep 39 = .ok (.goto 35, 3) := by decide +kernel
theorem dX1_beginStep_42 : decode cX1_beginStep 42 = .ok (.aload_n 1, 1) := by decide +kernel
theorem dX1_beginStep_43 : decode cX1_beginStep 43 = .ok (.getfield 82, 3) := by decide +kernel
theorem dX1_beginStep_46 : decode cX1_beginStep 46 = .ok (.bipush 30, 2) := by decide +kernel
theorem dX1_beginStep_48 : decode cX1_beginStep 48 = .ok (.if_icmp .lt 10, 3) := by decide +kernel
theorem dX1_beginStep_51 : decode cX1_beginStep 51 = .ok (.bipush 6, 2) := by decide +kernel
theorem dX1_beginStep_53 : decode cX1_beginStep 53 = .ok (.istore 4, 2) := by decide +kernel
theorem dX1_beginStep_55 : decode cX1_beginStep 55 = .ok (.goto 19, 3) := by decide +kernel
theorem dX1_beginStep_58 : decode cX1_beginStep 58 = .ok (.iload_n 3, 1) := by decide +kernel
theorem dX1_beginStep_59 : decode cX1_beginStep 59 = .ok (.ifCond .eq 15, 3) := by decide +kernel
theorem dX1_beginStep_62 : decode cX1_beginStep 62 = .ok (.aload_n 0, 1) := by decide +kernel
theorem dX1_beginStep_63 : decode cX1_beginStep 63 = .ok (.getfield 27, 3) := by decide +kernel
theorem dX1_beginStep_66 : decode cX1_beginStep 66 = .ok (.iconst 3, 1) := by decide +kernel
theorem dX1_beginStep_67 : decode cX1_beginStep 67 = .ok (.if_icmp .lt 7, 3) := by decide +kernel
theorem dX1_beginStep_70 : decode cX1_beginStep 70 = .ok (.bipush 7, 2) := by decide +kernel
theorem dX1_beginStep_72 : decode cX1_beginStep 72 = .ok (.istore 4, 2) := by decide +kernel
theorem dX1_beginStep_74 : decode cX1_beginStep 74 = .ok (.iload 4, 2) := by decide +kernel
theorem dX1_beginStep_76 : decode cX1_beginStep 76 = .ok (.ifCond .eq 15, 3) := by decide +kernel
theorem dX1_beginStep_79 : decode cX1_beginStep 79 = .ok (.aload_n 0, 1) := by decide +kernel
theorem dX1_beginStep_80 : decode cX1_beginStep 80 = .ok (.getfield 12, 3) := by decide +kernel
theorem dX1_beginStep_83 : decode cX1_beginStep 83 = .ok (.iload 4, 2) := by decide +kernel
theorem dX1_beginStep_85 : decode cX1_beginStep 85 = .ok (.invokevirtual 65, 3) := by decide +kernel
theorem dX1_beginStep_88 : decode cX1_beginStep 88 = .ok (.pop, 1) := by decide +kernel
theorem dX1_beginStep_89 : decode cX1_beginStep 89 = .ok (.iconst (-1), 1) := by decide +kernel
theorem dX1_beginStep_90 : decode cX1_beginStep 90 = .ok (.ireturn, 1) := by decide +kernel
theorem dX1_beginStep_91 : decode cX1_beginStep 91 = .ok (.aload_n 1, 1) := by decide +kernel
theorem dX1_beginStep_92 : decode cX1_beginStep 92 = .ok (.iload_n 2, 1) := by decide +kernel
theorem dX1_beginStep_93 : decode cX1_beginStep 93 = .ok (.invokevirtual 69, 3) := by decide +kernel
theorem dX1_beginStep_96 : decode cX1_beginStep 96 = .ok (.istore 5, 2) := by decide +kernel
theorem dX1_beginStep_98 : decode cX1_beginStep 98 = .ok (.aload_n 1, 1) := by decide +kernel
theorem dX1_beginStep_99 : decode cX1_beginStep 99 = .ok (.dup, 1) := by decide +kernel
theorem dX1_beginStep_100 : decode cX1_beginStep 100 = .ok (.getfield 82, 3) := by decide +kernel
theorem dX1_beginStep_103 : decode cX1_beginStep 103 = .ok (.iconst 1, 1) := by decide +kernel
theorem dX1_beginStep_104 : decode cX1_beginStep 104 = .ok (.iadd, 1) := by decide +kernel
theorem dX1_beginStep_105 : decode cX1_beginStep 105 = .ok (.putfield 82, 3) := by decide +kernel
theorem dX1_beginStep_108 : decode cX1_beginStep 108 = .ok (.iload_n 3, 1) := by decide +kernel
theorem dX1_beginStep_109 : decode cX1_beginStep 109 = .ok (.ifCond .eq 24, 3) := by decide +kernel
theorem dX1_beginStep_112 : decode cX1_beginStep 112 = .ok (.aload_n 0, 1) := by decide +kernel
theorem dX1_beginStep_113 : decode cX1_beginStep 113 = .ok (.getfield 18, 3) := by decide +kernel
theorem dX1_beginStep_116 : decode cX1_beginStep 116 = .ok (.aload_n 0, 1) := by decide +kernel
theorem dX1_beginStep_117 : decode cX1_beginStep 117 = .ok (.getfield 27, 3) := by decide +kernel
theorem dX1_beginStep_120 : decode cX1_beginStep 120 = .ok (.iload 5, 2) := by decide +kernel
theorem dX1_beginStep_122 : decode cX1_beginStep 122 = .ok (.iastore, 1) := by decide +kernel
theorem dX1_beginStep_123 : decode cX1_beginStep 123 = .ok (.aload_n 0, 1) := by decide +kernel
theorem dX1_beginStep_124 : decode cX1_beginStep 124 = .ok (.dup, 1) := by decide +kernel
theorem dX1_beginStep_125 : decode cX1_beginStep 125 = .ok (.getfield 27, 3) := by decide +kernel
theorem dX1_beginStep_128 : decode cX1_beginStep 128 = .ok (.iconst 1, 1) := by decide +kernel
theorem dX1_beginStep_129 : decode cX1_beginStep 129 = .ok (.iadd, 1) := by decide +kernel
theorem dX1_beginStep_130 : decode cX1_beginStep 130 = .ok (.putfield 27, 3) := by decide +kernel
theorem dX1_beginStep_133 : decode cX1_beginStep 133 = .ok (.aload_n 0, 1) := by decide +kernel
theorem dX1_beginStep_134 : decode cX1_beginStep 134 = .ok (.getfield 12, 3) := by decide +kernel
theorem dX1_beginStep_137 : decode cX1_beginStep 137 = .ok (.invokevirtual 76, 3) := by decide +kernel
theorem dX1_beginStep_140 : decode cX1_beginStep 140 = .ok (.iload 5, 2) := by decide +kernel
theorem dX1_beginStep_142 : decode cX1_beginStep 142 = .ok (.ireturn, 1) := by decide +kernel
set_option maxRecDepth 100000 in
def f_X1_beginStep_133 (l0 : Nat) (l5 : Int32) (μ : dtM) : Option (Int32 × dtM) :=
  (opGR 1 0 μ l0).bind fun x1 => (opRv 8 μ x1).bind fun _ => (f_X8_advance x1 μ).bind fun μ4 => some (l5, μ4)
set_option maxRecDepth 100000 in
def f_X1_beginStep_74 (l0 : Nat) (l1 : Nat) (l2 : Int32) (l3 : Int32) (l4 : Int32) (μ : dtM) : Option (Int32 × dtM) :=
  if l4 = 0 then ((opRv 0 μ l1).bind fun _ => opCall (f_X0_append l1 l2 μ) fun x7 μ5 => (opGI 0 1 μ5 l1).bind fun x8 => (opPI 0 1 μ5 l1 (x8 + (1 : Int32))).bind fun μ10 => if l3 = 0 then (f_X1_beginStep_133 l0 x7 μ10) else ((opGR 1 1 μ10 l0).bind fun x15 => (opGI 1 2 μ10 l0).bind fun x17 => (opSI μ10 x15 x17 x7).bind fun μ19 => (opGI 1 2 μ19 l0).bind fun x21 => (opPI 1 2 μ19 l0 (x21 + (1 : Int32))).bind fun μ23 => f_X1_beginStep_133 l0 x7 μ23)) else ((opGR 1 0 μ l0).bind fun x25 => (opRv 8 μ x25).bind fun _ => opCall (f_X8_flaw x25 l4 μ) fun x30 μ28 => some ((-1 : Int32), μ28))
set_option maxRecDepth 100000 in
def f_X1_beginStep_25 (l0 : Nat) (l1 : Nat) (l2 : Int32) (s0 : Int32) (μ : dtM) : Option (Int32 × dtM) :=
  opCall (f_X1_isStepWord l2 μ) fun x3 μ1 => if x3 = 0 then (f_X1_beginStep_74 l0 l1 l2 s0 (2 : Int32) μ1) else ((opGI 0 1 μ1 l1).bind fun x7 => if x7 < (30 : Int32) then (if s0 = 0 then (f_X1_beginStep_74 l0 l1 l2 s0 (0 : Int32) μ1) else ((opGI 1 2 μ1 l0).bind fun x15 => if x15 < (3 : Int32) then (f_X1_beginStep_74 l0 l1 l2 s0 (0 : Int32) μ1) else (f_X1_beginStep_74 l0 l1 l2 s0 (7 : Int32) μ1))) else (f_X1_beginStep_74 l0 l1 l2 s0 (6 : Int32) μ1))
set_option maxRecDepth 100000 in
def f_X1_beginStep_20 (l0 : Nat) (l1 : Nat) (l2 : Int32) (μ : dtM) : Option (Int32 × dtM) :=
  f_X1_beginStep_25 l0 l1 l2 (1 : Int32) μ
set_option maxRecDepth 100000 in
def f_X1_beginStep (p0 : Nat) (p1 : Nat) (μ : dtM) : Option (Int32 × dtM) :=
  (opGR 1 0 μ p0).bind fun x1 => (opGI 8 6 μ x1).bind fun x3 => if x3 = (19 : Int32) then (f_X1_beginStep_20 p0 p1 x3 μ) else (if x3 = (21 : Int32) then (f_X1_beginStep_20 p0 p1 x3 μ) else (f_X1_beginStep_25 p0 p1 x3 (0 : Int32) μ))
set_option maxRecDepth 100000 in
theorem c_X1_beginStep_133 {r : Int32} {F : dtM} (l0 : Nat) (l5 : Int32) (μ : dtM) (h : f_X1_beginStep_133 l0 l5 μ = some (r, F)) : dtW yX1_beginStep cX1_beginStep 6 (some .int) 8 (some (.int r)) F 133 [some (.ref l0), none, none, none, none, some (.int l5)] [] μ := by
  rw [f_X1_beginStep_133] at h
  refine dr_aload_n l0 dX1_beginStep_133 rfl ?_
  obtain ⟨x1, e2, h⟩ := dtBind h
  refine dr_getR x1 dX1_beginStep_134 fl_RX1_12 e2 ?_
  obtain ⟨_, hb3, h⟩ := dtBind h
  obtain ⟨μ4, e5, h⟩ := dtBind h
  refine dr_callV_v (S0 := []) [] μ4 dX1_beginStep_137 (c_X8_advance x1 μ e5) mf_X8_advance wt_551 wt_552 wt_786 rfl (dtRv hb3) (by decide) rfl (Nat.le_of_ble_eq_true rfl) (Nat.le_of_ble_eq_true rfl) rfl ?_
  refine dr_iload l5 dX1_beginStep_140 rfl ?_
  cases h
  exact dr_ireturn dX1_beginStep_142 rfl
set_option maxRecDepth 100000 in
theorem c_X1_beginStep_74 {r : Int32} {F : dtM} (l0 : Nat) (l1 : Nat) (l2 : Int32) (l3 : Int32) (l4 : Int32) (μ : dtM) (h : f_X1_beginStep_74 l0 l1 l2 l3 l4 μ = some (r, F)) : dtW yX1_beginStep cX1_beginStep 6 (some .int) 8 (some (.int r)) F 74 [some (.ref l0), some (.ref l1), some (.int l2), some (.int l3), some (.int l4)] [] μ := by
  rw [f_X1_beginStep_74] at h
  refine dr_iload l4 dX1_beginStep_74 rfl ?_
  obtain ⟨ht2, hf3⟩ := dtIte h
  refine dr_if_eq 91 dX1_beginStep_76 (by decide) (fun hc1 => ?_) (fun hc1 => ?_)
  · have h := ht2 hc1
    refine dr_aload_n l1 dX1_beginStep_91 rfl ?_
    refine dr_iload_n l2 dX1_beginStep_92 rfl ?_
    obtain ⟨_, hb4, h⟩ := dtBind h
    obtain ⟨x7, μ5, e6, h⟩ := dtCall h
    refine dr_callV_i (S0 := []) [.int l2] x7 μ5 dX1_beginStep_93 (c_X0_append l1 l2 μ e6) mf_X0_append wt_783 wt_784 wt_782 rfl (dtRv hb4) (by decide) rfl (Nat.le_of_ble_eq_true rfl) (Nat.le_of_ble_eq_true rfl) rfl ?_
    refine dr_istore [some (.ref l0), some (.ref l1), some (.int l2), some (.int l3), some (.int l4), some (.int x7)] dX1_beginStep_96 rfl rfl rfl ?_
    refine dr_aload_n l1 dX1_beginStep_98 rfl ?_
    refine dr_dup dX1_beginStep_99 rfl ?_
    obtain ⟨x8, e9, h⟩ := dtBind h
    refine dr_getI x8 dX1_beginStep_100 fl_RX1_82 e9 ?_
    refine dr_iconst (1 : Int32) dX1_beginStep_103 (by decide) ?_
    refine dr_iadd dX1_beginStep_104 ?_
    obtain ⟨μ10, e11, h⟩ := dtBind h
    refine dr_putI μ10 dX1_beginStep_105 fl_RX1_82 rfl e11 ?_
    refine dr_iload_n l3 dX1_beginStep_108 rfl ?_
    obtain ⟨ht13, hf14⟩ := dtIte h
    refine dr_if_eq 133 dX1_beginStep_109 (by decide) (fun hc12 => ?_) (fun hc12 => ?_)
    · have h := ht13 hc12
      refine dr_mask [true, false, false, false, false, true] [some (.ref l0), none, none, none, none, some (.int x7)] rfl ?_
      exact c_X1_beginStep_133 l0 x7 μ10 h
    · have h := hf14 hc12
      refine dr_aload_n l0 dX1_beginStep_112 rfl ?_
      obtain ⟨x15, e16, h⟩ := dtBind h
      refine dr_getR x15 dX1_beginStep_113 fl_RX1_18 e16 ?_
      refine dr_aload_n l0 dX1_beginStep_116 rfl ?_
      obtain ⟨x17, e18, h⟩ := dtBind h
      refine dr_getI x17 dX1_beginStep_117 fl_RX1_27 e18 ?_
      refine dr_iload x7 dX1_beginStep_120 rfl ?_
      obtain ⟨μ19, e20, h⟩ := dtBind h
      refine dr_iastore μ19 dX1_beginStep_122 e20 ?_
      refine dr_aload_n l0 dX1_beginStep_123 rfl ?_
      refine dr_dup dX1_beginStep_124 rfl ?_
      obtain ⟨x21, e22, h⟩ := dtBind h
      refine dr_getI x21 dX1_beginStep_125 fl_RX1_27 e22 ?_
      refine dr_iconst (1 : Int32) dX1_beginStep_128 (by decide) ?_
      refine dr_iadd dX1_beginStep_129 ?_
      obtain ⟨μ23, e24, h⟩ := dtBind h
      refine dr_putI μ23 dX1_beginStep_130 fl_RX1_27 rfl e24 ?_
      refine dr_mask [true, false, false, false, false, true] [some (.ref l0), none, none, none, none, some (.int x7)] rfl ?_
      exact c_X1_beginStep_133 l0 x7 μ23 h
  · have h := hf3 hc1
    refine dr_aload_n l0 dX1_beginStep_79 rfl ?_
    obtain ⟨x25, e26, h⟩ := dtBind h
    refine dr_getR x25 dX1_beginStep_80 fl_RX1_12 e26 ?_
    refine dr_iload l4 dX1_beginStep_83 rfl ?_
    obtain ⟨_, hb27, h⟩ := dtBind h
    obtain ⟨x30, μ28, e29, h⟩ := dtCall h
    refine dr_callV_i (S0 := []) [.int l4] x30 μ28 dX1_beginStep_85 (c_X8_flaw x25 l4 μ e29) mf_X8_flaw wt_629 wt_630 wt_781 rfl (dtRv hb27) (by decide) rfl (Nat.le_of_ble_eq_true rfl) (Nat.le_of_ble_eq_true rfl) rfl ?_
    refine dr_pop dX1_beginStep_88 rfl ?_
    refine dr_iconst (-1 : Int32) dX1_beginStep_89 (by decide) ?_
    cases h
    exact dr_ireturn dX1_beginStep_90 rfl
set_option maxRecDepth 100000 in
theorem c_X1_beginStep_25 {r : Int32} {F : dtM} (l0 : Nat) (l1 : Nat) (l2 : Int32) (s0 : Int32) (μ : dtM) (h : f_X1_beginStep_25 l0 l1 l2 s0 μ = some (r, F)) : dtW yX1_beginStep cX1_beginStep 6 (some .int) 8 (some (.int r)) F 25 [some (.ref l0), some (.ref l1), some (.int l2)] [.int s0] μ := by
  rw [f_X1_beginStep_25] at h
  refine dr_istore_n 3 [some (.ref l0), some (.ref l1), some (.int l2), some (.int s0)] dX1_beginStep_25 rfl rfl rfl rfl ?_
  refine dr_iconst (0 : Int32) dX1_beginStep_26 (by decide) ?_
  refine dr_istore [some (.ref l0), some (.ref l1), some (.int l2), some (.int s0), some (.int (0 : Int32))] dX1_beginStep_27 rfl rfl rfl ?_
  refine dr_iload_n l2 dX1_beginStep_29 rfl ?_
  obtain ⟨x3, μ1, e2, h⟩ := dtCall h
  refine dr_callS_i (S0 := []) [.int l2] x3 μ1 dX1_beginStep_30 (c_X1_isStepWord l2 μ e2) mf_X1_isStepWord wt_793 wt_792 rfl (Nat.le_of_ble_eq_true rfl) (Nat.le_of_ble_eq_true rfl) rfl ?_
  obtain ⟨ht5, hf6⟩ := dtIte h
  refine dr_if_ne 42 dX1_beginStep_33 (by decide) (fun hc4 => ?_) (fun hc4 => ?_)
  · have h := hf6 hc4
    refine dr_aload_n l1 dX1_beginStep_42 rfl ?_
    obtain ⟨x7, e8, h⟩ := dtBind h
    refine dr_getI x7 dX1_beginStep_43 fl_RX1_82 e8 ?_
    refine dr_bipush (30 : Int32) dX1_beginStep_46 (by decide) ?_
    obtain ⟨ht10, hf11⟩ := dtIte h
    refine dr_icmp_lt 58 dX1_beginStep_48 (by decide) (fun hc9 => ?_) (fun hc9 => ?_)
    · have h := ht10 hc9
      refine dr_iload_n s0 dX1_beginStep_58 rfl ?_
      obtain ⟨ht13, hf14⟩ := dtIte h
      refine dr_if_eq 74 dX1_beginStep_59 (by decide) (fun hc12 => ?_) (fun hc12 => ?_)
      · have h := ht13 hc12
        exact c_X1_beginStep_74 l0 l1 l2 s0 (0 : Int32) μ1 h
      · have h := hf14 hc12
        refine dr_aload_n l0 dX1_beginStep_62 rfl ?_
        obtain ⟨x15, e16, h⟩ := dtBind h
        refine dr_getI x15 dX1_beginStep_63 fl_RX1_27 e16 ?_
        refine dr_iconst (3 : Int32) dX1_beginStep_66 (by decide) ?_
        obtain ⟨ht18, hf19⟩ := dtIte h
        refine dr_icmp_lt 74 dX1_beginStep_67 (by decide) (fun hc17 => ?_) (fun hc17 => ?_)
        · have h := ht18 hc17
          exact c_X1_beginStep_74 l0 l1 l2 s0 (0 : Int32) μ1 h
        · have h := hf19 hc17
          refine dr_bipush (7 : Int32) dX1_beginStep_70 (by decide) ?_
          refine dr_istore [some (.ref l0), some (.ref l1), some (.int l2), some (.int s0), some (.int (7 : Int32))] dX1_beginStep_72 rfl rfl rfl ?_
          exact c_X1_beginStep_74 l0 l1 l2 s0 (7 : Int32) μ1 h
    · have h := hf11 hc9
      refine dr_bipush (6 : Int32) dX1_beginStep_51 (by decide) ?_
      refine dr_istore [some (.ref l0), some (.ref l1), some (.int l2), some (.int s0), some (.int (6 : Int32))] dX1_beginStep_53 rfl rfl rfl ?_
      refine dr_goto 74 dX1_beginStep_55 (by decide) ?_
      exact c_X1_beginStep_74 l0 l1 l2 s0 (6 : Int32) μ1 h
  · have h := ht5 hc4
    refine dr_iconst (2 : Int32) dX1_beginStep_36 (by decide) ?_
    refine dr_istore [some (.ref l0), some (.ref l1), some (.int l2), some (.int s0), some (.int (2 : Int32))] dX1_beginStep_37 rfl rfl rfl ?_
    refine dr_goto 74 dX1_beginStep_39 (by decide) ?_
    exact c_X1_beginStep_74 l0 l1 l2 s0 (2 : Int32) μ1 h
set_option maxRecDepth 100000 in
theorem c_X1_beginStep_20 {r : Int32} {F : dtM} (l0 : Nat) (l1 : Nat) (l2 : Int32) (μ : dtM) (h : f_X1_beginStep_20 l0 l1 l2 μ = some (r, F)) : dtW yX1_beginStep cX1_beginStep 6 (some .int) 8 (some (.int r)) F 20 [some (.ref l0), some (.ref l1), some (.int l2)] [] μ := by
  rw [f_X1_beginStep_20] at h
  refine dr_iconst (1 : Int32) dX1_beginStep_20 (by decide) ?_
  refine dr_goto 25 dX1_beginStep_21 (by decide) ?_
  exact c_X1_beginStep_25 l0 l1 l2 (1 : Int32) μ h
set_option maxRecDepth 100000 in
theorem c_X1_beginStep {r : Int32} {F : dtM} (p0 : Nat) (p1 : Nat) (μ : dtM) (h : f_X1_beginStep p0 p1 μ = some (r, F)) : dtMet yX1_beginStep cX1_beginStep 6 (some .int) 8 [.ref p0, .ref p1] μ (some (.int r)) F := by
  refine dtMet.of (by decide +kernel) (Nat.le_of_ble_eq_true rfl) (show dtW yX1_beginStep cX1_beginStep 6 (some .int) 8 (some (.int r)) F 0 [some (.ref p0), some (.ref p1)] [] μ from ?_)
  rw [f_X1_beginStep] at h
  refine dr_aload_n p0 dX1_beginStep_0 rfl ?_
  obtain ⟨x1, e2, h⟩ := dtBind h
  refine dr_getR x1 dX1_beginStep_1 fl_RX1_12 e2 ?_
  obtain ⟨x3, e4, h⟩ := dtBind h
  refine dr_getI x3 dX1_beginStep_4 fl_RX1_39 e4 ?_
  refine dr_istore_n 2 [some (.ref p0), some (.ref p1), some (.int x3)] dX1_beginStep_7 rfl rfl rfl rfl ?_
  refine dr_iload_n x3 dX1_beginStep_8 rfl ?_
  refine dr_bipush (19 : Int32) dX1_beginStep_9 (by decide) ?_
  obtain ⟨ht6, hf7⟩ := dtIte h
  refine dr_icmp_eq 20 dX1_beginStep_11 (by decide) (fun hc5 => ?_) (fun hc5 => ?_)
  · have h := ht6 hc5
    exact c_X1_beginStep_20 p0 p1 x3 μ h
  · have h := hf7 hc5
    refine dr_iload_n x3 dX1_beginStep_14 rfl ?_
    refine dr_bipush (21 : Int32) dX1_beginStep_15 (by decide) ?_
    obtain ⟨ht9, hf10⟩ := dtIte h
    refine dr_icmp_ne 24 dX1_beginStep_17 (by decide) (fun hc8 => ?_) (fun hc8 => ?_)
    · have h := hf10 hc8
      refine dr_iconst (0 : Int32) dX1_beginStep_24 (by decide) ?_
      exact c_X1_beginStep_25 p0 p1 x3 (0 : Int32) μ h
    · have h := ht9 hc8
      exact c_X1_beginStep_20 p0 p1 x3 μ h
/-! X8_isSign -/
theorem dX8_isSign_0 : decode cX8_isSign 0 = .ok (.aload_n 0, 1) := by decide +kernel
theorem dX8_isSign_1 : decode cX8_isSign 1 = .ok (.getfield 40, 3) := by decide +kernel
theorem dX8_isSign_4 : decode cX8_isSign 4 = .ok (.iconst 3, 1) := by decide +kernel
theorem dX8_isSign_5 : decode cX8_isSign 5 = .ok (.if_icmp .ne 15, 3) := by decide +kernel
theorem dX8_isSign_8 : decode cX8_isSign 8 = .ok (.aload_n 0, 1) := by decide +kernel
theorem dX8_isSign_9 : decode cX8_isSign 9 = .ok (.getfield 43, 3) := by decide +kernel
theorem dX8_isSign_12 : decode cX8_isSign 12 = .ok (.iload_n 1, 1) := by decide +kernel
theorem dX8_isSign_13 : decode cX8_isSign 13 = .ok (.if_icmp .ne 7, 3) := by decide +kernel
theorem dX8_isSign_16 : decode cX8_isSign 16 = .ok (.iconst 1, 1) := by decide +kernel
theorem dX8_isSign_17 : decode cX8_isSign 17 = .ok (.goto 4, 3) := by decide +kernel
theorem dX8_isSign_20 : decode cX8_isSign 20 = .ok (.iconst 0, 1) := by decide +kernel
theorem dX8_isSign_21 : decode cX8_isSign 21 = .ok (.ireturn, 1) := by decide +kernel
set_option maxRecDepth 100000 in
def f_X8_isSign_21 (s0 : Int32) (μ : dtM) : Option (Int32 × dtM) :=
  opRet s0 μ
set_option maxRecDepth 100000 in
def f_X8_isSign_20  (μ : dtM) : Option (Int32 × dtM) :=
  f_X8_isSign_21 (0 : Int32) μ
set_option maxRecDepth 100000 in
def f_X8_isSign (p0 : Nat) (p1 : Int32) (μ : dtM) : Option (Int32 × dtM) :=
  (opGI 8 4 μ p0).bind fun x1 => if x1 = (3 : Int32) then ((opGI 8 5 μ p0).bind fun x6 => if x6 = p1 then (f_X8_isSign_21 (1 : Int32) μ) else (f_X8_isSign_20 μ)) else (f_X8_isSign_20 μ)
set_option maxRecDepth 100000 in
theorem c_X8_isSign_21 {r : Int32} {F : dtM} (s0 : Int32) (μ : dtM) (h : f_X8_isSign_21 s0 μ = some (r, F)) : dtW yX8_isSign cX8_isSign 2 (some .boolean) 1 (some (.int r)) F 21 [] [.int s0] μ := by
  rw [f_X8_isSign_21] at h
  obtain ⟨hz, rfl, rfl⟩ := dtRet h
  exact dr_ireturn dX8_isSign_21 (dtNz hz)
set_option maxRecDepth 100000 in
theorem c_X8_isSign_20 {r : Int32} {F : dtM}  (μ : dtM) (h : f_X8_isSign_20  μ = some (r, F)) : dtW yX8_isSign cX8_isSign 2 (some .boolean) 1 (some (.int r)) F 20 [] [] μ := by
  rw [f_X8_isSign_20] at h
  refine dr_iconst (0 : Int32) dX8_isSign_20 (by decide) ?_
  exact c_X8_isSign_21 (0 : Int32) μ h
set_option maxRecDepth 100000 in
theorem c_X8_isSign {r : Int32} {F : dtM} (p0 : Nat) (p1 : Int32) (μ : dtM) (h : f_X8_isSign p0 p1 μ = some (r, F)) : dtMet yX8_isSign cX8_isSign 2 (some .boolean) 1 [.ref p0, .int p1] μ (some (.int r)) F := by
  refine dtMet.of (by decide +kernel) (Nat.le_of_ble_eq_true rfl) (show dtW yX8_isSign cX8_isSign 2 (some .boolean) 1 (some (.int r)) F 0 [some (.ref p0), some (.int p1)] [] μ from ?_)
  rw [f_X8_isSign] at h
  refine dr_aload_n p0 dX8_isSign_0 rfl ?_
  obtain ⟨x1, e2, h⟩ := dtBind h
  refine dr_getI x1 dX8_isSign_1 fl_RX8_40 e2 ?_
  refine dr_iconst (3 : Int32) dX8_isSign_4 (by decide) ?_
  obtain ⟨ht4, hf5⟩ := dtIte h
  refine dr_icmp_ne 20 dX8_isSign_5 (by decide) (fun hc3 => ?_) (fun hc3 => ?_)
  · have h := hf5 hc3
    refine dr_mask [] [] rfl ?_
    exact c_X8_isSign_20 μ h
  · have h := ht4 hc3
    refine dr_aload_n p0 dX8_isSign_8 rfl ?_
    obtain ⟨x6, e7, h⟩ := dtBind h
    refine dr_getI x6 dX8_isSign_9 fl_RX8_43 e7 ?_
    refine dr_iload_n p1 dX8_isSign_12 rfl ?_
    obtain ⟨ht9, hf10⟩ := dtIte h
    refine dr_icmp_ne 20 dX8_isSign_13 (by decide) (fun hc8 => ?_) (fun hc8 => ?_)
    · have h := hf10 hc8
      refine dr_mask [] [] rfl ?_
      exact c_X8_isSign_20 μ h
    · have h := ht9 hc8
      refine dr_iconst (1 : Int32) dX8_isSign_16 (by decide) ?_
      refine dr_goto 21 dX8_isSign_17 (by decide) ?_
      refine dr_mask [] [] rfl ?_
      exact c_X8_isSign_21 (1 : Int32) μ h
/-! X8_passSign -/
theorem dX8_passSign_0 : decode cX8_passSign 0 = .ok (.aload_n 0, 1) := by decide +kernel
theorem dX8_passSign_1 : decode cX8_passSign 1 = .ok (.iload_n 1, 1) := by decide +kernel
theorem dX8_passSign_2 : decode cX8_passSign 2 = .ok (.invokevirtual 80, 3) := by decide +kernel
theorem dX8_passSign_5 : decode cX8_passSign 5 = .ok (.ifCond .ne 9, 3) := by decide +kernel
theorem dX8_passSign_8 : decode cX8_passSign 8 = .ok (.aload_n 0, 1) := by decide +kernel
theorem dX8_passSign_9 : decode cX8_passSign 9 = .ok (.iconst 2, 1) := by decide +kernel
theorem dX8_passSign_10 : decode cX8_passSign 10 = .ok (.invokevirtual 84, 3) := by decide +kernel
theorem dX8_passSign_13 : decode cX8_passSign 13 = .ok (.ireturn, 1) := by decide +kernel
theorem dX8_passSign_14 : decode cX8_passSign 14 = .ok (.aload_n 0, 1) := by decide +kernel
theorem dX8_passSign_15 : decode cX8_passSign 15 = .ok (.invokevirtual 34, 3) := by decide +kernel
theorem dX8_passSign_18 : decode cX8_passSign 18 = .ok (.iconst 1, 1) := by decide +kernel
theorem dX8_passSign_19 : decode cX8_passSign 19 = .ok (.ireturn, 1) := by decide +kernel
set_option maxRecDepth 100000 in
def f_X8_passSign (p0 : Nat) (p1 : Int32) (μ : dtM) : Option (Int32 × dtM) :=
  (opRv 8 μ p0).bind fun _ => opCall (f_X8_isSign p0 p1 μ) fun x4 μ2 => if x4 = 0 then ((opRv 8 μ2 p0).bind fun _ => opCall (f_X8_flaw p0 (2 : Int32) μ2) fun x14 μ12 => opRet x14 μ12) else ((opRv 8 μ2 p0).bind fun _ => (f_X8_advance p0 μ2).bind fun μ9 => opRet (1 : Int32) μ9)
set_option maxRecDepth 100000 in
theorem c_X8_passSign {r : Int32} {F : dtM} (p0 : Nat) (p1 : Int32) (μ : dtM) (h : f_X8_passSign p0 p1 μ = some (r, F)) : dtMet yX8_passSign cX8_passSign 2 (some .boolean) 8 [.ref p0, .int p1] μ (some (.int r)) F := by
  refine dtMet.of (by decide +kernel) (Nat.le_of_ble_eq_true rfl) (show dtW yX8_passSign cX8_passSign 2 (some .boolean) 8 (some (.int r)) F 0 [some (.ref p0), some (.int p1)] [] μ from ?_)
  rw [f_X8_passSign] at h
  refine dr_aload_n p0 dX8_passSign_0 rfl ?_
  refine dr_iload_n p1 dX8_passSign_1 rfl ?_
  obtain ⟨_, hb1, h⟩ := dtBind h
  obtain ⟨x4, μ2, e3, h⟩ := dtCall h
  refine dr_callV_i (S0 := []) [.int p1] x4 μ2 dX8_passSign_2 (c_X8_isSign p0 p1 μ e3) mf_X8_isSign wt_643 wt_644 wt_642 rfl (dtRv hb1) (by decide) rfl (Nat.le_of_ble_eq_true rfl) (Nat.le_of_ble_eq_true rfl) rfl ?_
  obtain ⟨ht6, hf7⟩ := dtIte h
  refine dr_if_ne 14 dX8_passSign_5 (by decide) (fun hc5 => ?_) (fun hc5 => ?_)
  · have h := hf7 hc5
    refine dr_aload_n p0 dX8_passSign_14 rfl ?_
    obtain ⟨_, hb8, h⟩ := dtBind h
    obtain ⟨μ9, e10, h⟩ := dtBind h
    refine dr_callV_v (S0 := []) [] μ9 dX8_passSign_15 (c_X8_advance p0 μ2 e10) mf_X8_advance wt_551 wt_552 wt_550 rfl (dtRv hb8) (by decide) rfl (Nat.le_of_ble_eq_true rfl) (Nat.le_of_ble_eq_true rfl) rfl ?_
    refine dr_iconst (1 : Int32) dX8_passSign_18 (by decide) ?_
    obtain ⟨hz, rfl, rfl⟩ := dtRet h
    exact dr_ireturn dX8_passSign_19 (dtNz hz)
  · have h := ht6 hc5
    refine dr_aload_n p0 dX8_passSign_8 rfl ?_
    refine dr_iconst (2 : Int32) dX8_passSign_9 (by decide) ?_
    obtain ⟨_, hb11, h⟩ := dtBind h
    obtain ⟨x14, μ12, e13, h⟩ := dtCall h
    refine dr_callV_i (S0 := []) [.int (2 : Int32)] x14 μ12 dX8_passSign_10 (c_X8_flaw p0 (2 : Int32) μ2 e13) mf_X8_flaw wt_629 wt_630 wt_637 rfl (dtRv hb11) (by decide) rfl (Nat.le_of_ble_eq_true rfl) (Nat.le_of_ble_eq_true rfl) rfl ?_
    obtain ⟨hz, rfl, rfl⟩ := dtRet h
    exact dr_ireturn dX8_passSign_13 (dtNz hz)
/-! X1_readEnd -/
theorem dX1_readEnd_0 : decode cX1_readEnd 0 = .ok (.aload_n 0, 1) := by decide +kernel
theorem dX1_readEnd_1 : decode cX1_readEnd 1 = .ok (.getfield 27, 3) := by decide +kernel
theorem dX1_readEnd_4 : decode cX1_readEnd 4 = .ok (.ifCond .gt 12, 3) := by decide +kernel
theorem dX1_readEnd_7 : decode cX1_readEnd 7 = .ok (.aload_n 0, 1) := by decide +kernel
theorem dX1_readEnd_8 : decode cX1_readEnd 8 = .ok (.getfield 12, 3) := by decide +kernel
theorem dX1_readEnd_11 : decode cX1_readEnd 11 = .ok (.iconst 2, 1) := by decide +kernel
theorem dX1_readEnd_12 : decode cX1_readEnd 12 = .ok (.invokevirtual 65, 3) := by decide +kernel
theorem dX1_readEnd_15 : decode cX1_readEnd 15 = .ok (.ireturn, 1) := by decide +kernel
theorem dX1_readEnd_16 : decode cX1_readEnd 16 = .ok (.aload_n 0, 1) := by decide +kernel
theorem dX1_readEnd_17 : decode cX1_readEnd 17 = .ok (.dup, 1) := by decide +kernel
theorem dX1_readEnd_18 : decode cX1_readEnd 18 = .ok (.getfield 27, 3) := by decide +kernel
theorem dX1_readEnd_21 : decode cX1_readEnd 21 = .ok (.iconst 1, 1) := by decide +kernel
theorem dX1_readEnd_22 : decode cX1_readEnd 22 = .ok (.isub, 1) := by decide +kernel
theorem dX1_readEnd_23 : decode cX1_readEnd 23 = .ok (.putfield 27, 3) := by decide +kernel
theorem dX1_readEnd_26 : decode cX1_readEnd 26 = .ok (.aload_n 1, 1) := by decide +kernel
theorem dX1_readEnd_27 : decode cX1_readEnd 27 = .ok (.bipush 22, 2) := by decide +kernel
theorem dX1_readEnd_29 : decode cX1_readEnd 29 = .ok (.invokevirtual 69, 3) := by decide +kernel
theorem dX1_readEnd_32 : decode cX1_readEnd 32 = .ok (.istore_n 2, 1) := by decide +kernel
theorem dX1_readEnd_33 : decode cX1_readEnd 33 = .ok (.iload_n 2, 1) := by decide +kernel
theorem dX1_readEnd_34 : decode cX1_readEnd 34 = .ok (.iconst (-1), 1) := by decide +kernel
theorem dX1_readEnd_35 : decode cX1_readEnd 35 = .ok (.if_icmp .ne 5, 3) := by decide +kernel
theorem dX1_readEnd_38 : decode cX1_readEnd 38 = .ok (.iconst 0, 1) := by decide +kernel
theorem dX1_readEnd_39 : decode cX1_readEnd 39 = .ok (.ireturn, 1) := by decide +kernel
theorem dX1_readEnd_40 : decode cX1_readEnd 40 = .ok (.aload_n 1, 1) := by decide +kernel
theorem dX1_readEnd_41 : decode cX1_readEnd 41 = .ok (.getfield 73, 3) := by decide +kernel
theorem dX1_readEnd_44 : decode cX1_readEnd 44 = .ok (.iload_n 2, 1) := by decide +kernel
theorem dX1_readEnd_45 : decode cX1_readEnd 45 = .ok (.aload_n 0, 1) := by decide +kernel
theorem dX1_readEnd_46 : decode cX1_readEnd 46 = .ok (.getfield 18, 3) := by decide +kernel
theorem dX1_readEnd_49 : decode cX1_readEnd 49 = .ok (.aload_n 0, 1) := by decide +kernel
theorem dX1_readEnd_50 : decode cX1_readEnd 50 = .ok (.getfield 27, 3) := by decide +kernel
theorem dX1_readEnd_53 : decode cX1_readEnd 53 = .ok (.iaload, 1) := by decide +kernel
theorem dX1_readEnd_54 : decode cX1_readEnd 54 = .ok (.iastore, 1) := by decide +kernel
theorem dX1_readEnd_55 : decode cX1_readEnd 55 = .ok (.aload_n 1, 1) := by decide +kernel
theorem dX1_readEnd_56 : decode cX1_readEnd 56 = .ok (.getfield 73, 3) := by decide +kernel
theorem dX1_readEnd_59 : decode cX1_readEnd 59 = .ok (.aload_n 0, 1) := by decide +kernel
theorem dX1_readEnd_60 : decode cX1_readEnd 60 = .ok (.getfield 18, 3) := by decide +kernel
theorem dX1_readEnd_63 : decode cX1_readEnd 63 = .ok (.aload_n 0, 1) := by decide +kernel
theorem dX1_readEnd_64 : decode cX1_readEnd 64 = .ok (.getfield 27, 3) := by decide +kernel
theorem dX1_readEnd_67 : decode cX1_readEnd 67 = .ok (.iaload, 1) := by decide +kernel
theorem dX1_readEnd_68 : decode cX1_readEnd 68 = .ok (.iload_n 2, 1) := by decide +kernel
theorem dX1_readEnd_69 : decode cX1_readEnd 69 = .ok (.iastore, 1) := by decide +kernel
theorem dX1_readEnd_70 : decode cX1_readEnd 70 = .ok (.aload_n 0, 1) := by decide +kernel
theorem dX1_readEnd_71 : decode cX1_readEnd 71 = .ok (.getfield 12, 3) := by decide +kernel
theorem dX1_readEnd_74 : decode cX1_readEnd 74 = .ok (.invokevirtual 76, 3) := by decide +kernel
theorem dX1_readEnd_77 : decode cX1_readEnd 77 = .ok (.aload_n 0, 1) := by decide +kernel
theorem dX1_readEnd_78 : decode cX1_readEnd 78 = .ok (.getfield 12, 3) := by decide +kernel
theorem dX1_readEnd_81 : decode cX1_readEnd 81 = .ok (.bipush 59, 2) := by decide +kernel
theorem dX1_readEnd_83 : decode cX1_readEnd 83 = .ok (.invokevirtual 57, 3) := by decide +kernel
theorem dX1_readEnd_86 : decode cX1_readEnd 86 = .ok (.ireturn, 1) := by decide +kernel
set_option maxRecDepth 100000 in
def f_X1_readEnd (p0 : Nat) (p1 : Nat) (μ : dtM) : Option (Int32 × dtM) :=
  (opGI 1 2 μ p0).bind fun x1 => if 0 < x1 then ((opGI 1 2 μ p0).bind fun x6 => (opPI 1 2 μ p0 (x6 - (1 : Int32))).bind fun μ8 => (opRv 0 μ8 p1).bind fun _ => opCall (f_X0_append p1 (22 : Int32) μ8) fun x13 μ11 => if x13 = (-1 : Int32) then (opRet (0 : Int32) μ11) else ((opGR 0 8 μ11 p1).bind fun x17 => (opGR 1 1 μ11 p0).bind fun x19 => (opGI 1 2 μ11 p0).bind fun x21 => (opLI 1 μ11 x19 x21).bind fun x23 => (opSI μ11 x17 x13 x23).bind fun μ25 => (opGR 0 8 μ25 p1).bind fun x27 => (opGR 1 1 μ25 p0).bind fun x29 => (opGI 1 2 μ25 p0).bind fun x31 => (opLI 1 μ25 x29 x31).bind fun x33 => (opSI μ25 x27 x33 x13).bind fun μ35 => (opGR 1 0 μ35 p0).bind fun x37 => (opRv 8 μ35 x37).bind fun _ => (f_X8_advance x37 μ35).bind fun μ40 => (opGR 1 0 μ40 p0).bind fun x42 => (opRv 8 μ40 x42).bind fun _ => opCall (f_X8_passSign x42 (59 : Int32) μ40) fun x47 μ45 => opRet x47 μ45)) else ((opGR 1 0 μ p0).bind fun x48 => (opRv 8 μ x48).bind fun _ => opCall (f_X8_flaw x48 (2 : Int32) μ) fun x53 μ51 => opRet x53 μ51)
set_option maxRecDepth 100000 in
theorem c_X1_readEnd {r : Int32} {F : dtM} (p0 : Nat) (p1 : Nat) (μ : dtM) (h : f_X1_readEnd p0 p1 μ = some (r, F)) : dtMet yX1_readEnd cX1_readEnd 3 (some .boolean) 9 [.ref p0, .ref p1] μ (some (.int r)) F := by
  refine dtMet.of (by decide +kernel) (Nat.le_of_ble_eq_true rfl) (show dtW yX1_readEnd cX1_readEnd 3 (some .boolean) 9 (some (.int r)) F 0 [some (.ref p0), some (.ref p1)] [] μ from ?_)
  rw [f_X1_readEnd] at h
  refine dr_aload_n p0 dX1_readEnd_0 rfl ?_
  obtain ⟨x1, e2, h⟩ := dtBind h
  refine dr_getI x1 dX1_readEnd_1 fl_RX1_27 e2 ?_
  obtain ⟨ht4, hf5⟩ := dtIte h
  refine dr_if_gt 16 dX1_readEnd_4 (by decide) (fun hc3 => ?_) (fun hc3 => ?_)
  · have h := ht4 hc3
    refine dr_aload_n p0 dX1_readEnd_16 rfl ?_
    refine dr_dup dX1_readEnd_17 rfl ?_
    obtain ⟨x6, e7, h⟩ := dtBind h
    refine dr_getI x6 dX1_readEnd_18 fl_RX1_27 e7 ?_
    refine dr_iconst (1 : Int32) dX1_readEnd_21 (by decide) ?_
    refine dr_isub dX1_readEnd_22 ?_
    obtain ⟨μ8, e9, h⟩ := dtBind h
    refine dr_putI μ8 dX1_readEnd_23 fl_RX1_27 rfl e9 ?_
    refine dr_aload_n p1 dX1_readEnd_26 rfl ?_
    refine dr_bipush (22 : Int32) dX1_readEnd_27 (by decide) ?_
    obtain ⟨_, hb10, h⟩ := dtBind h
    obtain ⟨x13, μ11, e12, h⟩ := dtCall h
    refine dr_callV_i (S0 := []) [.int (22 : Int32)] x13 μ11 dX1_readEnd_29 (c_X0_append p1 (22 : Int32) μ8 e12) mf_X0_append wt_783 wt_784 wt_782 rfl (dtRv hb10) (by decide) rfl (Nat.le_of_ble_eq_true rfl) (Nat.le_of_ble_eq_true rfl) rfl ?_
    refine dr_istore_n 2 [some (.ref p0), some (.ref p1), some (.int x13)] dX1_readEnd_32 rfl rfl rfl rfl ?_
    refine dr_iload_n x13 dX1_readEnd_33 rfl ?_
    refine dr_iconst (-1 : Int32) dX1_readEnd_34 (by decide) ?_
    obtain ⟨ht15, hf16⟩ := dtIte h
    refine dr_icmp_ne 40 dX1_readEnd_35 (by decide) (fun hc14 => ?_) (fun hc14 => ?_)
    · have h := hf16 hc14
      refine dr_aload_n p1 dX1_readEnd_40 rfl ?_
      obtain ⟨x17, e18, h⟩ := dtBind h
      refine dr_getR x17 dX1_readEnd_41 fl_RX1_73 e18 ?_
      refine dr_iload_n x13 dX1_readEnd_44 rfl ?_
      refine dr_aload_n p0 dX1_readEnd_45 rfl ?_
      obtain ⟨x19, e20, h⟩ := dtBind h
      refine dr_getR x19 dX1_readEnd_46 fl_RX1_18 e20 ?_
      refine dr_aload_n p0 dX1_readEnd_49 rfl ?_
      obtain ⟨x21, e22, h⟩ := dtBind h
      refine dr_getI x21 dX1_readEnd_50 fl_RX1_27 e22 ?_
      obtain ⟨x23, e24, h⟩ := dtBind h
      refine dr_iaload x23 dX1_readEnd_53 e24 ?_
      obtain ⟨μ25, e26, h⟩ := dtBind h
      refine dr_iastore μ25 dX1_readEnd_54 e26 ?_
      refine dr_aload_n p1 dX1_readEnd_55 rfl ?_
      obtain ⟨x27, e28, h⟩ := dtBind h
      refine dr_getR x27 dX1_readEnd_56 fl_RX1_73 e28 ?_
      refine dr_aload_n p0 dX1_readEnd_59 rfl ?_
      obtain ⟨x29, e30, h⟩ := dtBind h
      refine dr_getR x29 dX1_readEnd_60 fl_RX1_18 e30 ?_
      refine dr_aload_n p0 dX1_readEnd_63 rfl ?_
      obtain ⟨x31, e32, h⟩ := dtBind h
      refine dr_getI x31 dX1_readEnd_64 fl_RX1_27 e32 ?_
      obtain ⟨x33, e34, h⟩ := dtBind h
      refine dr_iaload x33 dX1_readEnd_67 e34 ?_
      refine dr_iload_n x13 dX1_readEnd_68 rfl ?_
      obtain ⟨μ35, e36, h⟩ := dtBind h
      refine dr_iastore μ35 dX1_readEnd_69 e36 ?_
      refine dr_aload_n p0 dX1_readEnd_70 rfl ?_
      obtain ⟨x37, e38, h⟩ := dtBind h
      refine dr_getR x37 dX1_readEnd_71 fl_RX1_12 e38 ?_
      obtain ⟨_, hb39, h⟩ := dtBind h
      obtain ⟨μ40, e41, h⟩ := dtBind h
      refine dr_callV_v (S0 := []) [] μ40 dX1_readEnd_74 (c_X8_advance x37 μ35 e41) mf_X8_advance wt_551 wt_552 wt_786 rfl (dtRv hb39) (by decide) rfl (Nat.le_of_ble_eq_true rfl) (Nat.le_of_ble_eq_true rfl) rfl ?_
      refine dr_aload_n p0 dX1_readEnd_77 rfl ?_
      obtain ⟨x42, e43, h⟩ := dtBind h
      refine dr_getR x42 dX1_readEnd_78 fl_RX1_12 e43 ?_
      refine dr_bipush (59 : Int32) dX1_readEnd_81 (by decide) ?_
      obtain ⟨_, hb44, h⟩ := dtBind h
      obtain ⟨x47, μ45, e46, h⟩ := dtCall h
      refine dr_callV_i (S0 := []) [.int (59 : Int32)] x47 μ45 dX1_readEnd_83 (c_X8_passSign x42 (59 : Int32) μ40 e46) mf_X8_passSign wt_639 wt_640 wt_787 rfl (dtRv hb44) (by decide) rfl (Nat.le_of_ble_eq_true rfl) (Nat.le_of_ble_eq_true rfl) rfl ?_
      obtain ⟨hz, rfl, rfl⟩ := dtRet h
      exact dr_ireturn dX1_readEnd_86 (dtNz hz)
    · have h := ht15 hc14
      refine dr_iconst (0 : Int32) dX1_readEnd_38 (by decide) ?_
      obtain ⟨hz, rfl, rfl⟩ := dtRet h
      exact dr_ireturn dX1_readEnd_39 (dtNz hz)
  · have h := hf5 hc3
    refine dr_aload_n p0 dX1_readEnd_7 rfl ?_
    obtain ⟨x48, e49, h⟩ := dtBind h
    refine dr_getR x48 dX1_readEnd_8 fl_RX1_12 e49 ?_
    refine dr_iconst (2 : Int32) dX1_readEnd_11 (by decide) ?_
    obtain ⟨_, hb50, h⟩ := dtBind h
    obtain ⟨x53, μ51, e52, h⟩ := dtCall h
    refine dr_callV_i (S0 := []) [.int (2 : Int32)] x53 μ51 dX1_readEnd_12 (c_X8_flaw x48 (2 : Int32) μ e52) mf_X8_flaw wt_629 wt_630 wt_781 rfl (dtRv hb50) (by decide) rfl (Nat.le_of_ble_eq_true rfl) (Nat.le_of_ble_eq_true rfl) rfl ?_
    obtain ⟨hz, rfl, rfl⟩ := dtRet h
    exact dr_ireturn dX1_readEnd_15 (dtNz hz)
/-! X8_isSoundWord -/
theorem dX8_isSoundWord_0 : decode cX8_isSoundWord 0 = .ok (.aload_n 0, 1) := by decide +kernel
theorem dX8_isSoundWord_1 : decode cX8_isSoundWord 1 = .ok (.getfield 46, 3) := by decide +kernel
theorem dX8_isSoundWord_4 : decode cX8_isSoundWord 4 = .ok (.bipush 7, 2) := by decide +kernel
theorem dX8_isSoundWord_6 : decode cX8_isSoundWord 6 = .ok (.if_icmp .lt 16, 3) := by decide +kernel
theorem dX8_isSoundWord_9 : decode cX8_isSoundWord 9 = .ok (.aload_n 0, 1) := by decide +kernel
theorem dX8_isSoundWord_10 : decode cX8_isSoundWord 10 = .ok (.getfield 46, 3) := by decide +kernel
theorem dX8_isSoundWord_13 : decode cX8_isSoundWord 13 = .ok (.bipush 11, 2) := by decide +kernel
theorem dX8_isSoundWord_15 : decode cX8_isSoundWord 15 = .ok (.if_icmp .ge 7, 3) := by decide +kernel
theorem dX8_isSoundWord_18 : decode cX8_isSoundWord 18 = .ok (.iconst 1, 1) := by decide +kernel
theorem dX8_isSoundWord_19 : decode cX8_isSoundWord 19 = .ok (.goto 4, 3) := by decide +kernel
theorem dX8_isSoundWord_22 : decode cX8_isSoundWord 22 = .ok (.iconst 0, 1) := by decide +kernel
theorem dX8_isSoundWord_23 : decode cX8_isSoundWord 23 = .ok (.ireturn, 1) := by decide +kernel
set_option maxRecDepth 100000 in
def f_X8_isSoundWord_23 (s0 : Int32) (μ : dtM) : Option (Int32 × dtM) :=
  opRet s0 μ
set_option maxRecDepth 100000 in
def f_X8_isSoundWord_22  (μ : dtM) : Option (Int32 × dtM) :=
  f_X8_isSoundWord_23 (0 : Int32) μ
set_option maxRecDepth 100000 in
def f_X8_isSoundWord (p0 : Nat) (μ : dtM) : Option (Int32 × dtM) :=
  (opGI 8 6 μ p0).bind fun x1 => if x1 < (7 : Int32) then (f_X8_isSoundWord_22 μ) else ((opGI 8 6 μ p0).bind fun x6 => if (11 : Int32) ≤ x6 then (f_X8_isSoundWord_22 μ) else (f_X8_isSoundWord_23 (1 : Int32) μ))
set_option maxRecDepth 100000 in
theorem c_X8_isSoundWord_23 {r : Int32} {F : dtM} (s0 : Int32) (μ : dtM) (h : f_X8_isSoundWord_23 s0 μ = some (r, F)) : dtW yX8_isSoundWord cX8_isSoundWord 1 (some .boolean) 1 (some (.int r)) F 23 [] [.int s0] μ := by
  rw [f_X8_isSoundWord_23] at h
  obtain ⟨hz, rfl, rfl⟩ := dtRet h
  exact dr_ireturn dX8_isSoundWord_23 (dtNz hz)
set_option maxRecDepth 100000 in
theorem c_X8_isSoundWord_22 {r : Int32} {F : dtM}  (μ : dtM) (h : f_X8_isSoundWord_22  μ = some (r, F)) : dtW yX8_isSoundWord cX8_isSoundWord 1 (some .boolean) 1 (some (.int r)) F 22 [] [] μ := by
  rw [f_X8_isSoundWord_22] at h
  refine dr_iconst (0 : Int32) dX8_isSoundWord_22 (by decide) ?_
  exact c_X8_isSoundWord_23 (0 : Int32) μ h
set_option maxRecDepth 100000 in
theorem c_X8_isSoundWord {r : Int32} {F : dtM} (p0 : Nat) (μ : dtM) (h : f_X8_isSoundWord p0 μ = some (r, F)) : dtMet yX8_isSoundWord cX8_isSoundWord 1 (some .boolean) 1 [.ref p0] μ (some (.int r)) F := by
  refine dtMet.of (by decide +kernel) (Nat.le_of_ble_eq_true rfl) (show dtW yX8_isSoundWord cX8_isSoundWord 1 (some .boolean) 1 (some (.int r)) F 0 [some (.ref p0)] [] μ from ?_)
  rw [f_X8_isSoundWord] at h
  refine dr_aload_n p0 dX8_isSoundWord_0 rfl ?_
  obtain ⟨x1, e2, h⟩ := dtBind h
  refine dr_getI x1 dX8_isSoundWord_1 fl_RX8_46 e2 ?_
  refine dr_bipush (7 : Int32) dX8_isSoundWord_4 (by decide) ?_
  obtain ⟨ht4, hf5⟩ := dtIte h
  refine dr_icmp_lt 22 dX8_isSoundWord_6 (by decide) (fun hc3 => ?_) (fun hc3 => ?_)
  · have h := ht4 hc3
    refine dr_mask [] [] rfl ?_
    exact c_X8_isSoundWord_22 μ h
  · have h := hf5 hc3
    refine dr_aload_n p0 dX8_isSoundWord_9 rfl ?_
    obtain ⟨x6, e7, h⟩ := dtBind h
    refine dr_getI x6 dX8_isSoundWord_10 fl_RX8_46 e7 ?_
    refine dr_bipush (11 : Int32) dX8_isSoundWord_13 (by decide) ?_
    obtain ⟨ht9, hf10⟩ := dtIte h
    refine dr_icmp_ge 22 dX8_isSoundWord_15 (by decide) (fun hc8 => ?_) (fun hc8 => ?_)
    · have h := ht9 hc8
      refine dr_mask [] [] rfl ?_
      exact c_X8_isSoundWord_22 μ h
    · have h := hf10 hc8
      refine dr_iconst (1 : Int32) dX8_isSoundWord_18 (by decide) ?_
      refine dr_goto 23 dX8_isSoundWord_19 (by decide) ?_
      refine dr_mask [] [] rfl ?_
      exact c_X8_isSoundWord_23 (1 : Int32) μ h
/-! X8_passSound -/
theorem dX8_passSound_0 : decode cX8_passSound 0 = .ok (.aload_n 0, 1) := by decide +kernel
theorem dX8_passSound_1 : decode cX8_passSound 1 = .ok (.invokevirtual 88, 3) := by decide +kernel
theorem dX8_passSound_4 : decode cX8_passSound 4 = .ok (.ifCond .ne 11, 3) := by decide +kernel
theorem dX8_passSound_7 : decode cX8_passSound 7 = .ok (.aload_n 0, 1) := by decide +kernel
theorem dX8_passSound_8 : decode cX8_passSound 8 = .ok (.iconst 2, 1) := by decide +kernel
theorem dX8_passSound_9 : decode cX8_passSound 9 = .ok (.invokevirtual 84, 3) := by decide +kernel
theorem dX8_passSound_12 : decode cX8_passSound 12 = .ok (.pop, 1) := by decide +kernel
theorem dX8_passSound_13 : decode cX8_passSound 13 = .ok (.iconst (-1), 1) := by decide +kernel
theorem dX8_passSound_14 : decode cX8_passSound 14 = .ok (.ireturn, 1) := by decide +kernel
theorem dX8_passSound_15 : decode cX8_passSound 15 = .ok (.aload_n 0, 1) := by decide +kernel
theorem dX8_passSound_16 : decode cX8_passSound 16 = .ok (.getfield 46, 3) := by decide +kernel
theorem dX8_passSound_19 : decode cX8_passSound 19 = .ok (.bipush 7, 2) := by decide +kernel
theorem dX8_passSound_21 : decode cX8_passSound 21 = .ok (.isub, 1) := by decide +kernel
theorem dX8_passSound_22 : decode cX8_passSound 22 = .ok (.istore_n 1, 1) := by decide +kernel
theorem dX8_passSound_23 : decode cX8_passSound 23 = .ok (.aload_n 0, 1) := by decide +kernel
theorem dX8_passSound_24 : decode cX8_passSound 24 = .ok (.invokevirtual 34, 3) := by decide +kernel
theorem dX8_passSound_27 : decode cX8_passSound 27 = .ok (.iload_n 1, 1) := by decide +kernel
theorem dX8_passSound_28 : decode cX8_passSound 28 = .ok (.ireturn, 1) := by decide +kernel
set_option maxRecDepth 100000 in
def f_X8_passSound (p0 : Nat) (μ : dtM) : Option (Int32 × dtM) :=
  (opRv 8 μ p0).bind fun _ => opCall (f_X8_isSoundWord p0 μ) fun x4 μ2 => if x4 = 0 then ((opRv 8 μ2 p0).bind fun _ => opCall (f_X8_flaw p0 (2 : Int32) μ2) fun x18 μ16 => some ((-1 : Int32), μ16)) else ((opGI 8 6 μ2 p0).bind fun x8 => (some (x8 - (7 : Int32))).bind fun x10 => (opRv 8 μ2 p0).bind fun _ => (f_X8_advance p0 μ2).bind fun μ13 => some (x10, μ13))
set_option maxRecDepth 100000 in
theorem c_X8_passSound {r : Int32} {F : dtM} (p0 : Nat) (μ : dtM) (h : f_X8_passSound p0 μ = some (r, F)) : dtMet yX8_passSound cX8_passSound 2 (some .int) 8 [.ref p0] μ (some (.int r)) F := by
  refine dtMet.of (by decide +kernel) (Nat.le_of_ble_eq_true rfl) (show dtW yX8_passSound cX8_passSound 2 (some .int) 8 (some (.int r)) F 0 [some (.ref p0)] [] μ from ?_)
  rw [f_X8_passSound] at h
  refine dr_aload_n p0 dX8_passSound_0 rfl ?_
  obtain ⟨_, hb1, h⟩ := dtBind h
  obtain ⟨x4, μ2, e3, h⟩ := dtCall h
  refine dr_callV_i (S0 := []) [] x4 μ2 dX8_passSound_1 (c_X8_isSoundWord p0 μ e3) mf_X8_isSoundWord wt_714 wt_715 wt_721 rfl (dtRv hb1) (by decide) rfl (Nat.le_of_ble_eq_true rfl) (Nat.le_of_ble_eq_true rfl) rfl ?_
  obtain ⟨ht6, hf7⟩ := dtIte h
  refine dr_if_ne 15 dX8_passSound_4 (by decide) (fun hc5 => ?_) (fun hc5 => ?_)
  · have h := hf7 hc5
    refine dr_aload_n p0 dX8_passSound_15 rfl ?_
    obtain ⟨x8, e9, h⟩ := dtBind h
    refine dr_getI x8 dX8_passSound_16 fl_RX8_46 e9 ?_
    refine dr_bipush (7 : Int32) dX8_passSound_19 (by decide) ?_
    refine dr_isub dX8_passSound_21 ?_
    obtain ⟨x10, e11, h⟩ := dtBind h
    refine dr_nmi e11 ?_
    refine dr_istore_n 1 [some (.ref p0), some (.int x10)] dX8_passSound_22 rfl rfl rfl rfl ?_
    refine dr_aload_n p0 dX8_passSound_23 rfl ?_
    obtain ⟨_, hb12, h⟩ := dtBind h
    obtain ⟨μ13, e14, h⟩ := dtBind h
    refine dr_callV_v (S0 := []) [] μ13 dX8_passSound_24 (c_X8_advance p0 μ2 e14) mf_X8_advance wt_551 wt_552 wt_550 rfl (dtRv hb12) (by decide) rfl (Nat.le_of_ble_eq_true rfl) (Nat.le_of_ble_eq_true rfl) rfl ?_
    refine dr_iload_n x10 dX8_passSound_27 rfl ?_
    cases h
    exact dr_ireturn dX8_passSound_28 rfl
  · have h := ht6 hc5
    refine dr_aload_n p0 dX8_passSound_7 rfl ?_
    refine dr_iconst (2 : Int32) dX8_passSound_8 (by decide) ?_
    obtain ⟨_, hb15, h⟩ := dtBind h
    obtain ⟨x18, μ16, e17, h⟩ := dtCall h
    refine dr_callV_i (S0 := []) [.int (2 : Int32)] x18 μ16 dX8_passSound_9 (c_X8_flaw p0 (2 : Int32) μ2 e17) mf_X8_flaw wt_629 wt_630 wt_637 rfl (dtRv hb15) (by decide) rfl (Nat.le_of_ble_eq_true rfl) (Nat.le_of_ble_eq_true rfl) rfl ?_
    refine dr_pop dX8_passSound_12 rfl ?_
    refine dr_iconst (-1 : Int32) dX8_passSound_13 (by decide) ?_
    cases h
    exact dr_ireturn dX8_passSound_14 rfl
/-! X1_readSound -/
theorem dX1_readSound_0 : decode cX1_readSound 0 = .ok (.aload_n 1, 1) := by decide +kernel
theorem dX1_readSound_1 : decode cX1_readSound 1 = .ok (.getfield 144, 3) := by decide +kernel
theorem dX1_readSound_4 : decode cX1_readSound 4 = .ok (.iload_n 2, 1) := by decide +kernel
theorem dX1_readSound_5 : decode cX1_readSound 5 = .ok (.aload_n 0, 1) := by decide +kernel
theorem dX1_readSound_6 : decode cX1_readSound 6 = .ok (.getfield 12, 3) := by decide +kernel
theorem dX1_readSound_9 : decode cX1_readSound 9 = .ok (.invokevirtual 147, 3) := by decide +kernel
theorem dX1_readSound_12 : decode cX1_readSound 12 = .ok (.iastore, 1) := by decide +kernel
theorem dX1_readSound_13 : decode cX1_readSound 13 = .ok (.aload_n 1, 1) := by decide +kernel
theorem dX1_readSound_14 : decode cX1_readSound 14 = .ok (.getfield 144, 3) := by decide +kernel
theorem dX1_readSound_17 : decode cX1_readSound 17 = .ok (.iload_n 2, 1) := by decide +kernel
theorem dX1_readSound_18 : decode cX1_readSound 18 = .ok (.iaload, 1) := by decide +kernel
theorem dX1_readSound_19 : decode cX1_readSound 19 = .ok (.iconst (-1), 1) := by decide +kernel
theorem dX1_readSound_20 : decode cX1_readSound 20 = .ok (.if_icmp .eq 7, 3) := by decide +kernel
theorem dX1_readSound_23 : decode cX1_readSound 23 = .ok (.iconst 1, 1) := by decide +kernel
theorem dX1_readSound_24 : decode cX1_readSound 24 = .ok (.goto 4, 3) := by decide +kernel
theorem dX1_readSound_27 : decode cX1_readSound 27 = .ok (.iconst 0, 1) := by decide +kernel
theorem dX1_readSound_28 : decode cX1_readSound 28 = .ok (.ireturn, 1) := by decide +kernel
set_option maxRecDepth 100000 in
def f_X1_readSound_28 (s0 : Int32) (μ : dtM) : Option (Int32 × dtM) :=
  opRet s0 μ
set_option maxRecDepth 100000 in
def f_X1_readSound (p0 : Nat) (p1 : Nat) (p2 : Int32) (μ : dtM) : Option (Int32 × dtM) :=
  (opGR 0 7 μ p1).bind fun x1 => (opGR 1 0 μ p0).bind fun x3 => (opRv 8 μ x3).bind fun _ => opCall (f_X8_passSound x3 μ) fun x8 μ6 => (opSI μ6 x1 p2 x8).bind fun μ9 => (opGR 0 7 μ9 p1).bind fun x11 => (opLI 1 μ9 x11 p2).bind fun x13 => if x13 = (-1 : Int32) then (f_X1_readSound_28 (0 : Int32) μ9) else (f_X1_readSound_28 (1 : Int32) μ9)
set_option maxRecDepth 100000 in
theorem c_X1_readSound_28 {r : Int32} {F : dtM} (s0 : Int32) (μ : dtM) (h : f_X1_readSound_28 s0 μ = some (r, F)) : dtW yX1_readSound cX1_readSound 3 (some .boolean) 9 (some (.int r)) F 28 [] [.int s0] μ := by
  rw [f_X1_readSound_28] at h
  obtain ⟨hz, rfl, rfl⟩ := dtRet h
  exact dr_ireturn dX1_readSound_28 (dtNz hz)
set_option maxRecDepth 100000 in
theorem c_X1_readSound {r : Int32} {F : dtM} (p0 : Nat) (p1 : Nat) (p2 : Int32) (μ : dtM) (h : f_X1_readSound p0 p1 p2 μ = some (r, F)) : dtMet yX1_readSound cX1_readSound 3 (some .boolean) 9 [.ref p0, .ref p1, .int p2] μ (some (.int r)) F := by
  refine dtMet.of (by decide +kernel) (Nat.le_of_ble_eq_true rfl) (show dtW yX1_readSound cX1_readSound 3 (some .boolean) 9 (some (.int r)) F 0 [some (.ref p0), some (.ref p1), some (.int p2)] [] μ from ?_)
  rw [f_X1_readSound] at h
  refine dr_aload_n p1 dX1_readSound_0 rfl ?_
  obtain ⟨x1, e2, h⟩ := dtBind h
  refine dr_getR x1 dX1_readSound_1 fl_RX1_144 e2 ?_
  refine dr_iload_n p2 dX1_readSound_4 rfl ?_
  refine dr_aload_n p0 dX1_readSound_5 rfl ?_
  obtain ⟨x3, e4, h⟩ := dtBind h
  refine dr_getR x3 dX1_readSound_6 fl_RX1_12 e4 ?_
  obtain ⟨_, hb5, h⟩ := dtBind h
  obtain ⟨x8, μ6, e7, h⟩ := dtCall h
  refine dr_callV_i (S0 := [.int p2, .ref x1]) [] x8 μ6 dX1_readSound_9 (c_X8_passSound x3 μ e7) mf_X8_passSound wt_718 wt_719 wt_827 rfl (dtRv hb5) (by decide) rfl (Nat.le_of_ble_eq_true rfl) (Nat.le_of_ble_eq_true rfl) rfl ?_
  obtain ⟨μ9, e10, h⟩ := dtBind h
  refine dr_iastore μ9 dX1_readSound_12 e10 ?_
  refine dr_aload_n p1 dX1_readSound_13 rfl ?_
  obtain ⟨x11, e12, h⟩ := dtBind h
  refine dr_getR x11 dX1_readSound_14 fl_RX1_144 e12 ?_
  refine dr_iload_n p2 dX1_readSound_17 rfl ?_
  obtain ⟨x13, e14, h⟩ := dtBind h
  refine dr_iaload x13 dX1_readSound_18 e14 ?_
  refine dr_iconst (-1 : Int32) dX1_readSound_19 (by decide) ?_
  obtain ⟨ht16, hf17⟩ := dtIte h
  refine dr_icmp_eq 27 dX1_readSound_20 (by decide) (fun hc15 => ?_) (fun hc15 => ?_)
  · have h := ht16 hc15
    refine dr_iconst (0 : Int32) dX1_readSound_27 (by decide) ?_
    refine dr_mask [] [] rfl ?_
    exact c_X1_readSound_28 (0 : Int32) μ9 h
  · have h := hf17 hc15
    refine dr_iconst (1 : Int32) dX1_readSound_23 (by decide) ?_
    refine dr_goto 28 dX1_readSound_24 (by decide) ?_
    refine dr_mask [] [] rfl ?_
    exact c_X1_readSound_28 (1 : Int32) μ9 h
/-! X8_passNumber -/
theorem dX8_passNumber_0 : decode cX8_passNumber 0 = .ok (.aload_n 0, 1) := by decide +kernel
theorem dX8_passNumber_1 : decode cX8_passNumber 1 = .ok (.getfield 40, 3) := by decide +kernel
theorem dX8_passNumber_4 : decode cX8_passNumber 4 = .ok (.iconst 2, 1) := by decide +kernel
theorem dX8_passNumber_5 : decode cX8_passNumber 5 = .ok (.if_icmp .eq 11, 3) := by decide +kernel
theorem dX8_passNumber_8 : decode cX8_passNumber 8 = .ok (.aload_n 0, 1) := by decide +kernel
theorem dX8_passNumber_9 : decode cX8_passNumber 9 = .ok (.iconst 2, 1) := by decide +kernel
theorem dX8_passNumber_10 : decode cX8_passNumber 10 = .ok (.invokevirtual 84, 3) := by decide +kernel
theorem dX8_passNumber_13 : decode cX8_passNumber 13 = .ok (.pop, 1) := by decide +kernel
theorem dX8_passNumber_14 : decode cX8_passNumber 14 = .ok (.iconst (-1), 1) := by decide +kernel
theorem dX8_passNumber_15 : decode cX8_passNumber 15 = .ok (.ireturn, 1) := by decide +kernel
theorem dX8_passNumber_16 : decode cX8_passNumber 16 = .ok (.aload_n 0, 1) := by decide +kernel
theorem dX8_passNumber_17 : decode cX8_passNumber 17 = .ok (.getfield 43, 3) := by decide +kernel
theorem dX8_passNumber_20 : decode cX8_passNumber 20 = .ok (.iload_n 1, 1) := by decide +kernel
theorem dX8_passNumber_21 : decode cX8_passNumber 21 = .ok (.if_icmp .lt 11, 3) := by decide +kernel
theorem dX8_passNumber_24 : decode cX8_passNumber 24 = .ok (.aload_n 0, 1) := by decide +kernel
theorem dX8_passNumber_25 : decode cX8_passNumber 25 = .ok (.getfield 43, 3) := by decide +kernel
theorem dX8_passNumber_28 : decode cX8_passNumber 28 = .ok (.iload_n 2, 1) := by decide +kernel
theorem dX8_passNumber_29 : decode cX8_passNumber 29 = .ok (.if_icmp .le 11, 3) := by decide +kernel
theorem dX8_passNumber_32 : decode cX8_passNumber 32 = .ok (.aload_n 0, 1) := by decide +kernel
theorem dX8_passNumber_33 : decode cX8_passNumber 33 = .ok (.iconst 4, 1) := by decide +kernel
theorem dX8_passNumber_34 : decode cX8_passNumber 34 = .ok (.invokevirtual 84, 3) := by decide +kernel
theorem dX8_passNumber_37 : decode cX8_passNumber 37 = .ok (.pop, 1) := by decide +kernel
theorem dX8_passNumber_38 : decode cX8_passNumber 38 = .ok (.iconst (-1), 1) := by decide +kernel
theorem dX8_passNumber_39 : decode cX8_passNumber 39 = .ok (.ireturn, 1) := by decide +kernel
theorem dX8_passNumber_40 : decode cX8_passNumber 40 = .ok (.aload_n 0, 1) := by decide +kernel
theorem dX8_passNumber_41 : decode cX8_passNumber 41 = .ok (.getfield 43, 3) := by decide +kernel
theorem dX8_passNumber_44 : decode cX8_passNumber 44 = .ok (.istore_n 3, 1) := by decide +kernel
theorem dX8_passNumber_45 : decode cX8_passNumber 45 = .ok (.aload_n 0, 1) := by decide +kernel
theorem dX8_passNumber_46 : decode cX8_passNumber 46 = .ok (.invokevirtual 34, 3) := by decide +kernel
theorem dX8_passNumber_49 : decode cX8_passNumber 49 = .ok (.iload_n 3, 1) := by decide +kernel
theorem dX8_passNumber_50 : decode cX8_passNumber 50 = .ok (.ireturn, 1) := by decide +kernel
set_option maxRecDepth 100000 in
def f_X8_passNumber_32 (l0 : Nat) (μ : dtM) : Option (Int32 × dtM) :=
  (opRv 8 μ l0).bind fun _ => opCall (f_X8_flaw l0 (4 : Int32) μ) fun x4 μ2 => some ((-1 : Int32), μ2)
set_option maxRecDepth 100000 in
def f_X8_passNumber (p0 : Nat) (p1 : Int32) (p2 : Int32) (μ : dtM) : Option (Int32 × dtM) :=
  (opGI 8 4 μ p0).bind fun x1 => if x1 = (2 : Int32) then ((opGI 8 5 μ p0).bind fun x6 => if x6 < p1 then (f_X8_passNumber_32 p0 μ) else ((opGI 8 5 μ p0).bind fun x11 => if x11 ≤ p2 then ((opGI 8 5 μ p0).bind fun x16 => (opRv 8 μ p0).bind fun _ => (f_X8_advance p0 μ).bind fun μ19 => some (x16, μ19)) else (f_X8_passNumber_32 p0 μ))) else ((opRv 8 μ p0).bind fun _ => opCall (f_X8_flaw p0 (2 : Int32) μ) fun x24 μ22 => some ((-1 : Int32), μ22))
set_option maxRecDepth 100000 in
theorem c_X8_passNumber_32 {r : Int32} {F : dtM} (l0 : Nat) (μ : dtM) (h : f_X8_passNumber_32 l0 μ = some (r, F)) : dtW yX8_passNumber cX8_passNumber 4 (some .int) 8 (some (.int r)) F 32 [some (.ref l0)] [] μ := by
  rw [f_X8_passNumber_32] at h
  refine dr_aload_n l0 dX8_passNumber_32 rfl ?_
  refine dr_iconst (4 : Int32) dX8_passNumber_33 (by decide) ?_
  obtain ⟨_, hb1, h⟩ := dtBind h
  obtain ⟨x4, μ2, e3, h⟩ := dtCall h
  refine dr_callV_i (S0 := []) [.int (4 : Int32)] x4 μ2 dX8_passNumber_34 (c_X8_flaw l0 (4 : Int32) μ e3) mf_X8_flaw wt_629 wt_630 wt_637 rfl (dtRv hb1) (by decide) rfl (Nat.le_of_ble_eq_true rfl) (Nat.le_of_ble_eq_true rfl) rfl ?_
  refine dr_pop dX8_passNumber_37 rfl ?_
  refine dr_iconst (-1 : Int32) dX8_passNumber_38 (by decide) ?_
  cases h
  exact dr_ireturn dX8_passNumber_39 rfl
set_option maxRecDepth 100000 in
theorem c_X8_passNumber {r : Int32} {F : dtM} (p0 : Nat) (p1 : Int32) (p2 : Int32) (μ : dtM) (h : f_X8_passNumber p0 p1 p2 μ = some (r, F)) : dtMet yX8_passNumber cX8_passNumber 4 (some .int) 8 [.ref p0, .int p1, .int p2] μ (some (.int r)) F := by
  refine dtMet.of (by decide +kernel) (Nat.le_of_ble_eq_true rfl) (show dtW yX8_passNumber cX8_passNumber 4 (some .int) 8 (some (.int r)) F 0 [some (.ref p0), some (.int p1), some (.int p2)] [] μ from ?_)
  rw [f_X8_passNumber] at h
  refine dr_aload_n p0 dX8_passNumber_0 rfl ?_
  obtain ⟨x1, e2, h⟩ := dtBind h
  refine dr_getI x1 dX8_passNumber_1 fl_RX8_40 e2 ?_
  refine dr_iconst (2 : Int32) dX8_passNumber_4 (by decide) ?_
  obtain ⟨ht4, hf5⟩ := dtIte h
  refine dr_icmp_eq 16 dX8_passNumber_5 (by decide) (fun hc3 => ?_) (fun hc3 => ?_)
  · have h := ht4 hc3
    refine dr_aload_n p0 dX8_passNumber_16 rfl ?_
    obtain ⟨x6, e7, h⟩ := dtBind h
    refine dr_getI x6 dX8_passNumber_17 fl_RX8_43 e7 ?_
    refine dr_iload_n p1 dX8_passNumber_20 rfl ?_
    obtain ⟨ht9, hf10⟩ := dtIte h
    refine dr_icmp_lt 32 dX8_passNumber_21 (by decide) (fun hc8 => ?_) (fun hc8 => ?_)
    · have h := ht9 hc8
      refine dr_mask [true] [some (.ref p0)] rfl ?_
      exact c_X8_passNumber_32 p0 μ h
    · have h := hf10 hc8
      refine dr_aload_n p0 dX8_passNumber_24 rfl ?_
      obtain ⟨x11, e12, h⟩ := dtBind h
      refine dr_getI x11 dX8_passNumber_25 fl_RX8_43 e12 ?_
      refine dr_iload_n p2 dX8_passNumber_28 rfl ?_
      obtain ⟨ht14, hf15⟩ := dtIte h
      refine dr_icmp_le 40 dX8_passNumber_29 (by decide) (fun hc13 => ?_) (fun hc13 => ?_)
      · have h := ht14 hc13
        refine dr_aload_n p0 dX8_passNumber_40 rfl ?_
        obtain ⟨x16, e17, h⟩ := dtBind h
        refine dr_getI x16 dX8_passNumber_41 fl_RX8_43 e17 ?_
        refine dr_istore_n 3 [some (.ref p0), some (.int p1), some (.int p2), some (.int x16)] dX8_passNumber_44 rfl rfl rfl rfl ?_
        refine dr_aload_n p0 dX8_passNumber_45 rfl ?_
        obtain ⟨_, hb18, h⟩ := dtBind h
        obtain ⟨μ19, e20, h⟩ := dtBind h
        refine dr_callV_v (S0 := []) [] μ19 dX8_passNumber_46 (c_X8_advance p0 μ e20) mf_X8_advance wt_551 wt_552 wt_550 rfl (dtRv hb18) (by decide) rfl (Nat.le_of_ble_eq_true rfl) (Nat.le_of_ble_eq_true rfl) rfl ?_
        refine dr_iload_n x16 dX8_passNumber_49 rfl ?_
        cases h
        exact dr_ireturn dX8_passNumber_50 rfl
      · have h := hf15 hc13
        refine dr_mask [true] [some (.ref p0)] rfl ?_
        exact c_X8_passNumber_32 p0 μ h
  · have h := hf5 hc3
    refine dr_aload_n p0 dX8_passNumber_8 rfl ?_
    refine dr_iconst (2 : Int32) dX8_passNumber_9 (by decide) ?_
    obtain ⟨_, hb21, h⟩ := dtBind h
    obtain ⟨x24, μ22, e23, h⟩ := dtCall h
    refine dr_callV_i (S0 := []) [.int (2 : Int32)] x24 μ22 dX8_passNumber_10 (c_X8_flaw p0 (2 : Int32) μ e23) mf_X8_flaw wt_629 wt_630 wt_637 rfl (dtRv hb21) (by decide) rfl (Nat.le_of_ble_eq_true rfl) (Nat.le_of_ble_eq_true rfl) rfl ?_
    refine dr_pop dX8_passNumber_13 rfl ?_
    refine dr_iconst (-1 : Int32) dX8_passNumber_14 (by decide) ?_
    cases h
    exact dr_ireturn dX8_passNumber_15 rfl
/-! X1_readWhat -/
theorem dX1_readWhat_0 : decode cX1_readWhat 0 = .ok (.aload_n 1, 1) := by decide +kernel
theorem dX1_readWhat_1 : decode cX1_readWhat 1 = .ok (.getfield 131, 3) := by decide +kernel
theorem dX1_readWhat_4 : decode cX1_readWhat 4 = .ok (.iload_n 2, 1) := by decide +kernel
theorem dX1_readWhat_5 : decode cX1_readWhat 5 = .ok (.aload_n 0, 1) := by decide +kernel
theorem dX1_readWhat_6 : decode cX1_readWhat 6 = .ok (.getfield 12, 3) := by decide +kernel
theorem dX1_readWhat_9 : decode cX1_readWhat 9 = .ok (.iload_n 3, 1) := by decide +kernel
theorem dX1_readWhat_10 : decode cX1_readWhat 10 = .ok (.iload 4, 2) := by decide +kernel
theorem dX1_readWhat_12 : decode cX1_readWhat 12 = .ok (.invokevirtual 140, 3) := by decide +kernel
theorem dX1_readWhat_15 : decode cX1_readWhat 15 = .ok (.iastore, 1) := by decide +kernel
theorem dX1_readWhat_16 : decode cX1_readWhat 16 = .ok (.aload_n 1, 1) := by decide +kernel
theorem dX1_readWhat_17 : decode cX1_readWhat 17 = .ok (.getfield 131, 3) := by decide +kernel
theorem dX1_readWhat_20 : decode cX1_readWhat 20 = .ok (.iload_n 2, 1) := by decide +kernel
theorem dX1_readWhat_21 : decode cX1_readWhat 21 = .ok (.iaload, 1) := by decide +kernel
theorem dX1_readWhat_22 : decode cX1_readWhat 22 = .ok (.iconst (-1), 1) := by decide +kernel
theorem dX1_readWhat_23 : decode cX1_readWhat 23 = .ok (.if_icmp .eq 7, 3) := by decide +kernel
theorem dX1_readWhat_26 : decode cX1_readWhat 26 = .ok (.iconst 1, 1) := by decide +kernel
theorem dX1_readWhat_27 : decode cX1_readWhat 27 = .ok (.goto 4, 3) := by decide +kernel
theorem dX1_readWhat_30 : decode cX1_readWhat 30 = .ok (.iconst 0, 1) := by decide +kernel
theorem dX1_readWhat_31 : decode cX1_readWhat 31 = .ok (.ireturn, 1) := by decide +kernel
set_option maxRecDepth 100000 in
def f_X1_readWhat_31 (s0 : Int32) (μ : dtM) : Option (Int32 × dtM) :=
  opRet s0 μ
set_option maxRecDepth 100000 in
def f_X1_readWhat (p0 : Nat) (p1 : Nat) (p2 : Int32) (p3 : Int32) (p4 : Int32) (μ : dtM) : Option (Int32 × dtM) :=
  (opGR 0 6 μ p1).bind fun x1 => (opGR 1 0 μ p0).bind fun x3 => (opRv 8 μ x3).bind fun _ => opCall (f_X8_passNumber x3 p3 p4 μ) fun x8 μ6 => (opSI μ6 x1 p2 x8).bind fun μ9 => (opGR 0 6 μ9 p1).bind fun x11 => (opLI 1 μ9 x11 p2).bind fun x13 => if x13 = (-1 : Int32) then (f_X1_readWhat_31 (0 : Int32) μ9) else (f_X1_readWhat_31 (1 : Int32) μ9)
set_option maxRecDepth 100000 in
theorem c_X1_readWhat_31 {r : Int32} {F : dtM} (s0 : Int32) (μ : dtM) (h : f_X1_readWhat_31 s0 μ = some (r, F)) : dtW yX1_readWhat cX1_readWhat 5 (some .boolean) 9 (some (.int r)) F 31 [] [.int s0] μ := by
  rw [f_X1_readWhat_31] at h
  obtain ⟨hz, rfl, rfl⟩ := dtRet h
  exact dr_ireturn dX1_readWhat_31 (dtNz hz)
set_option maxRecDepth 100000 in
theorem c_X1_readWhat {r : Int32} {F : dtM} (p0 : Nat) (p1 : Nat) (p2 : Int32) (p3 : Int32) (p4 : Int32) (μ : dtM) (h : f_X1_readWhat p0 p1 p2 p3 p4 μ = some (r, F)) : dtMet yX1_readWhat cX1_readWhat 5 (some .boolean) 9 [.ref p0, .ref p1, .int p2, .int p3, .int p4] μ (some (.int r)) F := by
  refine dtMet.of (by decide +kernel) (Nat.le_of_ble_eq_true rfl) (show dtW yX1_readWhat cX1_readWhat 5 (some .boolean) 9 (some (.int r)) F 0 [some (.ref p0), some (.ref p1), some (.int p2), some (.int p3), some (.int p4)] [] μ from ?_)
  rw [f_X1_readWhat] at h
  refine dr_aload_n p1 dX1_readWhat_0 rfl ?_
  obtain ⟨x1, e2, h⟩ := dtBind h
  refine dr_getR x1 dX1_readWhat_1 fl_RX1_131 e2 ?_
  refine dr_iload_n p2 dX1_readWhat_4 rfl ?_
  refine dr_aload_n p0 dX1_readWhat_5 rfl ?_
  obtain ⟨x3, e4, h⟩ := dtBind h
  refine dr_getR x3 dX1_readWhat_6 fl_RX1_12 e4 ?_
  refine dr_iload_n p3 dX1_readWhat_9 rfl ?_
  refine dr_iload p4 dX1_readWhat_10 rfl ?_
  obtain ⟨_, hb5, h⟩ := dtBind h
  obtain ⟨x8, μ6, e7, h⟩ := dtCall h
  refine dr_callV_i (S0 := [.int p2, .ref x1]) [.int p3, .int p4] x8 μ6 dX1_readWhat_12 (c_X8_passNumber x3 p3 p4 μ e7) mf_X8_passNumber wt_634 wt_635 wt_813 rfl (dtRv hb5) (by decide) rfl (Nat.le_of_ble_eq_true rfl) (Nat.le_of_ble_eq_true rfl) rfl ?_
  obtain ⟨μ9, e10, h⟩ := dtBind h
  refine dr_iastore μ9 dX1_readWhat_15 e10 ?_
  refine dr_aload_n p1 dX1_readWhat_16 rfl ?_
  obtain ⟨x11, e12, h⟩ := dtBind h
  refine dr_getR x11 dX1_readWhat_17 fl_RX1_131 e12 ?_
  refine dr_iload_n p2 dX1_readWhat_20 rfl ?_
  obtain ⟨x13, e14, h⟩ := dtBind h
  refine dr_iaload x13 dX1_readWhat_21 e14 ?_
  refine dr_iconst (-1 : Int32) dX1_readWhat_22 (by decide) ?_
  obtain ⟨ht16, hf17⟩ := dtIte h
  refine dr_icmp_eq 30 dX1_readWhat_23 (by decide) (fun hc15 => ?_) (fun hc15 => ?_)
  · have h := ht16 hc15
    refine dr_iconst (0 : Int32) dX1_readWhat_30 (by decide) ?_
    refine dr_mask [] [] rfl ?_
    exact c_X1_readWhat_31 (0 : Int32) μ9 h
  · have h := hf17 hc15
    refine dr_iconst (1 : Int32) dX1_readWhat_26 (by decide) ?_
    refine dr_goto 31 dX1_readWhat_27 (by decide) ?_
    refine dr_mask [] [] rfl ?_
    exact c_X1_readWhat_31 (1 : Int32) μ9 h
/-! X8_isName -/
theorem dX8_isName_0 : decode cX8_isName 0 = .ok (.aload_n 0, 1) := by decide +kernel
theorem dX8_isName_1 : decode cX8_isName 1 = .ok (.getfield 49, 3) := by decide +kernel
theorem dX8_isName_4 : decode cX8_isName 4 = .ok (.lconst 0, 1) := by decide +kernel
theorem dX8_isName_5 : decode cX8_isName 5 = .ok (.lcmp, 1) := by decide +kernel
theorem dX8_isName_6 : decode cX8_isName 6 = .ok (.ifCond .eq 7, 3) := by decide +kernel
theorem dX8_isName_9 : decode cX8_isName 9 = .ok (.iconst 1, 1) := by decide +kernel
theorem dX8_isName_10 : decode cX8_isName 10 = .ok (.goto 4, 3) := by decide +kernel
theorem dX8_isName_13 : decode cX8_isName 13 = .ok (.iconst 0, 1) := by decide +kernel
theorem dX8_isName_14 : decode cX8_isName 14 = .ok (.ireturn, 1) := by decide +kernel
set_option maxRecDepth 100000 in
def f_X8_isName_14 (s0 : Int32) (μ : dtM) : Option (Int32 × dtM) :=
  opRet s0 μ
set_option maxRecDepth 100000 in
def f_X8_isName (p0 : Nat) (μ : dtM) : Option (Int32 × dtM) :=
  (opGJ 8 7 μ p0).bind fun x1 => if (lg_cmp x1 (0 : Int64)) = 0 then (f_X8_isName_14 (0 : Int32) μ) else (f_X8_isName_14 (1 : Int32) μ)
set_option maxRecDepth 100000 in
theorem c_X8_isName_14 {r : Int32} {F : dtM} (s0 : Int32) (μ : dtM) (h : f_X8_isName_14 s0 μ = some (r, F)) : dtW yX8_isName cX8_isName 1 (some .boolean) 1 (some (.int r)) F 14 [] [.int s0] μ := by
  rw [f_X8_isName_14] at h
  obtain ⟨hz, rfl, rfl⟩ := dtRet h
  exact dr_ireturn dX8_isName_14 (dtNz hz)
set_option maxRecDepth 100000 in
theorem c_X8_isName {r : Int32} {F : dtM} (p0 : Nat) (μ : dtM) (h : f_X8_isName p0 μ = some (r, F)) : dtMet yX8_isName cX8_isName 1 (some .boolean) 1 [.ref p0] μ (some (.int r)) F := by
  refine dtMet.of (by decide +kernel) (Nat.le_of_ble_eq_true rfl) (show dtW yX8_isName cX8_isName 1 (some .boolean) 1 (some (.int r)) F 0 [some (.ref p0)] [] μ from ?_)
  rw [f_X8_isName] at h
  refine dr_aload_n p0 dX8_isName_0 rfl ?_
  obtain ⟨x1, e2, h⟩ := dtBind h
  refine dr_getJ x1 dX8_isName_1 fl_RX8_49 e2 ?_
  refine dr_lconst (0 : Int64) dX8_isName_4 (by decide) ?_
  refine dr_lcmp dX8_isName_5 ?_
  obtain ⟨ht4, hf5⟩ := dtIte h
  refine dr_if_eq 13 dX8_isName_6 (by decide) (fun hc3 => ?_) (fun hc3 => ?_)
  · have h := ht4 hc3
    refine dr_iconst (0 : Int32) dX8_isName_13 (by decide) ?_
    refine dr_mask [] [] rfl ?_
    exact c_X8_isName_14 (0 : Int32) μ h
  · have h := hf5 hc3
    refine dr_iconst (1 : Int32) dX8_isName_9 (by decide) ?_
    refine dr_goto 14 dX8_isName_10 (by decide) ?_
    refine dr_mask [] [] rfl ?_
    exact c_X8_isName_14 (1 : Int32) μ h
/-! X8_numberOf -/
theorem dX8_numberOf_0 : decode cX8_numberOf 0 = .ok (.iconst 0, 1) := by decide +kernel
theorem dX8_numberOf_1 : decode cX8_numberOf 1 = .ok (.istore_n 3, 1) := by decide +kernel
theorem dX8_numberOf_2 : decode cX8_numberOf 2 = .ok (.iload_n 3, 1) := by decide +kernel
theorem dX8_numberOf_3 : decode cX8_numberOf 3 = .ok (.iload_n 2, 1) := by decide +kernel
theorem dX8_numberOf_4 : decode cX8_numberOf 4 = .ok (.if_icmp .ge 28, 3) := by decide +kernel
theorem dX8_numberOf_7 : decode cX8_numberOf 7 = .ok (.iload_n 3, 1) := by decide +kernel
theorem dX8_numberOf_8 : decode cX8_numberOf 8 = .ok (.aload_n 1, 1) := by decide +kernel
theorem dX8_numberOf_9 : decode cX8_numberOf 9 = .ok (.arraylength, 1) := by decide +kernel
theorem dX8_numberOf_10 : decode cX8_numberOf 10 = .ok (.if_icmp .ge 22, 3) := by decide +kernel
theorem dX8_numberOf_13 : decode cX8_numberOf 13 = .ok (.aload_n 1, 1) := by decide +kernel
theorem dX8_numberOf_14 : decode cX8_numberOf 14 = .ok (.iload_n 3, 1) := by decide +kernel
theorem dX8_numberOf_15 : decode cX8_numberOf 15 = .ok (.laload, 1) := by decide +kernel
theorem dX8_numberOf_16 : decode cX8_numberOf 16 = .ok (.aload_n 0, 1) := by decide +kernel
theorem dX8_numberOf_17 : decode cX8_numberOf 17 = .ok (.getfield 49, 3) := by decide +kernel
theorem dX8_numberOf_20 : decode cX8_numberOf 20 = .ok (.lcmp, 1) := by decide +kernel
theorem dX8_numberOf_21 : decode cX8_numberOf 21 = .ok (.ifCond .ne 5, 3) := by decide +kernel
theorem dX8_numberOf_24 : decode cX8_numberOf 24 = .ok (.iload_n 3, 1) := by decide +kernel
theorem dX8_numberOf_25 : decode cX8_numberOf 25 = .ok (.ireturn, 1) := by decide +kernel
theorem dX8_numberOf_26 : decode cX8_numberOf 26 = .ok (.iinc 3 1, 3) := by decide +kernel
theorem dX8_numberOf_29 : decode cX8_numberOf 29 = .ok (.goto (-27), 3) := by decide +kernel
theorem dX8_numberOf_32 : decode cX8_numberOf 32 = .ok (.iconst (-1), 1) := by decide +kernel
theorem dX8_numberOf_33 : decode cX8_numberOf 33 = .ok (.ireturn, 1) := by decide +kernel
set_option maxRecDepth 100000 in
def f_X8_numberOf_32  (μ : dtM) : Option (Int32 × dtM) :=
  some ((-1 : Int32), μ)
set_option maxRecDepth 100000 in
def f_X8_numberOf_2 : Nat → Nat → Nat → Int32 → Int32 → dtM → Option (Int32 × dtM)
  | 0, _, _, _, _, _ => none
  | n + 1, l0, l1, l2, l3, μ =>
    if l2 ≤ l3 then (f_X8_numberOf_32 μ) else ((opAL μ l1).bind fun x4 => if x4 ≤ l3 then (f_X8_numberOf_32 μ) else ((opLJ 3 μ l1 l3).bind fun x9 => (opGJ 8 7 μ l0).bind fun x11 => if (lg_cmp x9 x11) = 0 then (some (l3, μ)) else (f_X8_numberOf_2 n l0 l1 l2 (l3 + 1) μ)))
set_option maxRecDepth 100000 in
def f_X8_numberOf (p0 : Nat) (p1 : Nat) (p2 : Int32) (μ : dtM) : Option (Int32 × dtM) :=
  f_X8_numberOf_2 dtFuel p0 p1 p2 (0 : Int32) μ
set_option maxRecDepth 100000 in
theorem c_X8_numberOf_32 {r : Int32} {F : dtM}  (μ : dtM) (h : f_X8_numberOf_32  μ = some (r, F)) : dtW yX8_numberOf cX8_numberOf 4 (some .int) 1 (some (.int r)) F 32 [] [] μ := by
  rw [f_X8_numberOf_32] at h
  refine dr_iconst (-1 : Int32) dX8_numberOf_32 (by decide) ?_
  cases h
  exact dr_ireturn dX8_numberOf_33 rfl
set_option maxRecDepth 100000 in
theorem c_X8_numberOf_2 {r : Int32} {F : dtM} : ∀ (n : Nat) (l0 : Nat) (l1 : Nat) (l2 : Int32) (l3 : Int32) (μ : dtM), f_X8_numberOf_2 n l0 l1 l2 l3 μ = some (r, F) → dtW yX8_numberOf cX8_numberOf 4 (some .int) 1 (some (.int r)) F 2 [some (.ref l0), some (.ref l1), some (.int l2), some (.int l3)] [] μ := by
  intro n
  induction n with
  | zero => intro l0 l1 l2 l3 μ h; cases h
  | succ n ih =>
    intro l0 l1 l2 l3 μ h
    have h := (show f_X8_numberOf_2 (n + 1) l0 l1 l2 l3 μ = some _ from h)
    rw [f_X8_numberOf_2] at h
    refine dr_iload_n l3 dX8_numberOf_2 rfl ?_
    refine dr_iload_n l2 dX8_numberOf_3 rfl ?_
    obtain ⟨ht2, hf3⟩ := dtIte h
    refine dr_icmp_ge 32 dX8_numberOf_4 (by decide) (fun hc1 => ?_) (fun hc1 => ?_)
    · have h := ht2 hc1
      refine dr_mask [] [] rfl ?_
      exact c_X8_numberOf_32 μ h
    · have h := hf3 hc1
      refine dr_iload_n l3 dX8_numberOf_7 rfl ?_
      refine dr_aload_n l1 dX8_numberOf_8 rfl ?_
      obtain ⟨x4, e5, h⟩ := dtBind h
      refine dr_arraylength x4 dX8_numberOf_9 e5 ?_
      obtain ⟨ht7, hf8⟩ := dtIte h
      refine dr_icmp_ge 32 dX8_numberOf_10 (by decide) (fun hc6 => ?_) (fun hc6 => ?_)
      · have h := ht7 hc6
        refine dr_mask [] [] rfl ?_
        exact c_X8_numberOf_32 μ h
      · have h := hf8 hc6
        refine dr_aload_n l1 dX8_numberOf_13 rfl ?_
        refine dr_iload_n l3 dX8_numberOf_14 rfl ?_
        obtain ⟨x9, e10, h⟩ := dtBind h
        refine dr_laload x9 dX8_numberOf_15 e10 ?_
        refine dr_aload_n l0 dX8_numberOf_16 rfl ?_
        obtain ⟨x11, e12, h⟩ := dtBind h
        refine dr_getJ x11 dX8_numberOf_17 fl_RX8_49 e12 ?_
        refine dr_lcmp dX8_numberOf_20 ?_
        obtain ⟨ht14, hf15⟩ := dtIte h
        refine dr_if_ne 26 dX8_numberOf_21 (by decide) (fun hc13 => ?_) (fun hc13 => ?_)
        · have h := hf15 hc13
          refine dr_iinc l3 (l3 + 1) [some (.ref l0), some (.ref l1), some (.int l2), some (.int (l3 + 1))] dX8_numberOf_26 rfl rfl rfl rfl rfl ?_
          refine dr_goto 2 dX8_numberOf_29 (by decide) ?_
          exact ih l0 l1 l2 (l3 + 1) μ h
        · have h := ht14 hc13
          refine dr_iload_n l3 dX8_numberOf_24 rfl ?_
          cases h
          exact dr_ireturn dX8_numberOf_25 rfl
set_option maxRecDepth 100000 in
theorem c_X8_numberOf {r : Int32} {F : dtM} (p0 : Nat) (p1 : Nat) (p2 : Int32) (μ : dtM) (h : f_X8_numberOf p0 p1 p2 μ = some (r, F)) : dtMet yX8_numberOf cX8_numberOf 4 (some .int) 1 [.ref p0, .ref p1, .int p2] μ (some (.int r)) F := by
  refine dtMet.of (by decide +kernel) (Nat.le_of_ble_eq_true rfl) (show dtW yX8_numberOf cX8_numberOf 4 (some .int) 1 (some (.int r)) F 0 [some (.ref p0), some (.ref p1), some (.int p2)] [] μ from ?_)
  rw [f_X8_numberOf] at h
  refine dr_iconst (0 : Int32) dX8_numberOf_0 (by decide) ?_
  refine dr_istore_n 3 [some (.ref p0), some (.ref p1), some (.int p2), some (.int (0 : Int32))] dX8_numberOf_1 rfl rfl rfl rfl ?_
  exact c_X8_numberOf_2 dtFuel p0 p1 p2 (0 : Int32) μ h
/-! X8_findAmong -/
theorem dX8_findAmong_0 : decode cX8_findAmong 0 = .ok (.aload_n 0, 1) := by decide +kernel
theorem dX8_findAmong_1 : decode cX8_findAmong 1 = .ok (.invokevirtual 92, 3) := by decide +kernel
theorem dX8_findAmong_4 : decode cX8_findAmong 4 = .ok (.ifCond .ne 11, 3) := by decide +kernel
theorem dX8_findAmong_7 : decode cX8_findAmong 7 = .ok (.aload_n 0, 1) := by decide +kernel
theorem dX8_findAmong_8 : decode cX8_findAmong 8 = .ok (.iconst 2, 1) := by decide +kernel
theorem dX8_findAmong_9 : decode cX8_findAmong 9 = .ok (.invokevirtual 84, 3) := by decide +kernel
theorem dX8_findAmong_12 : decode cX8_findAmong 12 = .ok (.pop, 1) := by decide +kernel
theorem dX8_findAmong_13 : decode cX8_findAmong 13 = .ok (.iconst (-1), 1) := by decide +kernel
theorem dX8_findAmong_14 : decode cX8_findAmong 14 = .ok (.ireturn, 1) := by decide +kernel
theorem dX8_findAmong_15 : decode cX8_findAmong 15 = .ok (.aload_n 0, 1) := by decide +kernel
theorem dX8_findAmong_16 : decode cX8_findAmong 16 = .ok (.aload_n 1, 1) := by decide +kernel
theorem dX8_findAmong_17 : decode cX8_findAmong 17 = .ok (.iload_n 2, 1) := by decide +kernel
theorem dX8_findAmong_18 : decode cX8_findAmong 18 = .ok (.invokevirtual 95, 3) := by decide +kernel
theorem dX8_findAmong_21 : decode cX8_findAmong 21 = .ok (.istore_n 3, 1) := by decide +kernel
theorem dX8_findAmong_22 : decode cX8_findAmong 22 = .ok (.iload_n 3, 1) := by decide +kernel
theorem dX8_findAmong_23 : decode cX8_findAmong 23 = .ok (.iconst (-1), 1) := by decide +kernel
theorem dX8_findAmong_24 : decode cX8_findAmong 24 = .ok (.if_icmp .ne 9, 3) := by decide +kernel
theorem dX8_findAmong_27 : decode cX8_findAmong 27 = .ok (.aload_n 0, 1) := by decide +kernel
theorem dX8_findAmong_28 : decode cX8_findAmong 28 = .ok (.iconst 3, 1) := by decide +kernel
theorem dX8_findAmong_29 : decode cX8_findAmong 29 = .ok (.invokevirtual 84, 3) := by decide +kernel
theorem dX8_findAmong_32 : decode cX8_findAmong 32 = .ok (.pop, 1) := by decide +kernel
theorem dX8_findAmong_33 : decode cX8_findAmong 33 = .ok (.iload_n 3, 1) := by decide +kernel
theorem dX8_findAmong_34 : decode cX8_findAmong 34 = .ok (.ireturn, 1) := by decide +kernel
set_option maxRecDepth 100000 in
def f_X8_findAmong_33 (l3 : Int32) (μ : dtM) : Option (Int32 × dtM) :=
  some (l3, μ)
set_option maxRecDepth 100000 in
def f_X8_findAmong (p0 : Nat) (p1 : Nat) (p2 : Int32) (μ : dtM) : Option (Int32 × dtM) :=
  (opRv 8 μ p0).bind fun _ => opCall (f_X8_isName p0 μ) fun x4 μ2 => if x4 = 0 then ((opRv 8 μ2 p0).bind fun _ => opCall (f_X8_flaw p0 (2 : Int32) μ2) fun x22 μ20 => some ((-1 : Int32), μ20)) else ((opRv 8 μ2 p0).bind fun _ => opCall (f_X8_numberOf p0 p1 p2 μ2) fun x11 μ9 => if x11 = (-1 : Int32) then ((opRv 8 μ9 p0).bind fun _ => opCall (f_X8_flaw p0 (3 : Int32) μ9) fun x18 μ16 => f_X8_findAmong_33 x11 μ16) else (f_X8_findAmong_33 x11 μ9))
set_option maxRecDepth 100000 in
theorem c_X8_findAmong_33 {r : Int32} {F : dtM} (l3 : Int32) (μ : dtM) (h : f_X8_findAmong_33 l3 μ = some (r, F)) : dtW yX8_findAmong cX8_findAmong 4 (some .int) 2 (some (.int r)) F 33 [none, none, none, some (.int l3)] [] μ := by
  rw [f_X8_findAmong_33] at h
  refine dr_iload_n l3 dX8_findAmong_33 rfl ?_
  cases h
  exact dr_ireturn dX8_findAmong_34 rfl
set_option maxRecDepth 100000 in
theorem c_X8_findAmong {r : Int32} {F : dtM} (p0 : Nat) (p1 : Nat) (p2 : Int32) (μ : dtM) (h : f_X8_findAmong p0 p1 p2 μ = some (r, F)) : dtMet yX8_findAmong cX8_findAmong 4 (some .int) 2 [.ref p0, .ref p1, .int p2] μ (some (.int r)) F := by
  refine dtMet.of (by decide +kernel) (Nat.le_of_ble_eq_true rfl) (show dtW yX8_findAmong cX8_findAmong 4 (some .int) 2 (some (.int r)) F 0 [some (.ref p0), some (.ref p1), some (.int p2)] [] μ from ?_)
  rw [f_X8_findAmong] at h
  refine dr_aload_n p0 dX8_findAmong_0 rfl ?_
  obtain ⟨_, hb1, h⟩ := dtBind h
  obtain ⟨x4, μ2, e3, h⟩ := dtCall h
  refine dr_callV_i (S0 := []) [] x4 μ2 dX8_findAmong_1 (c_X8_isName p0 μ e3) mf_X8_isName wt_655 wt_656 wt_682 rfl (dtRv hb1) (by decide) rfl (Nat.le_of_ble_eq_true rfl) (Nat.le_of_ble_eq_true rfl) rfl ?_
  obtain ⟨ht6, hf7⟩ := dtIte h
  refine dr_if_ne 15 dX8_findAmong_4 (by decide) (fun hc5 => ?_) (fun hc5 => ?_)
  · have h := hf7 hc5
    refine dr_aload_n p0 dX8_findAmong_15 rfl ?_
    refine dr_aload_n p1 dX8_findAmong_16 rfl ?_
    refine dr_iload_n p2 dX8_findAmong_17 rfl ?_
    obtain ⟨_, hb8, h⟩ := dtBind h
    obtain ⟨x11, μ9, e10, h⟩ := dtCall h
    refine dr_callV_i (S0 := []) [.ref p1, .int p2] x11 μ9 dX8_findAmong_18 (c_X8_numberOf p0 p1 p2 μ2 e10) mf_X8_numberOf wt_663 wt_664 wt_683 rfl (dtRv hb8) (by decide) rfl (Nat.le_of_ble_eq_true rfl) (Nat.le_of_ble_eq_true rfl) rfl ?_
    refine dr_istore_n 3 [some (.ref p0), some (.ref p1), some (.int p2), some (.int x11)] dX8_findAmong_21 rfl rfl rfl rfl ?_
    refine dr_iload_n x11 dX8_findAmong_22 rfl ?_
    refine dr_iconst (-1 : Int32) dX8_findAmong_23 (by decide) ?_
    obtain ⟨ht13, hf14⟩ := dtIte h
    refine dr_icmp_ne 33 dX8_findAmong_24 (by decide) (fun hc12 => ?_) (fun hc12 => ?_)
    · have h := hf14 hc12
      refine dr_mask [false, false, false, true] [none, none, none, some (.int x11)] rfl ?_
      exact c_X8_findAmong_33 x11 μ9 h
    · have h := ht13 hc12
      refine dr_aload_n p0 dX8_findAmong_27 rfl ?_
      refine dr_iconst (3 : Int32) dX8_findAmong_28 (by decide) ?_
      obtain ⟨_, hb15, h⟩ := dtBind h
      obtain ⟨x18, μ16, e17, h⟩ := dtCall h
      refine dr_callV_i (S0 := []) [.int (3 : Int32)] x18 μ16 dX8_findAmong_29 (c_X8_flaw p0 (3 : Int32) μ9 e17) mf_X8_flaw wt_629 wt_630 wt_637 rfl (dtRv hb15) (by decide) rfl (Nat.le_of_ble_eq_true rfl) (Nat.le_of_ble_eq_true rfl) rfl ?_
      refine dr_pop dX8_findAmong_32 rfl ?_
      refine dr_mask [false, false, false, true] [none, none, none, some (.int x11)] rfl ?_
      exact c_X8_findAmong_33 x11 μ16 h
  · have h := ht6 hc5
    refine dr_aload_n p0 dX8_findAmong_7 rfl ?_
    refine dr_iconst (2 : Int32) dX8_findAmong_8 (by decide) ?_
    obtain ⟨_, hb19, h⟩ := dtBind h
    obtain ⟨x22, μ20, e21, h⟩ := dtCall h
    refine dr_callV_i (S0 := []) [.int (2 : Int32)] x22 μ20 dX8_findAmong_9 (c_X8_flaw p0 (2 : Int32) μ2 e21) mf_X8_flaw wt_629 wt_630 wt_637 rfl (dtRv hb19) (by decide) rfl (Nat.le_of_ble_eq_true rfl) (Nat.le_of_ble_eq_true rfl) rfl ?_
    refine dr_pop dX8_findAmong_12 rfl ?_
    refine dr_iconst (-1 : Int32) dX8_findAmong_13 (by decide) ?_
    cases h
    exact dr_ireturn dX8_findAmong_14 rfl
/-! X8_passAmong -/
theorem dX8_passAmong_0 : decode cX8_passAmong 0 = .ok (.aload_n 0, 1) := by decide +kernel
theorem dX8_passAmong_1 : decode cX8_passAmong 1 = .ok (.aload_n 1, 1) := by decide +kernel
theorem dX8_passAmong_2 : decode cX8_passAmong 2 = .ok (.iload_n 2, 1) := by decide +kernel
theorem dX8_passAmong_3 : decode cX8_passAmong 3 = .ok (.invokevirtual 99, 3) := by decide +kernel
theorem dX8_passAmong_6 : decode cX8_passAmong 6 = .ok (.istore_n 3, 1) := by decide +kernel
theorem dX8_passAmong_7 : decode cX8_passAmong 7 = .ok (.iload_n 3, 1) := by decide +kernel
theorem dX8_passAmong_8 : decode cX8_passAmong 8 = .ok (.iconst (-1), 1) := by decide +kernel
theorem dX8_passAmong_9 : decode cX8_passAmong 9 = .ok (.if_icmp .eq 7, 3) := by decide +kernel
theorem dX8_passAmong_12 : decode cX8_passAmong 12 = .ok (.aload_n 0, 1) := by decide +kernel
theorem dX8_passAmong_13 : decode cX8_passAmong 13 = .ok (.invokevirtual 34, 3) := by decide +kernel
theorem dX8_passAmong_16 : decode cX8_passAmong 16 = .ok (.iload_n 3, 1) := by decide +kernel
theorem dX8_passAmong_17 : decode cX8_passAmong 17 = .ok (.ireturn, 1) := by decide +kernel
set_option maxRecDepth 100000 in
def f_X8_passAmong_16 (l3 : Int32) (μ : dtM) : Option (Int32 × dtM) :=
  some (l3, μ)
set_option maxRecDepth 100000 in
def f_X8_passAmong (p0 : Nat) (p1 : Nat) (p2 : Int32) (μ : dtM) : Option (Int32 × dtM) :=
  (opRv 8 μ p0).bind fun _ => opCall (f_X8_findAmong p0 p1 p2 μ) fun x4 μ2 => if x4 = (-1 : Int32) then (f_X8_passAmong_16 x4 μ2) else ((opRv 8 μ2 p0).bind fun _ => (f_X8_advance p0 μ2).bind fun μ9 => f_X8_passAmong_16 x4 μ9)
set_option maxRecDepth 100000 in
theorem c_X8_passAmong_16 {r : Int32} {F : dtM} (l3 : Int32) (μ : dtM) (h : f_X8_passAmong_16 l3 μ = some (r, F)) : dtW yX8_passAmong cX8_passAmong 4 (some .int) 8 (some (.int r)) F 16 [none, none, none, some (.int l3)] [] μ := by
  rw [f_X8_passAmong_16] at h
  refine dr_iload_n l3 dX8_passAmong_16 rfl ?_
  cases h
  exact dr_ireturn dX8_passAmong_17 rfl
set_option maxRecDepth 100000 in
theorem c_X8_passAmong {r : Int32} {F : dtM} (p0 : Nat) (p1 : Nat) (p2 : Int32) (μ : dtM) (h : f_X8_passAmong p0 p1 p2 μ = some (r, F)) : dtMet yX8_passAmong cX8_passAmong 4 (some .int) 8 [.ref p0, .ref p1, .int p2] μ (some (.int r)) F := by
  refine dtMet.of (by decide +kernel) (Nat.le_of_ble_eq_true rfl) (show dtW yX8_passAmong cX8_passAmong 4 (some .int) 8 (some (.int r)) F 0 [some (.ref p0), some (.ref p1), some (.int p2)] [] μ from ?_)
  rw [f_X8_passAmong] at h
  refine dr_aload_n p0 dX8_passAmong_0 rfl ?_
  refine dr_aload_n p1 dX8_passAmong_1 rfl ?_
  refine dr_iload_n p2 dX8_passAmong_2 rfl ?_
  obtain ⟨_, hb1, h⟩ := dtBind h
  obtain ⟨x4, μ2, e3, h⟩ := dtCall h
  refine dr_callV_i (S0 := []) [.ref p1, .int p2] x4 μ2 dX8_passAmong_3 (c_X8_findAmong p0 p1 p2 μ e3) mf_X8_findAmong wt_679 wt_680 wt_678 rfl (dtRv hb1) (by decide) rfl (Nat.le_of_ble_eq_true rfl) (Nat.le_of_ble_eq_true rfl) rfl ?_
  refine dr_istore_n 3 [some (.ref p0), some (.ref p1), some (.int p2), some (.int x4)] dX8_passAmong_6 rfl rfl rfl rfl ?_
  refine dr_iload_n x4 dX8_passAmong_7 rfl ?_
  refine dr_iconst (-1 : Int32) dX8_passAmong_8 (by decide) ?_
  obtain ⟨ht6, hf7⟩ := dtIte h
  refine dr_icmp_eq 16 dX8_passAmong_9 (by decide) (fun hc5 => ?_) (fun hc5 => ?_)
  · have h := ht6 hc5
    refine dr_mask [false, false, false, true] [none, none, none, some (.int x4)] rfl ?_
    exact c_X8_passAmong_16 x4 μ2 h
  · have h := hf7 hc5
    refine dr_aload_n p0 dX8_passAmong_12 rfl ?_
    obtain ⟨_, hb8, h⟩ := dtBind h
    obtain ⟨μ9, e10, h⟩ := dtBind h
    refine dr_callV_v (S0 := []) [] μ9 dX8_passAmong_13 (c_X8_advance p0 μ2 e10) mf_X8_advance wt_551 wt_552 wt_550 rfl (dtRv hb8) (by decide) rfl (Nat.le_of_ble_eq_true rfl) (Nat.le_of_ble_eq_true rfl) rfl ?_
    refine dr_mask [false, false, false, true] [none, none, none, some (.int x4)] rfl ?_
    exact c_X8_passAmong_16 x4 μ9 h
/-! X1_readWho -/
theorem dX1_readWho_0 : decode cX1_readWho 0 = .ok (.aload_n 1, 1) := by decide +kernel
theorem dX1_readWho_1 : decode cX1_readWho 1 = .ok (.getfield 117, 3) := by decide +kernel
theorem dX1_readWho_4 : decode cX1_readWho 4 = .ok (.iload_n 3, 1) := by decide +kernel
theorem dX1_readWho_5 : decode cX1_readWho 5 = .ok (.aload_n 0, 1) := by decide +kernel
theorem dX1_readWho_6 : decode cX1_readWho 6 = .ok (.getfield 12, 3) := by decide +kernel
theorem dX1_readWho_9 : decode cX1_readWho 9 = .ok (.aload_n 2, 1) := by decide +kernel
theorem dX1_readWho_10 : decode cX1_readWho 10 = .ok (.getfield 120, 3) := by decide +kernel
theorem dX1_readWho_13 : decode cX1_readWho 13 = .ok (.aload_n 2, 1) := by decide +kernel
theorem dX1_readWho_14 : decode cX1_readWho 14 = .ok (.getfield 124, 3) := by decide +kernel
theorem dX1_readWho_17 : decode cX1_readWho 17 = .ok (.invokevirtual 127, 3) := by decide +kernel
theorem dX1_readWho_20 : decode cX1_readWho 20 = .ok (.iastore, 1) := by decide +kernel
theorem dX1_readWho_21 : decode cX1_readWho 21 = .ok (.aload_n 1, 1) := by decide +kernel
theorem dX1_readWho_22 : decode cX1_readWho 22 = .ok (.getfield 117, 3) := by decide +kernel
theorem dX1_readWho_25 : decode cX1_readWho 25 = .ok (.iload_n 3, 1) := by decide +kernel
theorem dX1_readWho_26 : decode cX1_readWho 26 = .ok (.iaload, 1) := by decide +kernel
theorem dX1_readWho_27 : decode cX1_readWho 27 = .ok (.iconst (-1), 1) := by decide +kernel
theorem dX1_readWho_28 : decode cX1_readWho 28 = .ok (.if_icmp .eq 7, 3) := by decide +kernel
theorem dX1_readWho_31 : decode cX1_readWho 31 = .ok (.iconst 1, 1) := by decide +kernel
theorem dX1_readWho_32 : decode cX1_readWho 32 = .ok (.goto 4, 3) := by decide +kernel
theorem dX1_readWho_35 : decode cX1_readWho 35 = .ok (.iconst 0, 1) := by decide +kernel
theorem dX1_readWho_36 : decode cX1_readWho 36 = .ok (.ireturn, 1) := by decide +kernel
set_option maxRecDepth 100000 in
def f_X1_readWho_36 (s0 : Int32) (μ : dtM) : Option (Int32 × dtM) :=
  opRet s0 μ
set_option maxRecDepth 100000 in
def f_X1_readWho (p0 : Nat) (p1 : Nat) (p2 : Nat) (p3 : Int32) (μ : dtM) : Option (Int32 × dtM) :=
  (opGR 0 5 μ p1).bind fun x1 => (opGR 1 0 μ p0).bind fun x3 => (opGR 3 8 μ p2).bind fun x5 => (opGI 3 3 μ p2).bind fun x7 => (opRv 8 μ x3).bind fun _ => opCall (f_X8_passAmong x3 x5 x7 μ) fun x12 μ10 => (opSI μ10 x1 p3 x12).bind fun μ13 => (opGR 0 5 μ13 p1).bind fun x15 => (opLI 1 μ13 x15 p3).bind fun x17 => if x17 = (-1 : Int32) then (f_X1_readWho_36 (0 : Int32) μ13) else (f_X1_readWho_36 (1 : Int32) μ13)
set_option maxRecDepth 100000 in
theorem c_X1_readWho_36 {r : Int32} {F : dtM} (s0 : Int32) (μ : dtM) (h : f_X1_readWho_36 s0 μ = some (r, F)) : dtW yX1_readWho cX1_readWho 4 (some .boolean) 9 (some (.int r)) F 36 [] [.int s0] μ := by
  rw [f_X1_readWho_36] at h
  obtain ⟨hz, rfl, rfl⟩ := dtRet h
  exact dr_ireturn dX1_readWho_36 (dtNz hz)
set_option maxRecDepth 100000 in
theorem c_X1_readWho {r : Int32} {F : dtM} (p0 : Nat) (p1 : Nat) (p2 : Nat) (p3 : Int32) (μ : dtM) (h : f_X1_readWho p0 p1 p2 p3 μ = some (r, F)) : dtMet yX1_readWho cX1_readWho 4 (some .boolean) 9 [.ref p0, .ref p1, .ref p2, .int p3] μ (some (.int r)) F := by
  refine dtMet.of (by decide +kernel) (Nat.le_of_ble_eq_true rfl) (show dtW yX1_readWho cX1_readWho 4 (some .boolean) 9 (some (.int r)) F 0 [some (.ref p0), some (.ref p1), some (.ref p2), some (.int p3)] [] μ from ?_)
  rw [f_X1_readWho] at h
  refine dr_aload_n p1 dX1_readWho_0 rfl ?_
  obtain ⟨x1, e2, h⟩ := dtBind h
  refine dr_getR x1 dX1_readWho_1 fl_RX1_117 e2 ?_
  refine dr_iload_n p3 dX1_readWho_4 rfl ?_
  refine dr_aload_n p0 dX1_readWho_5 rfl ?_
  obtain ⟨x3, e4, h⟩ := dtBind h
  refine dr_getR x3 dX1_readWho_6 fl_RX1_12 e4 ?_
  refine dr_aload_n p2 dX1_readWho_9 rfl ?_
  obtain ⟨x5, e6, h⟩ := dtBind h
  refine dr_getR x5 dX1_readWho_10 fl_RX1_120 e6 ?_
  refine dr_aload_n p2 dX1_readWho_13 rfl ?_
  obtain ⟨x7, e8, h⟩ := dtBind h
  refine dr_getI x7 dX1_readWho_14 fl_RX1_124 e8 ?_
  obtain ⟨_, hb9, h⟩ := dtBind h
  obtain ⟨x12, μ10, e11, h⟩ := dtCall h
  refine dr_callV_i (S0 := [.int p3, .ref x1]) [.ref x5, .int x7] x12 μ10 dX1_readWho_17 (c_X8_passAmong x3 x5 x7 μ e11) mf_X8_passAmong wt_675 wt_676 wt_804 rfl (dtRv hb9) (by decide) rfl (Nat.le_of_ble_eq_true rfl) (Nat.le_of_ble_eq_true rfl) rfl ?_
  obtain ⟨μ13, e14, h⟩ := dtBind h
  refine dr_iastore μ13 dX1_readWho_20 e14 ?_
  refine dr_aload_n p1 dX1_readWho_21 rfl ?_
  obtain ⟨x15, e16, h⟩ := dtBind h
  refine dr_getR x15 dX1_readWho_22 fl_RX1_117 e16 ?_
  refine dr_iload_n p3 dX1_readWho_25 rfl ?_
  obtain ⟨x17, e18, h⟩ := dtBind h
  refine dr_iaload x17 dX1_readWho_26 e18 ?_
  refine dr_iconst (-1 : Int32) dX1_readWho_27 (by decide) ?_
  obtain ⟨ht20, hf21⟩ := dtIte h
  refine dr_icmp_eq 35 dX1_readWho_28 (by decide) (fun hc19 => ?_) (fun hc19 => ?_)
  · have h := ht20 hc19
    refine dr_iconst (0 : Int32) dX1_readWho_35 (by decide) ?_
    refine dr_mask [] [] rfl ?_
    exact c_X1_readWho_36 (0 : Int32) μ13 h
  · have h := hf21 hc19
    refine dr_iconst (1 : Int32) dX1_readWho_31 (by decide) ?_
    refine dr_goto 36 dX1_readWho_32 (by decide) ?_
    refine dr_mask [] [] rfl ?_
    exact c_X1_readWho_36 (1 : Int32) μ13 h
/-! X1_readRest -/
theorem dX1_readRest_0 : decode cX1_readRest 0 = .ok (.aload_n 1, 1) := by decide +kernel
theorem dX1_readRest_1 : decode cX1_readRest 1 = .ok (.getfield 89, 3) := by decide +kernel
theorem dX1_readRest_4 : decode cX1_readRest 4 = .ok (.iload_n 3, 1) := by decide +kernel
theorem dX1_readRest_5 : decode cX1_readRest 5 = .ok (.iaload, 1) := by decide +kernel
theorem dX1_readRest_6 : decode cX1_readRest 6 = .ok (.lookupswitch 141 #[(4, 91), (15, 50), (16, 91), (17, 123), (21, 131)], 50) := by decide +kernel
theorem dX1_readRest_56 : decode cX1_readRest 56 = .ok (.aload_n 0, 1) := by decide +kernel
theorem dX1_readRest_57 : decode cX1_readRest 57 = .ok (.aload_n 1, 1) := by decide +kernel
theorem dX1_readRest_58 : decode cX1_readRest 58 = .ok (.aload_n 2, 1) := by decide +kernel
theorem dX1_readRest_59 : decode cX1_readRest 59 = .ok (.iload_n 3, 1) := by decide +kernel
theorem dX1_readRest_60 : decode cX1_readRest 60 = .ok (.invokevirtual 92, 3) := by decide +kernel
theorem dX1_readRest_63 : decode cX1_readRest 63 = .ok (.ifCond .eq 32, 3) := by decide +kernel
theorem dX1_readRest_66 : decode cX1_readRest 66 = .ok (.aload_n 0, 1) := by decide +kernel
theorem dX1_readRest_67 : decode cX1_readRest 67 = .ok (.aload_n 1, 1) := by decide +kernel
theorem dX1_readRest_68 : decode cX1_readRest 68 = .ok (.iload_n 3, 1) := by decide +kernel
theorem dX1_readRest_69 : decode cX1_readRest 69 = .ok (.iconst 0, 1) := by decide +kernel
theorem dX1_readRest_70 : decode cX1_readRest 70 = .ok (.aload_n 2, 1) := by decide +kernel
theorem dX1_readRest_71 : decode cX1_readRest 71 = .ok (.getfield 95, 3) := by decide +kernel
theorem dX1_readRest_74 : decode cX1_readRest 74 = .ok (.iconst 1, 1) := by decide +kernel
theorem dX1_readRest_75 : decode cX1_readRest 75 = .ok (.isub, 1) := by decide +kernel
theorem dX1_readRest_76 : decode cX1_readRest 76 = .ok (.invokevirtual 100, 3) := by decide +kernel
theorem dX1_readRest_79 : decode cX1_readRest 79 = .ok (.ifCond .eq 16, 3) := by decide +kernel
theorem dX1_readRest_82 : decode cX1_readRest 82 = .ok (.aload_n 0, 1) := by decide +kernel
theorem dX1_readRest_83 : decode cX1_readRest 83 = .ok (.aload_n 1, 1) := by decide +kernel
theorem dX1_readRest_84 : decode cX1_readRest 84 = .ok (.iload_n 3, 1) := by decide +kernel
theorem dX1_readRest_85 : decode cX1_readRest 85 = .ok (.invokevirtual 104, 3) := by decide +kernel
theorem dX1_readRest_88 : decode cX1_readRest 88 = .ok (.ifCond .eq 7, 3) := by decide +kernel
theorem dX1_readRest_91 : decode cX1_readRest 91 = .ok (.iconst 1, 1) := by decide +kernel
theorem dX1_readRest_92 : decode cX1_readRest 92 = .ok (.goto 4, 3) := by decide +kernel
theorem dX1_readRest_95 : decode cX1_readRest 95 = .ok (.iconst 0, 1) := by decide +kernel
theorem dX1_readRest_96 : decode cX1_readRest 96 = .ok (.ireturn, 1) := by decide +kernel
theorem dX1_readRest_97 : decode cX1_readRest 97 = .ok (.aload_n 0, 1) := by decide +kernel
theorem dX1_readRest_98 : decode cX1_readRest 98 = .ok (.aload_n 1, 1) := by decide +kernel
theorem dX1_readRest_99 : decode cX1_readRest 99 = .ok (.aload_n 2, 1) := by decide +kernel
theorem dX1_readRest_100 : decode cX1_readRest 100 = .ok (.iload_n 3, 1) := by decide +kernel
theorem dX1_readRest_101 : decode cX1_readRest 101 = .ok (.invokevirtual 92, 3) := by decide +kernel
theorem dX1_readRest_104 : decode cX1_readRest 104 = .ok (.ifCond .eq 23, 3) := by decide +kernel
theorem dX1_readRest_107 : decode cX1_readRest 107 = .ok (.aload_n 0, 1) := by decide +kernel
theorem dX1_readRest_108 : decode cX1_readRest 108 = .ok (.aload_n 1, 1) := by decide +kernel
theorem dX1_readRest_109 : decode cX1_readRest 109 = .ok (.iload_n 3, 1) := by decide +kernel
theorem dX1_readRest_110 : decode cX1_readRest 110 = .ok (.iconst 0, 1) := by decide +kernel
theorem dX1_readRest_111 : decode cX1_readRest 111 = .ok (.aload_n 2, 1) := by decide +kernel
theorem dX1_readRest_112 : decode cX1_readRest 112 = .ok (.getfield 95, 3) := by decide +kernel
theorem dX1_readRest_115 : decode cX1_readRest 115 = .ok (.iconst 1, 1) := by decide +kernel
theorem dX1_readRest_116 : decode cX1_readRest 116 = .ok (.isub, 1) := by decide +kernel
theorem dX1_readRest_117 : decode cX1_readRest 117 = .ok (.invokevirtual 100, 3) := by decide +kernel
theorem dX1_readRest_120 : decode cX1_readRest 120 = .ok (.ifCond .eq 7, 3) := by decide +kernel
theorem dX1_readRest_123 : decode cX1_readRest 123 = .ok (.iconst 1, 1) := by decide +kernel
theorem dX1_readRest_124 : decode cX1_readRest 124 = .ok (.goto 4, 3) := by decide +kernel
theorem dX1_readRest_127 : decode cX1_readRest 127 = .ok (.iconst 0, 1) := by decide +kernel
theorem dX1_readRest_128 : decode cX1_readRest 128 = .ok (.ireturn, 1) := by decide +kernel
theorem dX1_readRest_129 : decode cX1_readRest 129 = .ok (.aload_n 0, 1) := by decide +kernel
theorem dX1_readRest_130 : decode cX1_readRest 130 = .ok (.aload_n 1, 1) := by decide +kernel
theorem dX1_readRest_131 : decode cX1_readRest 131 = .ok (.aload_n 2, 1) := by decide +kernel
theorem dX1_readRest_132 : decode cX1_readRest 132 = .ok (.iload_n 3, 1) := by decide +kernel
theorem dX1_readRest_133 : decode cX1_readRest 133 = .ok (.invokevirtual 92, 3) := by decide +kernel
theorem dX1_readRest_136 : decode cX1_readRest 136 = .ok (.ireturn, 1) := by decide +kernel
theorem dX1_readRest_137 : decode cX1_readRest 137 = .ok (.aload_n 0, 1) := by decide +kernel
theorem dX1_readRest_138 : decode cX1_readRest 138 = .ok (.aload_n 1, 1) := by decide +kernel
theorem dX1_readRest_139 : decode cX1_readRest 139 = .ok (.iload_n 3, 1) := by decide +kernel
theorem dX1_readRest_140 : decode cX1_readRest 140 = .ok (.iconst 1, 1) := by decide +kernel
theorem dX1_readRest_141 : decode cX1_readRest 141 = .ok (.bipush 99, 2) := by decide +kernel
theorem dX1_readRest_143 : decode cX1_readRest 143 = .ok (.invokevirtual 100, 3) := by decide +kernel
theorem dX1_readRest_146 : decode cX1_readRest 146 = .ok (.ireturn, 1) := by decide +kernel
theorem dX1_readRest_147 : decode cX1_readRest 147 = .ok (.iconst 1, 1) := by decide +kernel
theorem dX1_readRest_148 : decode cX1_readRest 148 = .ok (.ireturn, 1) := by decide +kernel
set_option maxRecDepth 100000 in
def f_X1_readRest_147  (μ : dtM) : Option (Int32 × dtM) :=
  opRet (1 : Int32) μ
set_option maxRecDepth 100000 in
def f_X1_readRest_128 (s0 : Int32) (μ : dtM) : Option (Int32 × dtM) :=
  opRet s0 μ
set_option maxRecDepth 100000 in
def f_X1_readRest_127  (μ : dtM) : Option (Int32 × dtM) :=
  f_X1_readRest_128 (0 : Int32) μ
set_option maxRecDepth 100000 in
def f_X1_readRest_97 (l0 : Nat) (l1 : Nat) (l2 : Nat) (l3 : Int32) (μ : dtM) : Option (Int32 × dtM) :=
  (opRv 1 μ l0).bind fun _ => opCall (f_X1_readWho l0 l1 l2 l3 μ) fun x4 μ2 => if x4 = 0 then (f_X1_readRest_127 μ2) else ((opGI 3 1 μ2 l2).bind fun x8 => (opRv 1 μ2 l0).bind fun _ => opCall (f_X1_readWhat l0 l1 l3 (0 : Int32) (x8 - (1 : Int32)) μ2) fun x13 μ11 => if x13 = 0 then (f_X1_readRest_127 μ11) else (f_X1_readRest_128 (1 : Int32) μ11))
set_option maxRecDepth 100000 in
def f_X1_readRest_96 (s0 : Int32) (μ : dtM) : Option (Int32 × dtM) :=
  opRet s0 μ
set_option maxRecDepth 100000 in
def f_X1_readRest_95  (μ : dtM) : Option (Int32 × dtM) :=
  f_X1_readRest_96 (0 : Int32) μ
set_option maxRecDepth 100000 in
def f_X1_readRest_56 (l0 : Nat) (l1 : Nat) (l2 : Nat) (l3 : Int32) (μ : dtM) : Option (Int32 × dtM) :=
  (opRv 1 μ l0).bind fun _ => opCall (f_X1_readWho l0 l1 l2 l3 μ) fun x4 μ2 => if x4 = 0 then (f_X1_readRest_95 μ2) else ((opGI 3 1 μ2 l2).bind fun x8 => (opRv 1 μ2 l0).bind fun _ => opCall (f_X1_readWhat l0 l1 l3 (0 : Int32) (x8 - (1 : Int32)) μ2) fun x13 μ11 => if x13 = 0 then (f_X1_readRest_95 μ11) else ((opRv 1 μ11 l0).bind fun _ => opCall (f_X1_readSound l0 l1 l3 μ11) fun x20 μ18 => if x20 = 0 then (f_X1_readRest_95 μ18) else (f_X1_readRest_96 (1 : Int32) μ18)))
set_option maxRecDepth 100000 in
def f_X1_readRest_129 (l0 : Nat) (l1 : Nat) (l2 : Nat) (l3 : Int32) (μ : dtM) : Option (Int32 × dtM) :=
  (opRv 1 μ l0).bind fun _ => opCall (f_X1_readWho l0 l1 l2 l3 μ) fun x4 μ2 => opRet x4 μ2
set_option maxRecDepth 100000 in
def f_X1_readRest_137 (l0 : Nat) (l1 : Nat) (l3 : Int32) (μ : dtM) : Option (Int32 × dtM) :=
  (opRv 1 μ l0).bind fun _ => opCall (f_X1_readWhat l0 l1 l3 (1 : Int32) (99 : Int32) μ) fun x4 μ2 => opRet x4 μ2
set_option maxRecDepth 100000 in
def f_X1_readRest (p0 : Nat) (p1 : Nat) (p2 : Nat) (p3 : Int32) (μ : dtM) : Option (Int32 × dtM) :=
  (opGR 0 3 μ p1).bind fun x1 => (opLI 1 μ x1 p3).bind fun x3 => if x3 = 4 then (f_X1_readRest_97 p0 p1 p2 p3 μ) else if x3 = 15 then (f_X1_readRest_56 p0 p1 p2 p3 μ) else if x3 = 16 then (f_X1_readRest_97 p0 p1 p2 p3 μ) else if x3 = 17 then (f_X1_readRest_129 p0 p1 p2 p3 μ) else if x3 = 21 then (f_X1_readRest_137 p0 p1 p3 μ) else f_X1_readRest_147 μ
set_option maxRecDepth 100000 in
theorem c_X1_readRest_147 {r : Int32} {F : dtM}  (μ : dtM) (h : f_X1_readRest_147  μ = some (r, F)) : dtW yX1_readRest cX1_readRest 4 (some .boolean) 10 (some (.int r)) F 147 [] [] μ := by
  rw [f_X1_readRest_147] at h
  refine dr_iconst (1 : Int32) dX1_readRest_147 (by decide) ?_
  obtain ⟨hz, rfl, rfl⟩ := dtRet h
  exact dr_ireturn dX1_readRest_148 (dtNz hz)
set_option maxRecDepth 100000 in
theorem c_X1_readRest_128 {r : Int32} {F : dtM} (s0 : Int32) (μ : dtM) (h : f_X1_readRest_128 s0 μ = some (r, F)) : dtW yX1_readRest cX1_readRest 4 (some .boolean) 10 (some (.int r)) F 128 [] [.int s0] μ := by
  rw [f_X1_readRest_128] at h
  obtain ⟨hz, rfl, rfl⟩ := dtRet h
  exact dr_ireturn dX1_readRest_128 (dtNz hz)
set_option maxRecDepth 100000 in
theorem c_X1_readRest_127 {r : Int32} {F : dtM}  (μ : dtM) (h : f_X1_readRest_127  μ = some (r, F)) : dtW yX1_readRest cX1_readRest 4 (some .boolean) 10 (some (.int r)) F 127 [] [] μ := by
  rw [f_X1_readRest_127] at h
  refine dr_iconst (0 : Int32) dX1_readRest_127 (by decide) ?_
  exact c_X1_readRest_128 (0 : Int32) μ h
set_option maxRecDepth 100000 in
theorem c_X1_readRest_97 {r : Int32} {F : dtM} (l0 : Nat) (l1 : Nat) (l2 : Nat) (l3 : Int32) (μ : dtM) (h : f_X1_readRest_97 l0 l1 l2 l3 μ = some (r, F)) : dtW yX1_readRest cX1_readRest 4 (some .boolean) 10 (some (.int r)) F 97 [some (.ref l0), some (.ref l1), some (.ref l2), some (.int l3)] [] μ := by
  rw [f_X1_readRest_97] at h
  refine dr_aload_n l0 dX1_readRest_97 rfl ?_
  refine dr_aload_n l1 dX1_readRest_98 rfl ?_
  refine dr_aload_n l2 dX1_readRest_99 rfl ?_
  refine dr_iload_n l3 dX1_readRest_100 rfl ?_
  obtain ⟨_, hb1, h⟩ := dtBind h
  obtain ⟨x4, μ2, e3, h⟩ := dtCall h
  refine dr_callV_i (S0 := []) [.ref l1, .ref l2, .int l3] x4 μ2 dX1_readRest_101 (c_X1_readWho l0 l1 l2 l3 μ e3) mf_X1_readWho wt_802 ws_23 wt_800 rfl (dtRv hb1) (by decide) rfl (Nat.le_of_ble_eq_true rfl) (Nat.le_of_ble_eq_true rfl) rfl ?_
  obtain ⟨ht6, hf7⟩ := dtIte h
  refine dr_if_eq 127 dX1_readRest_104 (by decide) (fun hc5 => ?_) (fun hc5 => ?_)
  · have h := ht6 hc5
    refine dr_mask [] [] rfl ?_
    exact c_X1_readRest_127 μ2 h
  · have h := hf7 hc5
    refine dr_aload_n l0 dX1_readRest_107 rfl ?_
    refine dr_aload_n l1 dX1_readRest_108 rfl ?_
    refine dr_iload_n l3 dX1_readRest_109 rfl ?_
    refine dr_iconst (0 : Int32) dX1_readRest_110 (by decide) ?_
    refine dr_aload_n l2 dX1_readRest_111 rfl ?_
    obtain ⟨x8, e9, h⟩ := dtBind h
    refine dr_getI x8 dX1_readRest_112 fl_RX1_95 e9 ?_
    refine dr_iconst (1 : Int32) dX1_readRest_115 (by decide) ?_
    refine dr_isub dX1_readRest_116 ?_
    obtain ⟨_, hb10, h⟩ := dtBind h
    obtain ⟨x13, μ11, e12, h⟩ := dtCall h
    refine dr_callV_i (S0 := []) [.ref l1, .int l3, .int (0 : Int32), .int (x8 - (1 : Int32))] x13 μ11 dX1_readRest_117 (c_X1_readWhat l0 l1 l3 (0 : Int32) (x8 - (1 : Int32)) μ2 e12) mf_X1_readWhat wt_811 ws_25 wt_809 rfl (dtRv hb10) (by decide) rfl (Nat.le_of_ble_eq_true rfl) (Nat.le_of_ble_eq_true rfl) rfl ?_
    obtain ⟨ht15, hf16⟩ := dtIte h
    refine dr_if_eq 127 dX1_readRest_120 (by decide) (fun hc14 => ?_) (fun hc14 => ?_)
    · have h := ht15 hc14
      refine dr_mask [] [] rfl ?_
      exact c_X1_readRest_127 μ11 h
    · have h := hf16 hc14
      refine dr_iconst (1 : Int32) dX1_readRest_123 (by decide) ?_
      refine dr_goto 128 dX1_readRest_124 (by decide) ?_
      refine dr_mask [] [] rfl ?_
      exact c_X1_readRest_128 (1 : Int32) μ11 h
set_option maxRecDepth 100000 in
theorem c_X1_readRest_96 {r : Int32} {F : dtM} (s0 : Int32) (μ : dtM) (h : f_X1_readRest_96 s0 μ = some (r, F)) : dtW yX1_readRest cX1_readRest 4 (some .boolean) 10 (some (.int r)) F 96 [] [.int s0] μ := by
  rw [f_X1_readRest_96] at h
  obtain ⟨hz, rfl, rfl⟩ := dtRet h
  exact dr_ireturn dX1_readRest_96 (dtNz hz)
set_option maxRecDepth 100000 in
theorem c_X1_readRest_95 {r : Int32} {F : dtM}  (μ : dtM) (h : f_X1_readRest_95  μ = some (r, F)) : dtW yX1_readRest cX1_readRest 4 (some .boolean) 10 (some (.int r)) F 95 [] [] μ := by
  rw [f_X1_readRest_95] at h
  refine dr_iconst (0 : Int32) dX1_readRest_95 (by decide) ?_
  exact c_X1_readRest_96 (0 : Int32) μ h
set_option maxRecDepth 100000 in
theorem c_X1_readRest_56 {r : Int32} {F : dtM} (l0 : Nat) (l1 : Nat) (l2 : Nat) (l3 : Int32) (μ : dtM) (h : f_X1_readRest_56 l0 l1 l2 l3 μ = some (r, F)) : dtW yX1_readRest cX1_readRest 4 (some .boolean) 10 (some (.int r)) F 56 [some (.ref l0), some (.ref l1), some (.ref l2), some (.int l3)] [] μ := by
  rw [f_X1_readRest_56] at h
  refine dr_aload_n l0 dX1_readRest_56 rfl ?_
  refine dr_aload_n l1 dX1_readRest_57 rfl ?_
  refine dr_aload_n l2 dX1_readRest_58 rfl ?_
  refine dr_iload_n l3 dX1_readRest_59 rfl ?_
  obtain ⟨_, hb1, h⟩ := dtBind h
  obtain ⟨x4, μ2, e3, h⟩ := dtCall h
  refine dr_callV_i (S0 := []) [.ref l1, .ref l2, .int l3] x4 μ2 dX1_readRest_60 (c_X1_readWho l0 l1 l2 l3 μ e3) mf_X1_readWho wt_802 ws_23 wt_800 rfl (dtRv hb1) (by decide) rfl (Nat.le_of_ble_eq_true rfl) (Nat.le_of_ble_eq_true rfl) rfl ?_
  obtain ⟨ht6, hf7⟩ := dtIte h
  refine dr_if_eq 95 dX1_readRest_63 (by decide) (fun hc5 => ?_) (fun hc5 => ?_)
  · have h := ht6 hc5
    refine dr_mask [] [] rfl ?_
    exact c_X1_readRest_95 μ2 h
  · have h := hf7 hc5
    refine dr_aload_n l0 dX1_readRest_66 rfl ?_
    refine dr_aload_n l1 dX1_readRest_67 rfl ?_
    refine dr_iload_n l3 dX1_readRest_68 rfl ?_
    refine dr_iconst (0 : Int32) dX1_readRest_69 (by decide) ?_
    refine dr_aload_n l2 dX1_readRest_70 rfl ?_
    obtain ⟨x8, e9, h⟩ := dtBind h
    refine dr_getI x8 dX1_readRest_71 fl_RX1_95 e9 ?_
    refine dr_iconst (1 : Int32) dX1_readRest_74 (by decide) ?_
    refine dr_isub dX1_readRest_75 ?_
    obtain ⟨_, hb10, h⟩ := dtBind h
    obtain ⟨x13, μ11, e12, h⟩ := dtCall h
    refine dr_callV_i (S0 := []) [.ref l1, .int l3, .int (0 : Int32), .int (x8 - (1 : Int32))] x13 μ11 dX1_readRest_76 (c_X1_readWhat l0 l1 l3 (0 : Int32) (x8 - (1 : Int32)) μ2 e12) mf_X1_readWhat wt_811 ws_25 wt_809 rfl (dtRv hb10) (by decide) rfl (Nat.le_of_ble_eq_true rfl) (Nat.le_of_ble_eq_true rfl) rfl ?_
    obtain ⟨ht15, hf16⟩ := dtIte h
    refine dr_if_eq 95 dX1_readRest_79 (by decide) (fun hc14 => ?_) (fun hc14 => ?_)
    · have h := ht15 hc14
      refine dr_mask [] [] rfl ?_
      exact c_X1_readRest_95 μ11 h
    · have h := hf16 hc14
      refine dr_aload_n l0 dX1_readRest_82 rfl ?_
      refine dr_aload_n l1 dX1_readRest_83 rfl ?_
      refine dr_iload_n l3 dX1_readRest_84 rfl ?_
      obtain ⟨_, hb17, h⟩ := dtBind h
      obtain ⟨x20, μ18, e19, h⟩ := dtCall h
      refine dr_callV_i (S0 := []) [.ref l1, .int l3] x20 μ18 dX1_readRest_85 (c_X1_readSound l0 l1 l3 μ11 e19) mf_X1_readSound wt_825 ws_28 wt_823 rfl (dtRv hb17) (by decide) rfl (Nat.le_of_ble_eq_true rfl) (Nat.le_of_ble_eq_true rfl) rfl ?_
      obtain ⟨ht22, hf23⟩ := dtIte h
      refine dr_if_eq 95 dX1_readRest_88 (by decide) (fun hc21 => ?_) (fun hc21 => ?_)
      · have h := ht22 hc21
        refine dr_mask [] [] rfl ?_
        exact c_X1_readRest_95 μ18 h
      · have h := hf23 hc21
        refine dr_iconst (1 : Int32) dX1_readRest_91 (by decide) ?_
        refine dr_goto 96 dX1_readRest_92 (by decide) ?_
        refine dr_mask [] [] rfl ?_
        exact c_X1_readRest_96 (1 : Int32) μ18 h
set_option maxRecDepth 100000 in
theorem c_X1_readRest_129 {r : Int32} {F : dtM} (l0 : Nat) (l1 : Nat) (l2 : Nat) (l3 : Int32) (μ : dtM) (h : f_X1_readRest_129 l0 l1 l2 l3 μ = some (r, F)) : dtW yX1_readRest cX1_readRest 4 (some .boolean) 10 (some (.int r)) F 129 [some (.ref l0), some (.ref l1), some (.ref l2), some (.int l3)] [] μ := by
  rw [f_X1_readRest_129] at h
  refine dr_aload_n l0 dX1_readRest_129 rfl ?_
  refine dr_aload_n l1 dX1_readRest_130 rfl ?_
  refine dr_aload_n l2 dX1_readRest_131 rfl ?_
  refine dr_iload_n l3 dX1_readRest_132 rfl ?_
  obtain ⟨_, hb1, h⟩ := dtBind h
  obtain ⟨x4, μ2, e3, h⟩ := dtCall h
  refine dr_callV_i (S0 := []) [.ref l1, .ref l2, .int l3] x4 μ2 dX1_readRest_133 (c_X1_readWho l0 l1 l2 l3 μ e3) mf_X1_readWho wt_802 ws_23 wt_800 rfl (dtRv hb1) (by decide) rfl (Nat.le_of_ble_eq_true rfl) (Nat.le_of_ble_eq_true rfl) rfl ?_
  obtain ⟨hz, rfl, rfl⟩ := dtRet h
  exact dr_ireturn dX1_readRest_136 (dtNz hz)
set_option maxRecDepth 100000 in
theorem c_X1_readRest_137 {r : Int32} {F : dtM} (l0 : Nat) (l1 : Nat) (l3 : Int32) (μ : dtM) (h : f_X1_readRest_137 l0 l1 l3 μ = some (r, F)) : dtW yX1_readRest cX1_readRest 4 (some .boolean) 10 (some (.int r)) F 137 [some (.ref l0), some (.ref l1), none, some (.int l3)] [] μ := by
  rw [f_X1_readRest_137] at h
  refine dr_aload_n l0 dX1_readRest_137 rfl ?_
  refine dr_aload_n l1 dX1_readRest_138 rfl ?_
  refine dr_iload_n l3 dX1_readRest_139 rfl ?_
  refine dr_iconst (1 : Int32) dX1_readRest_140 (by decide) ?_
  refine dr_bipush (99 : Int32) dX1_readRest_141 (by decide) ?_
  obtain ⟨_, hb1, h⟩ := dtBind h
  obtain ⟨x4, μ2, e3, h⟩ := dtCall h
  refine dr_callV_i (S0 := []) [.ref l1, .int l3, .int (1 : Int32), .int (99 : Int32)] x4 μ2 dX1_readRest_143 (c_X1_readWhat l0 l1 l3 (1 : Int32) (99 : Int32) μ e3) mf_X1_readWhat wt_811 ws_25 wt_809 rfl (dtRv hb1) (by decide) rfl (Nat.le_of_ble_eq_true rfl) (Nat.le_of_ble_eq_true rfl) rfl ?_
  obtain ⟨hz, rfl, rfl⟩ := dtRet h
  exact dr_ireturn dX1_readRest_146 (dtNz hz)
set_option maxRecDepth 100000 in
theorem c_X1_readRest {r : Int32} {F : dtM} (p0 : Nat) (p1 : Nat) (p2 : Nat) (p3 : Int32) (μ : dtM) (h : f_X1_readRest p0 p1 p2 p3 μ = some (r, F)) : dtMet yX1_readRest cX1_readRest 4 (some .boolean) 10 [.ref p0, .ref p1, .ref p2, .int p3] μ (some (.int r)) F := by
  refine dtMet.of (by decide +kernel) (Nat.le_of_ble_eq_true rfl) (show dtW yX1_readRest cX1_readRest 4 (some .boolean) 10 (some (.int r)) F 0 [some (.ref p0), some (.ref p1), some (.ref p2), some (.int p3)] [] μ from ?_)
  rw [f_X1_readRest] at h
  refine dr_aload_n p1 dX1_readRest_0 rfl ?_
  obtain ⟨x1, e2, h⟩ := dtBind h
  refine dr_getR x1 dX1_readRest_1 fl_RX1_89 e2 ?_
  refine dr_iload_n p3 dX1_readRest_4 rfl ?_
  obtain ⟨x3, e4, h⟩ := dtBind h
  refine dr_iaload x3 dX1_readRest_5 e4 ?_
  obtain ⟨ht5, h⟩ := dtIte h
  refine Decidable.byCases (dec := inferInstance) (fun hc7 : x3 = 4 => ?_) (fun hc7 => ?_)
  · have h := ht5 hc7
    refine dr_lookup (off := 91) 97 dX1_readRest_6 (by decide) (by rw [hc7]; rfl) (by decide) ?_
    exact c_X1_readRest_97 p0 p1 p2 p3 μ h
  have h := h hc7
  obtain ⟨ht8, h⟩ := dtIte h
  refine Decidable.byCases (dec := inferInstance) (fun hc10 : x3 = 15 => ?_) (fun hc10 => ?_)
  · have h := ht8 hc10
    refine dr_lookup (off := 50) 56 dX1_readRest_6 (by decide) (by rw [hc10]; rfl) (by decide) ?_
    exact c_X1_readRest_56 p0 p1 p2 p3 μ h
  have h := h hc10
  obtain ⟨ht11, h⟩ := dtIte h
  refine Decidable.byCases (dec := inferInstance) (fun hc13 : x3 = 16 => ?_) (fun hc13 => ?_)
  · have h := ht11 hc13
    refine dr_lookup (off := 91) 97 dX1_readRest_6 (by decide) (by rw [hc13]; rfl) (by decide) ?_
    exact c_X1_readRest_97 p0 p1 p2 p3 μ h
  have h := h hc13
  obtain ⟨ht14, h⟩ := dtIte h
  refine Decidable.byCases (dec := inferInstance) (fun hc16 : x3 = 17 => ?_) (fun hc16 => ?_)
  · have h := ht14 hc16
    refine dr_lookup (off := 123) 129 dX1_readRest_6 (by decide) (by rw [hc16]; rfl) (by decide) ?_
    exact c_X1_readRest_129 p0 p1 p2 p3 μ h
  have h := h hc16
  obtain ⟨ht17, h⟩ := dtIte h
  refine Decidable.byCases (dec := inferInstance) (fun hc19 : x3 = 21 => ?_) (fun hc19 => ?_)
  · have h := ht17 hc19
    refine dr_lookup (off := 131) 137 dX1_readRest_6 (by decide) (by rw [hc19]; rfl) (by decide) ?_
    refine dr_mask [true, true, false, true] [some (.ref p0), some (.ref p1), none, some (.int p3)] rfl ?_
    exact c_X1_readRest_137 p0 p1 p3 μ h
  have h := h hc19
  have kd20 : dtW yX1_readRest cX1_readRest 4 (some .boolean) 10 (some (.int r)) F 147 [some (.ref p0), some (.ref p1), some (.ref p2), some (.int p3)] [] μ := by
    refine dr_mask [] [] rfl ?_
    exact c_X1_readRest_147 μ h
  exact dr_lookup (off := 141) 147 dX1_readRest_6 (by decide) (by show Op.lookupswitch.offset [((4 : Int), (91 : Int)), ((15 : Int), (50 : Int)), ((16 : Int), (91 : Int)), ((17 : Int), (123 : Int)), ((21 : Int), (131 : Int))] (141) _ = _; rw [lv_osw hc7 (show (4 : Int32).toInt = (4 : Int) by decide), lv_osw hc10 (show (15 : Int32).toInt = (15 : Int) by decide), lv_osw hc13 (show (16 : Int32).toInt = (16 : Int) by decide), lv_osw hc16 (show (17 : Int32).toInt = (17 : Int) by decide), lv_osw hc19 (show (21 : Int32).toInt = (21 : Int) by decide)]; rfl) (by decide) kd20
/-! X1_readCompares -/
theorem dX1_readCompares_0 : decode cX1_readCompares 0 = .ok (.aload_n 0, 1) := by decide +kernel
theorem dX1_readCompares_1 : decode cX1_readCompares 1 = .ok (.getfield 12, 3) := by decide +kernel
theorem dX1_readCompares_4 : decode cX1_readCompares 4 = .ok (.bipush 60, 2) := by decide +kernel
theorem dX1_readCompares_6 : decode cX1_readCompares 6 = .ok (.invokevirtual 151, 3) := by decide +kernel
theorem dX1_readCompares_9 : decode cX1_readCompares 9 = .ok (.ifCond .eq 13, 3) := by decide +kernel
theorem dX1_readCompares_12 : decode cX1_readCompares 12 = .ok (.aload_n 1, 1) := by decide +kernel
theorem dX1_readCompares_13 : decode cX1_readCompares 13 = .ok (.getfield 144, 3) := by decide +kernel
theorem dX1_readCompares_16 : decode cX1_readCompares 16 = .ok (.iload_n 2, 1) := by decide +kernel
theorem dX1_readCompares_17 : decode cX1_readCompares 17 = .ok (.iconst (-1), 1) := by decide +kernel
theorem dX1_readCompares_18 : decode cX1_readCompares 18 = .ok (.iastore, 1) := by decide +kernel
theorem dX1_readCompares_19 : decode cX1_readCompares 19 = .ok (.goto 56, 3) := by decide +kernel
theorem dX1_readCompares_22 : decode cX1_readCompares 22 = .ok (.aload_n 0, 1) := by decide +kernel
theorem dX1_readCompares_23 : decode cX1_readCompares 23 = .ok (.getfield 12, 3) := by decide +kernel
theorem dX1_readCompares_26 : decode cX1_readCompares 26 = .ok (.bipush 62, 2) := by decide +kernel
theorem dX1_readCompares_28 : decode cX1_readCompares 28 = .ok (.invokevirtual 151, 3) := by decide +kernel
theorem dX1_readCompares_31 : decode cX1_readCompares 31 = .ok (.ifCond .eq 13, 3) := by decide +kernel
theorem dX1_readCompares_34 : decode cX1_readCompares 34 = .ok (.aload_n 1, 1) := by decide +kernel
theorem dX1_readCompares_35 : decode cX1_readCompares 35 = .ok (.getfield 144, 3) := by decide +kernel
theorem dX1_readCompares_38 : decode cX1_readCompares 38 = .ok (.iload_n 2, 1) := by decide +kernel
theorem dX1_readCompares_39 : decode cX1_readCompares 39 = .ok (.iconst 1, 1) := by decide +kernel
theorem dX1_readCompares_40 : decode cX1_readCompares 40 = .ok (.iastore, 1) := by decide +kernel
theorem dX1_readCompares_41 : decode cX1_readCompares 41 = .ok (.goto 34, 3) := by decide +kernel
theorem dX1_readCompares_44 : decode cX1_readCompares 44 = .ok (.aload_n 0, 1) := by decide +kernel
theorem dX1_readCompares_45 : decode cX1_readCompares 45 = .ok (.getfield 12, 3) := by decide +kernel
theorem dX1_readCompares_48 : decode cX1_readCompares 48 = .ok (.bipush 61, 2) := by decide +kernel
theorem dX1_readCompares_50 : decode cX1_readCompares 50 = .ok (.invokevirtual 151, 3) := by decide +kernel
theorem dX1_readCompares_53 : decode cX1_readCompares 53 = .ok (.ifCond .eq 13, 3) := by decide +kernel
theorem dX1_readCompares_56 : decode cX1_readCompares 56 = .ok (.aload_n 1, 1) := by decide +kernel
theorem dX1_readCompares_57 : decode cX1_readCompares 57 = .ok (.getfield 144, 3) := by decide +kernel
theorem dX1_readCompares_60 : decode cX1_readCompares 60 = .ok (.iload_n 2, 1) := by decide +kernel
theorem dX1_readCompares_61 : decode cX1_readCompares 61 = .ok (.iconst 0, 1) := by decide +kernel
theorem dX1_readCompares_62 : decode cX1_readCompares 62 = .ok (.iastore, 1) := by decide +kernel
theorem dX1_readCompares_63 : decode cX1_readCompares 63 = .ok (.goto 12, 3) := by decide +kernel
theorem dX1_readCompares_66 : decode cX1_readCompares 66 = .ok (.aload_n 0, 1) := by decide +kernel
theorem dX1_readCompares_67 : decode cX1_readCompares 67 = .ok (.getfield 12, 3) := by decide +kernel
theorem dX1_readCompares_70 : decode cX1_readCompares 70 = .ok (.iconst 2, 1) := by decide +kernel
theorem dX1_readCompares_71 : decode cX1_readCompares 71 = .ok (.invokevirtual 65, 3) := by decide +kernel
theorem dX1_readCompares_74 : decode cX1_readCompares 74 = .ok (.ireturn, 1) := by decide +kernel
theorem dX1_readCompares_75 : decode cX1_readCompares 75 = .ok (.aload_n 0, 1) := by decide +kernel
theorem dX1_readCompares_76 : decode cX1_readCompares 76 = .ok (.getfield 12, 3) := by decide +kernel
theorem dX1_readCompares_79 : decode cX1_readCompares 79 = .ok (.invokevirtual 76, 3) := by decide +kernel
theorem dX1_readCompares_82 : decode cX1_readCompares 82 = .ok (.iconst 1, 1) := by decide +kernel
theorem dX1_readCompares_83 : decode cX1_readCompares 83 = .ok (.ireturn, 1) := by decide +kernel
set_option maxRecDepth 100000 in
def f_X1_readCompares_75 (l0 : Nat) (μ : dtM) : Option (Int32 × dtM) :=
  (opGR 1 0 μ l0).bind fun x1 => (opRv 8 μ x1).bind fun _ => (f_X8_advance x1 μ).bind fun μ4 => opRet (1 : Int32) μ4
set_option maxRecDepth 100000 in
def f_X1_readCompares (p0 : Nat) (p1 : Nat) (p2 : Int32) (μ : dtM) : Option (Int32 × dtM) :=
  (opGR 1 0 μ p0).bind fun x1 => (opRv 8 μ x1).bind fun _ => opCall (f_X8_isSign x1 (60 : Int32) μ) fun x6 μ4 => if x6 = 0 then ((opGR 1 0 μ4 p0).bind fun x10 => (opRv 8 μ4 x10).bind fun _ => opCall (f_X8_isSign x10 (62 : Int32) μ4) fun x15 μ13 => if x15 = 0 then ((opGR 1 0 μ13 p0).bind fun x19 => (opRv 8 μ13 x19).bind fun _ => opCall (f_X8_isSign x19 (61 : Int32) μ13) fun x24 μ22 => if x24 = 0 then ((opGR 1 0 μ22 p0).bind fun x28 => (opRv 8 μ22 x28).bind fun _ => opCall (f_X8_flaw x28 (2 : Int32) μ22) fun x33 μ31 => opRet x33 μ31) else ((opGR 0 7 μ22 p1).bind fun x34 => (opSI μ22 x34 p2 (0 : Int32)).bind fun μ36 => f_X1_readCompares_75 p0 μ36)) else ((opGR 0 7 μ13 p1).bind fun x38 => (opSI μ13 x38 p2 (1 : Int32)).bind fun μ40 => f_X1_readCompares_75 p0 μ40)) else ((opGR 0 7 μ4 p1).bind fun x42 => (opSI μ4 x42 p2 (-1 : Int32)).bind fun μ44 => f_X1_readCompares_75 p0 μ44)
set_option maxRecDepth 100000 in
theorem c_X1_readCompares_75 {r : Int32} {F : dtM} (l0 : Nat) (μ : dtM) (h : f_X1_readCompares_75 l0 μ = some (r, F)) : dtW yX1_readCompares cX1_readCompares 3 (some .boolean) 8 (some (.int r)) F 75 [some (.ref l0)] [] μ := by
  rw [f_X1_readCompares_75] at h
  refine dr_aload_n l0 dX1_readCompares_75 rfl ?_
  obtain ⟨x1, e2, h⟩ := dtBind h
  refine dr_getR x1 dX1_readCompares_76 fl_RX1_12 e2 ?_
  obtain ⟨_, hb3, h⟩ := dtBind h
  obtain ⟨μ4, e5, h⟩ := dtBind h
  refine dr_callV_v (S0 := []) [] μ4 dX1_readCompares_79 (c_X8_advance x1 μ e5) mf_X8_advance wt_551 wt_552 wt_786 rfl (dtRv hb3) (by decide) rfl (Nat.le_of_ble_eq_true rfl) (Nat.le_of_ble_eq_true rfl) rfl ?_
  refine dr_iconst (1 : Int32) dX1_readCompares_82 (by decide) ?_
  obtain ⟨hz, rfl, rfl⟩ := dtRet h
  exact dr_ireturn dX1_readCompares_83 (dtNz hz)
set_option maxRecDepth 100000 in
theorem c_X1_readCompares {r : Int32} {F : dtM} (p0 : Nat) (p1 : Nat) (p2 : Int32) (μ : dtM) (h : f_X1_readCompares p0 p1 p2 μ = some (r, F)) : dtMet yX1_readCompares cX1_readCompares 3 (some .boolean) 8 [.ref p0, .ref p1, .int p2] μ (some (.int r)) F := by
  refine dtMet.of (by decide +kernel) (Nat.le_of_ble_eq_true rfl) (show dtW yX1_readCompares cX1_readCompares 3 (some .boolean) 8 (some (.int r)) F 0 [some (.ref p0), some (.ref p1), some (.int p2)] [] μ from ?_)
  rw [f_X1_readCompares] at h
  refine dr_aload_n p0 dX1_readCompares_0 rfl ?_
  obtain ⟨x1, e2, h⟩ := dtBind h
  refine dr_getR x1 dX1_readCompares_1 fl_RX1_12 e2 ?_
  refine dr_bipush (60 : Int32) dX1_readCompares_4 (by decide) ?_
  obtain ⟨_, hb3, h⟩ := dtBind h
  obtain ⟨x6, μ4, e5, h⟩ := dtCall h
  refine dr_callV_i (S0 := []) [.int (60 : Int32)] x6 μ4 dX1_readCompares_6 (c_X8_isSign x1 (60 : Int32) μ e5) mf_X8_isSign wt_643 wt_644 wt_818 rfl (dtRv hb3) (by decide) rfl (Nat.le_of_ble_eq_true rfl) (Nat.le_of_ble_eq_true rfl) rfl ?_
  obtain ⟨ht8, hf9⟩ := dtIte h
  refine dr_if_eq 22 dX1_readCompares_9 (by decide) (fun hc7 => ?_) (fun hc7 => ?_)
  · have h := ht8 hc7
    refine dr_aload_n p0 dX1_readCompares_22 rfl ?_
    obtain ⟨x10, e11, h⟩ := dtBind h
    refine dr_getR x10 dX1_readCompares_23 fl_RX1_12 e11 ?_
    refine dr_bipush (62 : Int32) dX1_readCompares_26 (by decide) ?_
    obtain ⟨_, hb12, h⟩ := dtBind h
    obtain ⟨x15, μ13, e14, h⟩ := dtCall h
    refine dr_callV_i (S0 := []) [.int (62 : Int32)] x15 μ13 dX1_readCompares_28 (c_X8_isSign x10 (62 : Int32) μ4 e14) mf_X8_isSign wt_643 wt_644 wt_818 rfl (dtRv hb12) (by decide) rfl (Nat.le_of_ble_eq_true rfl) (Nat.le_of_ble_eq_true rfl) rfl ?_
    obtain ⟨ht17, hf18⟩ := dtIte h
    refine dr_if_eq 44 dX1_readCompares_31 (by decide) (fun hc16 => ?_) (fun hc16 => ?_)
    · have h := ht17 hc16
      refine dr_aload_n p0 dX1_readCompares_44 rfl ?_
      obtain ⟨x19, e20, h⟩ := dtBind h
      refine dr_getR x19 dX1_readCompares_45 fl_RX1_12 e20 ?_
      refine dr_bipush (61 : Int32) dX1_readCompares_48 (by decide) ?_
      obtain ⟨_, hb21, h⟩ := dtBind h
      obtain ⟨x24, μ22, e23, h⟩ := dtCall h
      refine dr_callV_i (S0 := []) [.int (61 : Int32)] x24 μ22 dX1_readCompares_50 (c_X8_isSign x19 (61 : Int32) μ13 e23) mf_X8_isSign wt_643 wt_644 wt_818 rfl (dtRv hb21) (by decide) rfl (Nat.le_of_ble_eq_true rfl) (Nat.le_of_ble_eq_true rfl) rfl ?_
      obtain ⟨ht26, hf27⟩ := dtIte h
      refine dr_if_eq 66 dX1_readCompares_53 (by decide) (fun hc25 => ?_) (fun hc25 => ?_)
      · have h := ht26 hc25
        refine dr_aload_n p0 dX1_readCompares_66 rfl ?_
        obtain ⟨x28, e29, h⟩ := dtBind h
        refine dr_getR x28 dX1_readCompares_67 fl_RX1_12 e29 ?_
        refine dr_iconst (2 : Int32) dX1_readCompares_70 (by decide) ?_
        obtain ⟨_, hb30, h⟩ := dtBind h
        obtain ⟨x33, μ31, e32, h⟩ := dtCall h
        refine dr_callV_i (S0 := []) [.int (2 : Int32)] x33 μ31 dX1_readCompares_71 (c_X8_flaw x28 (2 : Int32) μ22 e32) mf_X8_flaw wt_629 wt_630 wt_781 rfl (dtRv hb30) (by decide) rfl (Nat.le_of_ble_eq_true rfl) (Nat.le_of_ble_eq_true rfl) rfl ?_
        obtain ⟨hz, rfl, rfl⟩ := dtRet h
        exact dr_ireturn dX1_readCompares_74 (dtNz hz)
      · have h := hf27 hc25
        refine dr_aload_n p1 dX1_readCompares_56 rfl ?_
        obtain ⟨x34, e35, h⟩ := dtBind h
        refine dr_getR x34 dX1_readCompares_57 fl_RX1_144 e35 ?_
        refine dr_iload_n p2 dX1_readCompares_60 rfl ?_
        refine dr_iconst (0 : Int32) dX1_readCompares_61 (by decide) ?_
        obtain ⟨μ36, e37, h⟩ := dtBind h
        refine dr_iastore μ36 dX1_readCompares_62 e37 ?_
        refine dr_goto 75 dX1_readCompares_63 (by decide) ?_
        refine dr_mask [true] [some (.ref p0)] rfl ?_
        exact c_X1_readCompares_75 p0 μ36 h
    · have h := hf18 hc16
      refine dr_aload_n p1 dX1_readCompares_34 rfl ?_
      obtain ⟨x38, e39, h⟩ := dtBind h
      refine dr_getR x38 dX1_readCompares_35 fl_RX1_144 e39 ?_
      refine dr_iload_n p2 dX1_readCompares_38 rfl ?_
      refine dr_iconst (1 : Int32) dX1_readCompares_39 (by decide) ?_
      obtain ⟨μ40, e41, h⟩ := dtBind h
      refine dr_iastore μ40 dX1_readCompares_40 e41 ?_
      refine dr_goto 75 dX1_readCompares_41 (by decide) ?_
      refine dr_mask [true] [some (.ref p0)] rfl ?_
      exact c_X1_readCompares_75 p0 μ40 h
  · have h := hf9 hc7
    refine dr_aload_n p1 dX1_readCompares_12 rfl ?_
    obtain ⟨x42, e43, h⟩ := dtBind h
    refine dr_getR x42 dX1_readCompares_13 fl_RX1_144 e43 ?_
    refine dr_iload_n p2 dX1_readCompares_16 rfl ?_
    refine dr_iconst (-1 : Int32) dX1_readCompares_17 (by decide) ?_
    obtain ⟨μ44, e45, h⟩ := dtBind h
    refine dr_iastore μ44 dX1_readCompares_18 e45 ?_
    refine dr_goto 75 dX1_readCompares_19 (by decide) ?_
    refine dr_mask [true] [some (.ref p0)] rfl ?_
    exact c_X1_readCompares_75 p0 μ44 h
/-! X1_readRoomName -/
theorem dX1_readRoomName_0 : decode cX1_readRoomName 0 = .ok (.aload_n 1, 1) := by decide +kernel
theorem dX1_readRoomName_1 : decode cX1_readRoomName 1 = .ok (.getfield 131, 3) := by decide +kernel
theorem dX1_readRoomName_4 : decode cX1_readRoomName 4 = .ok (.iload_n 3, 1) := by decide +kernel
theorem dX1_readRoomName_5 : decode cX1_readRoomName 5 = .ok (.aload_n 0, 1) := by decide +kernel
theorem dX1_readRoomName_6 : decode cX1_readRoomName 6 = .ok (.getfield 12, 3) := by decide +kernel
theorem dX1_readRoomName_9 : decode cX1_readRoomName 9 = .ok (.aload_n 2, 1) := by decide +kernel
theorem dX1_readRoomName_10 : decode cX1_readRoomName 10 = .ok (.getfield 134, 3) := by decide +kernel
theorem dX1_readRoomName_13 : decode cX1_readRoomName 13 = .ok (.aload_n 2, 1) := by decide +kernel
theorem dX1_readRoomName_14 : decode cX1_readRoomName 14 = .ok (.getfield 137, 3) := by decide +kernel
theorem dX1_readRoomName_17 : decode cX1_readRoomName 17 = .ok (.invokevirtual 127, 3) := by decide +kernel
theorem dX1_readRoomName_20 : decode cX1_readRoomName 20 = .ok (.iastore, 1) := by decide +kernel
theorem dX1_readRoomName_21 : decode cX1_readRoomName 21 = .ok (.aload_n 1, 1) := by decide +kernel
theorem dX1_readRoomName_22 : decode cX1_readRoomName 22 = .ok (.getfield 131, 3) := by decide +kernel
theorem dX1_readRoomName_25 : decode cX1_readRoomName 25 = .ok (.iload_n 3, 1) := by decide +kernel
theorem dX1_readRoomName_26 : decode cX1_readRoomName 26 = .ok (.iaload, 1) := by decide +kernel
theorem dX1_readRoomName_27 : decode cX1_readRoomName 27 = .ok (.iconst (-1), 1) := by decide +kernel
theorem dX1_readRoomName_28 : decode cX1_readRoomName 28 = .ok (.if_icmp .eq 7, 3) := by decide +kernel
theorem dX1_readRoomName_31 : decode cX1_readRoomName 31 = .ok (.iconst 1, 1) := by decide +kernel
theorem dX1_readRoomName_32 : decode cX1_readRoomName 32 = .ok (.goto 4, 3) := by decide +kernel
theorem dX1_readRoomName_35 : decode cX1_readRoomName 35 = .ok (.iconst 0, 1) := by decide +kernel
theorem dX1_readRoomName_36 : decode cX1_readRoomName 36 = .ok (.ireturn, 1) := by decide +kernel
set_option maxRecDepth 100000 in
def f_X1_readRoomName_36 (s0 : Int32) (μ : dtM) : Option (Int32 × dtM) :=
  opRet s0 μ
set_option maxRecDepth 100000 in
def f_X1_readRoomName (p0 : Nat) (p1 : Nat) (p2 : Nat) (p3 : Int32) (μ : dtM) : Option (Int32 × dtM) :=
  (opGR 0 6 μ p1).bind fun x1 => (opGR 1 0 μ p0).bind fun x3 => (opGR 3 7 μ p2).bind fun x5 => (opGI 3 0 μ p2).bind fun x7 => (opRv 8 μ x3).bind fun _ => opCall (f_X8_passAmong x3 x5 x7 μ) fun x12 μ10 => (opSI μ10 x1 p3 x12).bind fun μ13 => (opGR 0 6 μ13 p1).bind fun x15 => (opLI 1 μ13 x15 p3).bind fun x17 => if x17 = (-1 : Int32) then (f_X1_readRoomName_36 (0 : Int32) μ13) else (f_X1_readRoomName_36 (1 : Int32) μ13)
set_option maxRecDepth 100000 in
theorem c_X1_readRoomName_36 {r : Int32} {F : dtM} (s0 : Int32) (μ : dtM) (h : f_X1_readRoomName_36 s0 μ = some (r, F)) : dtW yX1_readRoomName cX1_readRoomName 4 (some .boolean) 9 (some (.int r)) F 36 [] [.int s0] μ := by
  rw [f_X1_readRoomName_36] at h
  obtain ⟨hz, rfl, rfl⟩ := dtRet h
  exact dr_ireturn dX1_readRoomName_36 (dtNz hz)
set_option maxRecDepth 100000 in
theorem c_X1_readRoomName {r : Int32} {F : dtM} (p0 : Nat) (p1 : Nat) (p2 : Nat) (p3 : Int32) (μ : dtM) (h : f_X1_readRoomName p0 p1 p2 p3 μ = some (r, F)) : dtMet yX1_readRoomName cX1_readRoomName 4 (some .boolean) 9 [.ref p0, .ref p1, .ref p2, .int p3] μ (some (.int r)) F := by
  refine dtMet.of (by decide +kernel) (Nat.le_of_ble_eq_true rfl) (show dtW yX1_readRoomName cX1_readRoomName 4 (some .boolean) 9 (some (.int r)) F 0 [some (.ref p0), some (.ref p1), some (.ref p2), some (.int p3)] [] μ from ?_)
  rw [f_X1_readRoomName] at h
  refine dr_aload_n p1 dX1_readRoomName_0 rfl ?_
  obtain ⟨x1, e2, h⟩ := dtBind h
  refine dr_getR x1 dX1_readRoomName_1 fl_RX1_131 e2 ?_
  refine dr_iload_n p3 dX1_readRoomName_4 rfl ?_
  refine dr_aload_n p0 dX1_readRoomName_5 rfl ?_
  obtain ⟨x3, e4, h⟩ := dtBind h
  refine dr_getR x3 dX1_readRoomName_6 fl_RX1_12 e4 ?_
  refine dr_aload_n p2 dX1_readRoomName_9 rfl ?_
  obtain ⟨x5, e6, h⟩ := dtBind h
  refine dr_getR x5 dX1_readRoomName_10 fl_RX1_134 e6 ?_
  refine dr_aload_n p2 dX1_readRoomName_13 rfl ?_
  obtain ⟨x7, e8, h⟩ := dtBind h
  refine dr_getI x7 dX1_readRoomName_14 fl_RX1_137 e8 ?_
  obtain ⟨_, hb9, h⟩ := dtBind h
  obtain ⟨x12, μ10, e11, h⟩ := dtCall h
  refine dr_callV_i (S0 := [.int p3, .ref x1]) [.ref x5, .int x7] x12 μ10 dX1_readRoomName_17 (c_X8_passAmong x3 x5 x7 μ e11) mf_X8_passAmong wt_675 wt_676 wt_804 rfl (dtRv hb9) (by decide) rfl (Nat.le_of_ble_eq_true rfl) (Nat.le_of_ble_eq_true rfl) rfl ?_
  obtain ⟨μ13, e14, h⟩ := dtBind h
  refine dr_iastore μ13 dX1_readRoomName_20 e14 ?_
  refine dr_aload_n p1 dX1_readRoomName_21 rfl ?_
  obtain ⟨x15, e16, h⟩ := dtBind h
  refine dr_getR x15 dX1_readRoomName_22 fl_RX1_131 e16 ?_
  refine dr_iload_n p3 dX1_readRoomName_25 rfl ?_
  obtain ⟨x17, e18, h⟩ := dtBind h
  refine dr_iaload x17 dX1_readRoomName_26 e18 ?_
  refine dr_iconst (-1 : Int32) dX1_readRoomName_27 (by decide) ?_
  obtain ⟨ht20, hf21⟩ := dtIte h
  refine dr_icmp_eq 35 dX1_readRoomName_28 (by decide) (fun hc19 => ?_) (fun hc19 => ?_)
  · have h := ht20 hc19
    refine dr_iconst (0 : Int32) dX1_readRoomName_35 (by decide) ?_
    refine dr_mask [] [] rfl ?_
    exact c_X1_readRoomName_36 (0 : Int32) μ13 h
  · have h := hf21 hc19
    refine dr_iconst (1 : Int32) dX1_readRoomName_31 (by decide) ?_
    refine dr_goto 36 dX1_readRoomName_32 (by decide) ?_
    refine dr_mask [] [] rfl ?_
    exact c_X1_readRoomName_36 (1 : Int32) μ13 h
