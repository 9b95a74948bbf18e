/-! X6_run -/
theorem dX6_run_0 : decode cX6_run 0 = .ok (.aload_n 1, 1) := by decide +kernel
theorem dX6_run_1 : decode cX6_run 1 = .ok (.getfield 15, 3) := by decide +kernel
theorem dX6_run_4 : decode cX6_run 4 = .ok (.istore 5, 2) := by decide +kernel
theorem dX6_run_6 : decode cX6_run 6 = .ok (.aload_n 0, 1) := by decide +kernel
theorem dX6_run_7 : decode cX6_run 7 = .ok (.iload 4, 2) := by decide +kernel
theorem dX6_run_9 : decode cX6_run 9 = .ok (.putfield 21, 3) := by decide +kernel
theorem dX6_run_12 : decode cX6_run 12 = .ok (.aload_n 0, 1) := by decide +kernel
theorem dX6_run_13 : decode cX6_run 13 = .ok (.iconst 0, 1) := by decide +kernel
theorem dX6_run_14 : decode cX6_run 14 = .ok (.putfield 24, 3) := by decide +kernel
theorem dX6_run_17 : decode cX6_run 17 = .ok (.aload_n 0, 1) := by decide +kernel
theorem dX6_run_18 : decode cX6_run 18 = .ok (.iconst 0, 1) := by decide +kernel
theorem dX6_run_19 : decode cX6_run 19 = .ok (.putfield 27, 3) := by decide +kernel
theorem dX6_run_22 : decode cX6_run 22 = .ok (.aload_n 0, 1) := by decide +kernel
theorem dX6_run_23 : decode cX6_run 23 = .ok (.iconst 0, 1) := by decide +kernel
theorem dX6_run_24 : decode cX6_run 24 = .ok (.putfield 30, 3) := by decide +kernel
theorem dX6_run_27 : decode cX6_run 27 = .ok (.aload_n 0, 1) := by decide +kernel
theorem dX6_run_28 : decode cX6_run 28 = .ok (.iconst 0, 1) := by decide +kernel
theorem dX6_run_29 : decode cX6_run 29 = .ok (.putfield 33, 3) := by decide +kernel
theorem dX6_run_32 : decode cX6_run 32 = .ok (.aload_n 0, 1) := by decide +kernel
theorem dX6_run_33 : decode cX6_run 33 = .ok (.iconst 0, 1) := by decide +kernel
theorem dX6_run_34 : decode cX6_run 34 = .ok (.putfield 36, 3) := by decide +kernel
theorem dX6_run_37 : decode cX6_run 37 = .ok (.iconst 0, 1) := by decide +kernel
theorem dX6_run_38 : decode cX6_run 38 = .ok (.istore 6, 2) := by decide +kernel
theorem dX6_run_40 : decode cX6_run 40 = .ok (.iconst 0, 1) := by decide +kernel
theorem dX6_run_41 : decode cX6_run 41 = .ok (.istore 7, 2) := by decide +kernel
theorem dX6_run_43 : decode cX6_run 43 = .ok (.iload 7, 2) := by decide +kernel
theorem dX6_run_45 : decode cX6_run 45 = .ok (.ldc 40, 2) := by decide +kernel
theorem dX6_run_47 : decode cX6_run 47 = .ok (.if_icmp .ge 129, 3) := by decide +kernel
theorem dX6_run_50 : decode cX6_run 50 = .ok (.iload 6, 2) := by decide +kernel
theorem dX6_run_52 : decode cX6_run 52 = .ok (.ifCond .lt 124, 3) := by decide +kernel
theorem dX6_run_55 : decode cX6_run 55 = .ok (.iload 6, 2) := by decide +kernel
theorem dX6_run_57 : decode cX6_run 57 = .ok (.aload_n 2, 1) := by decide +kernel
theorem dX6_run_58 : decode cX6_run 58 = .ok (.getfield 41, 3) := by decide +kernel
theorem dX6_run_61 : decode cX6_run 61 = .ok (.if_icmp .ge 115, 3) := by decide +kernel
theorem dX6_run_64 : decode cX6_run 64 = .ok (.aload_n 2, 1) := by decide +kernel
theorem dX6_run_65 : decode cX6_run 65 = .ok (.getfield 46, 3) := by decide +kernel
theorem dX6_run_68 : decode cX6_run 68 = .ok (.iload 6, 2) := by decide +kernel
theorem dX6_run_70 : decode cX6_run 70 = .ok (.iaload, 1) := by decide +kernel
theorem dX6_run_71 : decode cX6_run 71 = .ok (.istore 8, 2) := by decide +kernel
theorem dX6_run_73 : decode cX6_run 73 = .ok (.aload_n 0, 1) := by decide +kernel
theorem dX6_run_74 : decode cX6_run 74 = .ok (.iload 8, 2) := by decide +kernel
theorem dX6_run_76 : decode cX6_run 76 = .ok (.bipush 22, 2) := by decide +kernel
theorem dX6_run_78 : decode cX6_run 78 = .ok (.if_icmp .eq 17, 3) := by decide +kernel
theorem dX6_run_81 : decode cX6_run 81 = .ok (.aload_n 0, 1) := by decide +kernel
theorem dX6_run_82 : decode cX6_run 82 = .ok (.getfield 24, 3) := by decide +kernel
theorem dX6_run_85 : decode cX6_run 85 = .ok (.sipush 300, 3) := by decide +kernel
theorem dX6_run_88 : decode cX6_run 88 = .ok (.if_icmp .lt 7, 3) := by decide +kernel
theorem dX6_run_91 : decode cX6_run 91 = .ok (.iconst 1, 1) := by decide +kernel
theorem dX6_run_92 : decode cX6_run 92 = .ok (.goto 4, 3) := by decide +kernel
theorem dX6_run_95 : decode cX6_run 95 = .ok (.iconst 0, 1) := by decide +kernel
theorem dX6_run_96 : decode cX6_run 96 = .ok (.putfield 36, 3) := by decide +kernel
theorem dX6_run_99 : decode cX6_run 99 = .ok (.aload_n 0, 1) := by decide +kernel
theorem dX6_run_100 : decode cX6_run 100 = .ok (.getfield 36, 3) := by decide +kernel
theorem dX6_run_103 : decode cX6_run 103 = .ok (.ifCond .eq 6, 3) := by decide +kernel
theorem dX6_run_106 : decode cX6_run 106 = .ok (.goto 70, 3) := by decide +kernel
theorem dX6_run_109 : decode cX6_run 109 = .ok (.iload 8, 2) := by decide +kernel
theorem dX6_run_111 : decode cX6_run 111 = .ok (.bipush 22, 2) := by decide +kernel
theorem dX6_run_113 : decode cX6_run 113 = .ok (.if_icmp .ne 15, 3) := by decide +kernel
theorem dX6_run_116 : decode cX6_run 116 = .ok (.aload_n 0, 1) := by decide +kernel
theorem dX6_run_117 : decode cX6_run 117 = .ok (.aload_n 2, 1) := by decide +kernel
theorem dX6_run_118 : decode cX6_run 118 = .ok (.iload 6, 2) := by decide +kernel
theorem dX6_run_120 : decode cX6_run 120 = .ok (.invokevirtual 49, 3) := by decide +kernel
theorem dX6_run_123 : decode cX6_run 123 = .ok (.istore 6, 2) := by decide +kernel
theorem dX6_run_125 : decode cX6_run 125 = .ok (.goto 45, 3) := by decide +kernel
theorem dX6_run_128 : decode cX6_run 128 = .ok (.aload_n 0, 1) := by decide +kernel
theorem dX6_run_129 : decode cX6_run 129 = .ok (.dup, 1) := by decide +kernel
theorem dX6_run_130 : decode cX6_run 130 = .ok (.getfield 24, 3) := by decide +kernel
theorem dX6_run_133 : decode cX6_run 133 = .ok (.iconst 1, 1) := by decide +kernel
theorem dX6_run_134 : decode cX6_run 134 = .ok (.iadd, 1) := by decide +kernel
theorem dX6_run_135 : decode cX6_run 135 = .ok (.putfield 24, 3) := by decide +kernel
theorem dX6_run_138 : decode cX6_run 138 = .ok (.aload_n 0, 1) := by decide +kernel
theorem dX6_run_139 : decode cX6_run 139 = .ok (.aload_n 1, 1) := by decide +kernel
theorem dX6_run_140 : decode cX6_run 140 = .ok (.aload_n 2, 1) := by decide +kernel
theorem dX6_run_141 : decode cX6_run 141 = .ok (.aload_n 3, 1) := by decide +kernel
theorem dX6_run_142 : decode cX6_run 142 = .ok (.iload 6, 2) := by decide +kernel
theorem dX6_run_144 : decode cX6_run 144 = .ok (.invokevirtual 53, 3) := by decide +kernel
theorem dX6_run_147 : decode cX6_run 147 = .ok (.ifCond .ne 13, 3) := by decide +kernel
theorem dX6_run_150 : decode cX6_run 150 = .ok (.aload_n 0, 1) := by decide +kernel
theorem dX6_run_151 : decode cX6_run 151 = .ok (.dup, 1) := by decide +kernel
theorem dX6_run_152 : decode cX6_run 152 = .ok (.getfield 27, 3) := by decide +kernel
theorem dX6_run_155 : decode cX6_run 155 = .ok (.iconst 1, 1) := by decide +kernel
theorem dX6_run_156 : decode cX6_run 156 = .ok (.iadd, 1) := by decide +kernel
theorem dX6_run_157 : decode cX6_run 157 = .ok (.putfield 27, 3) := by decide +kernel
theorem dX6_run_160 : decode cX6_run 160 = .ok (.aload_n 0, 1) := by decide +kernel
theorem dX6_run_161 : decode cX6_run 161 = .ok (.aload_n 1, 1) := by decide +kernel
theorem dX6_run_162 : decode cX6_run 162 = .ok (.aload_n 2, 1) := by decide +kernel
theorem dX6_run_163 : decode cX6_run 163 = .ok (.iload 6, 2) := by decide +kernel
theorem dX6_run_165 : decode cX6_run 165 = .ok (.invokevirtual 57, 3) := by decide +kernel
theorem dX6_run_168 : decode cX6_run 168 = .ok (.istore 6, 2) := by decide +kernel
theorem dX6_run_170 : decode cX6_run 170 = .ok (.iinc 7 1, 3) := by decide +kernel
theorem dX6_run_173 : decode cX6_run 173 = .ok (.goto (-130), 3) := by decide +kernel
theorem dX6_run_176 : decode cX6_run 176 = .ok (.aload_n 0, 1) := by decide +kernel
theorem dX6_run_177 : decode cX6_run 177 = .ok (.aload_n 1, 1) := by decide +kernel
theorem dX6_run_178 : decode cX6_run 178 = .ok (.getfield 15, 3) := by decide +kernel
theorem dX6_run_181 : decode cX6_run 181 = .ok (.iload 5, 2) := by decide +kernel
theorem dX6_run_183 : decode cX6_run 183 = .ok (.isub, 1) := by decide +kernel
theorem dX6_run_184 : decode cX6_run 184 = .ok (.putfield 61, 3) := by decide +kernel
theorem dX6_run_187 : decode cX6_run 187 = .ok (.return_, 1) := by decide +kernel
set_option maxRecDepth 100000 in
def f_X6_run_176 (l0 : Nat) (l1 : Nat) (l5 : Int32) (μ : dtM) : Option dtM :=
  (opGI 3 6 μ l1).bind fun x1 => (opPI 6 4 μ l0 (x1 - l5)).bind fun μ3 => some μ3
set_option maxRecDepth 100000 in
def f_X6_run_170 (k43 : Nat → Nat → Nat → Nat → Int32 → Int32 → Int32 → dtM → Option dtM) (l0 : Nat) (l1 : Nat) (l2 : Nat) (l3 : Nat) (l5 : Int32) (l6 : Int32) (l7 : Int32) (μ : dtM) : Option dtM :=
  k43 l0 l1 l2 l3 l5 l6 (l7 + 1) μ
set_option maxRecDepth 100000 in
def f_X6_run_160 (k43 : Nat → Nat → Nat → Nat → Int32 → Int32 → Int32 → dtM → Option dtM) (l0 : Nat) (l1 : Nat) (l2 : Nat) (l3 : Nat) (l5 : Int32) (l6 : Int32) (l7 : Int32) (μ : dtM) : Option dtM :=
  (opRv 6 μ l0).bind fun _ => opCall (f_X6_behindStep l0 l1 l2 l6 μ) fun x4 μ2 => f_X6_run_170 k43 l0 l1 l2 l3 l5 x4 l7 μ2
set_option maxRecDepth 100000 in
def f_X6_run_96 (k43 : Nat → Nat → Nat → Nat → Int32 → Int32 → Int32 → dtM → Option dtM) (l0 : Nat) (l1 : Nat) (l2 : Nat) (l3 : Nat) (l5 : Int32) (l6 : Int32) (l7 : Int32) (l8 : Int32) (s0 : Nat) (s1 : Int32) (μ : dtM) : Option dtM :=
  (opPZ 6 7 μ s0 s1).bind fun μ1 => (opGI 6 7 μ1 l0).bind fun x3 => if x3 = 0 then (if l8 = (22 : Int32) then ((opRv 6 μ1 l0).bind fun _ => opCall (f_X6_behindEnd l0 l2 l6 μ1) fun x29 μ27 => f_X6_run_170 k43 l0 l1 l2 l3 l5 x29 l7 μ27) else ((opGI 6 2 μ1 l0).bind fun x11 => (opPI 6 2 μ1 l0 (x11 + (1 : Int32))).bind fun μ13 => (opRv 6 μ13 l0).bind fun _ => opCall (f_X6_act l0 l1 l2 l3 l6 μ13) fun x18 μ16 => if x18 = 0 then ((opGI 6 3 μ16 l0).bind fun x22 => (opPI 6 3 μ16 l0 (x22 + (1 : Int32))).bind fun μ24 => f_X6_run_160 k43 l0 l1 l2 l3 l5 l6 l7 μ24) else (f_X6_run_160 k43 l0 l1 l2 l3 l5 l6 l7 μ16))) else (f_X6_run_176 l0 l1 l5 μ1)
set_option maxRecDepth 100000 in
def f_X6_run_95 (k43 : Nat → Nat → Nat → Nat → Int32 → Int32 → Int32 → dtM → Option dtM) (l0 : Nat) (l1 : Nat) (l2 : Nat) (l3 : Nat) (l5 : Int32) (l6 : Int32) (l7 : Int32) (l8 : Int32) (s0 : Nat) (μ : dtM) : Option dtM :=
  f_X6_run_96 k43 l0 l1 l2 l3 l5 l6 l7 l8 s0 (0 : Int32) μ
set_option maxRecDepth 100000 in
def f_X6_run_43 : Nat → Nat → Nat → Nat → Nat → Int32 → Int32 → Int32 → dtM → Option dtM
  | 0, _, _, _, _, _, _, _, _ => none
  | n + 1, l0, l1, l2, l3, l5, l6, l7, μ =>
    if (1000000 : Int32) ≤ l7 then (f_X6_run_176 l0 l1 l5 μ) else (if l6 < 0 then (f_X6_run_176 l0 l1 l5 μ) else ((opGI 0 2 μ l2).bind fun x7 => if x7 ≤ l6 then (f_X6_run_176 l0 l1 l5 μ) else ((opGR 0 3 μ l2).bind fun x12 => (opLI 1 μ x12 l6).bind fun x14 => if x14 = (22 : Int32) then (f_X6_run_95 (f_X6_run_43 n) l0 l1 l2 l3 l5 l6 l7 x14 l0 μ) else ((opGI 6 2 μ l0).bind fun x19 => if x19 < (300 : Int32) then (f_X6_run_95 (f_X6_run_43 n) l0 l1 l2 l3 l5 l6 l7 x14 l0 μ) else (f_X6_run_96 (f_X6_run_43 n) l0 l1 l2 l3 l5 l6 l7 x14 l0 (1 : Int32) μ)))))
set_option maxRecDepth 100000 in
def f_X6_run (p0 : Nat) (p1 : Nat) (p2 : Nat) (p3 : Nat) (p4 : Int32) (μ : dtM) : Option dtM :=
  (opGI 3 6 μ p1).bind fun x1 => (opPI 6 1 μ p0 p4).bind fun μ3 => (opPI 6 2 μ3 p0 (0 : Int32)).bind fun μ5 => (opPI 6 3 μ5 p0 (0 : Int32)).bind fun μ7 => (opPI 6 5 μ7 p0 (0 : Int32)).bind fun μ9 => (opPI 6 6 μ9 p0 (0 : Int32)).bind fun μ11 => (opPZ 6 7 μ11 p0 (0 : Int32)).bind fun μ13 => f_X6_run_43 dtFuel p0 p1 p2 p3 x1 (0 : Int32) (0 : Int32) μ13
set_option maxRecDepth 100000 in
theorem c_X6_run_176 {F : dtM} (l0 : Nat) (l1 : Nat) (l5 : Int32) (μ : dtM) (h : f_X6_run_176 l0 l1 l5 μ = some F) : dtW yX6_run cX6_run 9 (none) 6 (none) F 176 [some (.ref l0), some (.ref l1), none, none, none, some (.int l5)] [] μ := by
  rw [f_X6_run_176] at h
  refine dr_aload_n l0 dX6_run_176 rfl ?_
  refine dr_aload_n l1 dX6_run_177 rfl ?_
  obtain ⟨x1, e2, h⟩ := dtBind h
  refine dr_getI x1 dX6_run_178 fl_RX6_15 e2 ?_
  refine dr_iload l5 dX6_run_181 rfl ?_
  refine dr_isub dX6_run_183 ?_
  obtain ⟨μ3, e4, h⟩ := dtBind h
  refine dr_putI μ3 dX6_run_184 fl_RX6_61 rfl e4 ?_
  cases h
  exact dr_return dX6_run_187
set_option maxRecDepth 100000 in
theorem c_X6_run_170 {F : dtM} (k43 : Nat → Nat → Nat → Nat → Int32 → Int32 → Int32 → dtM → Option dtM) (hk43 : ∀ (l0 : Nat) (l1 : Nat) (l2 : Nat) (l3 : Nat) (l5 : Int32) (l6 : Int32) (l7 : Int32) (μ : dtM), k43 l0 l1 l2 l3 l5 l6 l7 μ = some F → dtW yX6_run cX6_run 9 (none) 6 (none) F 43 [some (.ref l0), some (.ref l1), some (.ref l2), some (.ref l3), none, some (.int l5), some (.int l6), some (.int l7)] [] μ) (l0 : Nat) (l1 : Nat) (l2 : Nat) (l3 : Nat) (l5 : Int32) (l6 : Int32) (l7 : Int32) (μ : dtM) (h : f_X6_run_170 k43 l0 l1 l2 l3 l5 l6 l7 μ = some F) : dtW yX6_run cX6_run 9 (none) 6 (none) F 170 [some (.ref l0), some (.ref l1), some (.ref l2), some (.ref l3), none, some (.int l5), some (.int l6), some (.int l7)] [] μ := by
  rw [f_X6_run_170] at h
  refine dr_iinc l7 (l7 + 1) [some (.ref l0), some (.ref l1), some (.ref l2), some (.ref l3), none, some (.int l5), some (.int l6), some (.int (l7 + 1))] dX6_run_170 rfl rfl rfl rfl rfl ?_
  refine dr_goto 43 dX6_run_173 (by decide) ?_
  exact hk43 l0 l1 l2 l3 l5 l6 (l7 + 1) μ h
set_option maxRecDepth 100000 in
theorem c_X6_run_160 {F : dtM} (k43 : Nat → Nat → Nat → Nat → Int32 → Int32 → Int32 → dtM → Option dtM) (hk43 : ∀ (l0 : Nat) (l1 : Nat) (l2 : Nat) (l3 : Nat) (l5 : Int32) (l6 : Int32) (l7 : Int32) (μ : dtM), k43 l0 l1 l2 l3 l5 l6 l7 μ = some F → dtW yX6_run cX6_run 9 (none) 6 (none) F 43 [some (.ref l0), some (.ref l1), some (.ref l2), some (.ref l3), none, some (.int l5), some (.int l6), some (.int l7)] [] μ) (l0 : Nat) (l1 : Nat) (l2 : Nat) (l3 : Nat) (l5 : Int32) (l6 : Int32) (l7 : Int32) (μ : dtM) (h : f_X6_run_160 k43 l0 l1 l2 l3 l5 l6 l7 μ = some F) : dtW yX6_run cX6_run 9 (none) 6 (none) F 160 [some (.ref l0), some (.ref l1), some (.ref l2), some (.ref l3), none, some (.int l5), some (.int l6), some (.int l7)] [] μ := by
  rw [f_X6_run_160] at h
  refine dr_aload_n l0 dX6_run_160 rfl ?_
  refine dr_aload_n l1 dX6_run_161 rfl ?_
  refine dr_aload_n l2 dX6_run_162 rfl ?_
  refine dr_iload l6 dX6_run_163 rfl ?_
  obtain ⟨_, hb1, h⟩ := dtBind h
  obtain ⟨x4, μ2, e3, h⟩ := dtCall h
  refine dr_callV_i (S0 := []) [.ref l1, .ref l2, .int l6] x4 μ2 dX6_run_165 (c_X6_behindStep l0 l1 l2 l6 μ e3) mf_X6_behindStep wt_1303 ws_51 wt_1301 rfl (dtRv hb1) (by decide) rfl (Nat.le_of_ble_eq_true rfl) (Nat.le_of_ble_eq_true rfl) rfl ?_
  refine dr_istore [some (.ref l0), some (.ref l1), some (.ref l2), some (.ref l3), none, some (.int l5), some (.int x4), some (.int l7)] dX6_run_168 rfl rfl rfl ?_
  exact c_X6_run_170 k43 hk43 l0 l1 l2 l3 l5 x4 l7 μ2 h
set_option maxRecDepth 100000 in
theorem c_X6_run_96 {F : dtM} (k43 : Nat → Nat → Nat → Nat → Int32 → Int32 → Int32 → dtM → Option dtM) (hk43 : ∀ (l0 : Nat) (l1 : Nat) (l2 : Nat) (l3 : Nat) (l5 : Int32) (l6 : Int32) (l7 : Int32) (μ : dtM), k43 l0 l1 l2 l3 l5 l6 l7 μ = some F → dtW yX6_run cX6_run 9 (none) 6 (none) F 43 [some (.ref l0), some (.ref l1), some (.ref l2), some (.ref l3), none, some (.int l5), some (.int l6), some (.int l7)] [] μ) (l0 : Nat) (l1 : Nat) (l2 : Nat) (l3 : Nat) (l5 : Int32) (l6 : Int32) (l7 : Int32) (l8 : Int32) (s0 : Nat) (s1 : Int32) (μ : dtM) (h : f_X6_run_96 k43 l0 l1 l2 l3 l5 l6 l7 l8 s0 s1 μ = some F) : dtW yX6_run cX6_run 9 (none) 6 (none) F 96 [some (.ref l0), some (.ref l1), some (.ref l2), some (.ref l3), none, some (.int l5), some (.int l6), some (.int l7), some (.int l8)] [.int s1, .ref s0] μ := by
  rw [f_X6_run_96] at h
  obtain ⟨μ1, e2, h⟩ := dtBind h
  refine dr_putZ μ1 dX6_run_96 fl_RX6_36 rfl e2 ?_
  refine dr_aload_n l0 dX6_run_99 rfl ?_
  obtain ⟨x3, e4, h⟩ := dtBind h
  refine dr_getZ x3 dX6_run_100 fl_RX6_36 e4 ?_
  obtain ⟨ht6, hf7⟩ := dtIte h
  refine dr_if_eq 109 dX6_run_103 (by decide) (fun hc5 => ?_) (fun hc5 => ?_)
  · have h := ht6 hc5
    refine dr_iload l8 dX6_run_109 rfl ?_
    refine dr_bipush (22 : Int32) dX6_run_111 (by decide) ?_
    obtain ⟨ht9, hf10⟩ := dtIte h
    refine dr_icmp_ne 128 dX6_run_113 (by decide) (fun hc8 => ?_) (fun hc8 => ?_)
    · have h := hf10 hc8
      refine dr_aload_n l0 dX6_run_128 rfl ?_
      refine dr_dup dX6_run_129 rfl ?_
      obtain ⟨x11, e12, h⟩ := dtBind h
      refine dr_getI x11 dX6_run_130 fl_RX6_24 e12 ?_
      refine dr_iconst (1 : Int32) dX6_run_133 (by decide) ?_
      refine dr_iadd dX6_run_134 ?_
      obtain ⟨μ13, e14, h⟩ := dtBind h
      refine dr_putI μ13 dX6_run_135 fl_RX6_24 rfl e14 ?_
      refine dr_aload_n l0 dX6_run_138 rfl ?_
      refine dr_aload_n l1 dX6_run_139 rfl ?_
      refine dr_aload_n l2 dX6_run_140 rfl ?_
      refine dr_aload_n l3 dX6_run_141 rfl ?_
      refine dr_iload l6 dX6_run_142 rfl ?_
      obtain ⟨_, hb15, h⟩ := dtBind h
      obtain ⟨x18, μ16, e17, h⟩ := dtCall h
      refine dr_callV_i (S0 := []) [.ref l1, .ref l2, .ref l3, .int l6] x18 μ16 dX6_run_144 (c_X6_act l0 l1 l2 l3 l6 μ13 e17) mf_X6_act wt_1274 ws_47 wt_1272 rfl (dtRv hb15) (by decide) rfl (Nat.le_of_ble_eq_true rfl) (Nat.le_of_ble_eq_true rfl) rfl ?_
      obtain ⟨ht20, hf21⟩ := dtIte h
      refine dr_if_ne 160 dX6_run_147 (by decide) (fun hc19 => ?_) (fun hc19 => ?_)
      · have h := hf21 hc19
        refine dr_mask [true, true, true, true, false, true, true, true] [some (.ref l0), some (.ref l1), some (.ref l2), some (.ref l3), none, some (.int l5), some (.int l6), some (.int l7)] rfl ?_
        exact c_X6_run_160 k43 hk43 l0 l1 l2 l3 l5 l6 l7 μ16 h
      · have h := ht20 hc19
        refine dr_aload_n l0 dX6_run_150 rfl ?_
        refine dr_dup dX6_run_151 rfl ?_
        obtain ⟨x22, e23, h⟩ := dtBind h
        refine dr_getI x22 dX6_run_152 fl_RX6_27 e23 ?_
        refine dr_iconst (1 : Int32) dX6_run_155 (by decide) ?_
        refine dr_iadd dX6_run_156 ?_
        obtain ⟨μ24, e25, h⟩ := dtBind h
        refine dr_putI μ24 dX6_run_157 fl_RX6_27 rfl e25 ?_
        refine dr_mask [true, true, true, true, false, true, true, true] [some (.ref l0), some (.ref l1), some (.ref l2), some (.ref l3), none, some (.int l5), some (.int l6), some (.int l7)] rfl ?_
        exact c_X6_run_160 k43 hk43 l0 l1 l2 l3 l5 l6 l7 μ24 h
    · have h := ht9 hc8
      refine dr_aload_n l0 dX6_run_116 rfl ?_
      refine dr_aload_n l2 dX6_run_117 rfl ?_
      refine dr_iload l6 dX6_run_118 rfl ?_
      obtain ⟨_, hb26, h⟩ := dtBind h
      obtain ⟨x29, μ27, e28, h⟩ := dtCall h
      refine dr_callV_i (S0 := []) [.ref l2, .int l6] x29 μ27 dX6_run_120 (c_X6_behindEnd l0 l2 l6 μ1 e28) mf_X6_behindEnd wt_1270 ws_46 wt_1268 rfl (dtRv hb26) (by decide) rfl (Nat.le_of_ble_eq_true rfl) (Nat.le_of_ble_eq_true rfl) rfl ?_
      refine dr_istore [some (.ref l0), some (.ref l1), some (.ref l2), some (.ref l3), none, some (.int l5), some (.int x29), some (.int l7), some (.int l8)] dX6_run_123 rfl rfl rfl ?_
      refine dr_goto 170 dX6_run_125 (by decide) ?_
      refine dr_mask [true, true, true, true, false, true, true, true] [some (.ref l0), some (.ref l1), some (.ref l2), some (.ref l3), none, some (.int l5), some (.int x29), some (.int l7)] rfl ?_
      exact c_X6_run_170 k43 hk43 l0 l1 l2 l3 l5 x29 l7 μ27 h
  · have h := hf7 hc5
    refine dr_goto 176 dX6_run_106 (by decide) ?_
    refine dr_mask [true, true, false, false, false, true] [some (.ref l0), some (.ref l1), none, none, none, some (.int l5)] rfl ?_
    exact c_X6_run_176 l0 l1 l5 μ1 h
set_option maxRecDepth 100000 in
theorem c_X6_run_95 {F : dtM} (k43 : Nat → Nat → Nat → Nat → Int32 → Int32 → Int32 → dtM → Option dtM) (hk43 : ∀ (l0 : Nat) (l1 : Nat) (l2 : Nat) (l3 : Nat) (l5 : Int32) (l6 : Int32) (l7 : Int32) (μ : dtM), k43 l0 l1 l2 l3 l5 l6 l7 μ = some F → dtW yX6_run cX6_run 9 (none) 6 (none) F 43 [some (.ref l0), some (.ref l1), some (.ref l2), some (.ref l3), none, some (.int l5), some (.int l6), some (.int l7)] [] μ) (l0 : Nat) (l1 : Nat) (l2 : Nat) (l3 : Nat) (l5 : Int32) (l6 : Int32) (l7 : Int32) (l8 : Int32) (s0 : Nat) (μ : dtM) (h : f_X6_run_95 k43 l0 l1 l2 l3 l5 l6 l7 l8 s0 μ = some F) : dtW yX6_run cX6_run 9 (none) 6 (none) F 95 [some (.ref l0), some (.ref l1), some (.ref l2), some (.ref l3), none, some (.int l5), some (.int l6), some (.int l7), some (.int l8)] [.ref s0] μ := by
  rw [f_X6_run_95] at h
  refine dr_iconst (0 : Int32) dX6_run_95 (by decide) ?_
  exact c_X6_run_96 k43 hk43 l0 l1 l2 l3 l5 l6 l7 l8 s0 (0 : Int32) μ h
set_option maxRecDepth 100000 in
theorem c_X6_run_43 {F : dtM} : ∀ (n : Nat) (l0 : Nat) (l1 : Nat) (l2 : Nat) (l3 : Nat) (l5 : Int32) (l6 : Int32) (l7 : Int32) (μ : dtM), f_X6_run_43 n l0 l1 l2 l3 l5 l6 l7 μ = some F → dtW yX6_run cX6_run 9 (none) 6 (none) F 43 [some (.ref l0), some (.ref l1), some (.ref l2), some (.ref l3), none, some (.int l5), some (.int l6), some (.int l7)] [] μ := by
  intro n
  induction n with
  | zero => intro l0 l1 l2 l3 l5 l6 l7 μ h; cases h
  | succ n ih =>
    intro l0 l1 l2 l3 l5 l6 l7 μ h
    have h := (show f_X6_run_43 (n + 1) l0 l1 l2 l3 l5 l6 l7 μ = some _ from h)
    rw [f_X6_run_43] at h
    refine dr_iload l7 dX6_run_43 rfl ?_
    refine dr_ldc (1000000 : Int32) dX6_run_45 wt_1267 ?_
    obtain ⟨ht2, hf3⟩ := dtIte h
    refine dr_icmp_ge 176 dX6_run_47 (by decide) (fun hc1 => ?_) (fun hc1 => ?_)
    · have h := ht2 hc1
      refine dr_mask [true, true, false, false, false, true] [some (.ref l0), some (.ref l1), none, none, none, some (.int l5)] rfl ?_
      exact c_X6_run_176 l0 l1 l5 μ h
    · have h := hf3 hc1
      refine dr_iload l6 dX6_run_50 rfl ?_
      obtain ⟨ht5, hf6⟩ := dtIte h
      refine dr_if_lt 176 dX6_run_52 (by decide) (fun hc4 => ?_) (fun hc4 => ?_)
      · have h := ht5 hc4
        refine dr_mask [true, true, false, false, false, true] [some (.ref l0), some (.ref l1), none, none, none, some (.int l5)] rfl ?_
        exact c_X6_run_176 l0 l1 l5 μ h
      · have h := hf6 hc4
        refine dr_iload l6 dX6_run_55 rfl ?_
        refine dr_aload_n l2 dX6_run_57 rfl ?_
        obtain ⟨x7, e8, h⟩ := dtBind h
        refine dr_getI x7 dX6_run_58 fl_RX6_41 e8 ?_
        obtain ⟨ht10, hf11⟩ := dtIte h
        refine dr_icmp_ge 176 dX6_run_61 (by decide) (fun hc9 => ?_) (fun hc9 => ?_)
        · have h := ht10 hc9
          refine dr_mask [true, true, false, false, false, true] [some (.ref l0), some (.ref l1), none, none, none, some (.int l5)] rfl ?_
          exact c_X6_run_176 l0 l1 l5 μ h
        · have h := hf11 hc9
          refine dr_aload_n l2 dX6_run_64 rfl ?_
          obtain ⟨x12, e13, h⟩ := dtBind h
          refine dr_getR x12 dX6_run_65 fl_RX6_46 e13 ?_
          refine dr_iload l6 dX6_run_68 rfl ?_
          obtain ⟨x14, e15, h⟩ := dtBind h
          refine dr_iaload x14 dX6_run_70 e15 ?_
          refine dr_istore [some (.ref l0), some (.ref l1), some (.ref l2), some (.ref l3), none, some (.int l5), some (.int l6), some (.int l7), some (.int x14)] dX6_run_71 rfl rfl rfl ?_
          refine dr_aload_n l0 dX6_run_73 rfl ?_
          refine dr_iload x14 dX6_run_74 rfl ?_
          refine dr_bipush (22 : Int32) dX6_run_76 (by decide) ?_
          obtain ⟨ht17, hf18⟩ := dtIte h
          refine dr_icmp_eq 95 dX6_run_78 (by decide) (fun hc16 => ?_) (fun hc16 => ?_)
          · have h := ht17 hc16
            exact c_X6_run_95 (f_X6_run_43 n) ih l0 l1 l2 l3 l5 l6 l7 x14 l0 μ h
          · have h := hf18 hc16
            refine dr_aload_n l0 dX6_run_81 rfl ?_
            obtain ⟨x19, e20, h⟩ := dtBind h
            refine dr_getI x19 dX6_run_82 fl_RX6_24 e20 ?_
            refine dr_sipush (300 : Int32) dX6_run_85 (by decide) ?_
            obtain ⟨ht22, hf23⟩ := dtIte h
            refine dr_icmp_lt 95 dX6_run_88 (by decide) (fun hc21 => ?_) (fun hc21 => ?_)
            · have h := ht22 hc21
              exact c_X6_run_95 (f_X6_run_43 n) ih l0 l1 l2 l3 l5 l6 l7 x14 l0 μ h
            · have h := hf23 hc21
              refine dr_iconst (1 : Int32) dX6_run_91 (by decide) ?_
              refine dr_goto 96 dX6_run_92 (by decide) ?_
              exact c_X6_run_96 (f_X6_run_43 n) ih l0 l1 l2 l3 l5 l6 l7 x14 l0 (1 : Int32) μ h
set_option maxRecDepth 100000 in
theorem c_X6_run {F : dtM} (p0 : Nat) (p1 : Nat) (p2 : Nat) (p3 : Nat) (p4 : Int32) (μ : dtM) (h : f_X6_run p0 p1 p2 p3 p4 μ = some F) : dtMet yX6_run cX6_run 9 (none) 6 [.ref p0, .ref p1, .ref p2, .ref p3, .int p4] μ (none) F := by
  refine dtMet.of (by decide +kernel) (Nat.le_of_ble_eq_true rfl) (show dtW yX6_run cX6_run 9 (none) 6 (none) F 0 [some (.ref p0), some (.ref p1), some (.ref p2), some (.ref p3), some (.int p4)] [] μ from ?_)
  rw [f_X6_run] at h
  refine dr_aload_n p1 dX6_run_0 rfl ?_
  obtain ⟨x1, e2, h⟩ := dtBind h
  refine dr_getI x1 dX6_run_1 fl_RX6_15 e2 ?_
  refine dr_istore [some (.ref p0), some (.ref p1), some (.ref p2), some (.ref p3), some (.int p4), some (.int x1)] dX6_run_4 rfl rfl rfl ?_
  refine dr_aload_n p0 dX6_run_6 rfl ?_
  refine dr_iload p4 dX6_run_7 rfl ?_
  obtain ⟨μ3, e4, h⟩ := dtBind h
  refine dr_putI μ3 dX6_run_9 fl_RX6_21 rfl e4 ?_
  refine dr_aload_n p0 dX6_run_12 rfl ?_
  refine dr_iconst (0 : Int32) dX6_run_13 (by decide) ?_
  obtain ⟨μ5, e6, h⟩ := dtBind h
  refine dr_putI μ5 dX6_run_14 fl_RX6_24 rfl e6 ?_
  refine dr_aload_n p0 dX6_run_17 rfl ?_
  refine dr_iconst (0 : Int32) dX6_run_18 (by decide) ?_
  obtain ⟨μ7, e8, h⟩ := dtBind h
  refine dr_putI μ7 dX6_run_19 fl_RX6_27 rfl e8 ?_
  refine dr_aload_n p0 dX6_run_22 rfl ?_
  refine dr_iconst (0 : Int32) dX6_run_23 (by decide) ?_
  obtain ⟨μ9, e10, h⟩ := dtBind h
  refine dr_putI μ9 dX6_run_24 fl_RX6_30 rfl e10 ?_
  refine dr_aload_n p0 dX6_run_27 rfl ?_
  refine dr_iconst (0 : Int32) dX6_run_28 (by decide) ?_
  obtain ⟨μ11, e12, h⟩ := dtBind h
  refine dr_putI μ11 dX6_run_29 fl_RX6_33 rfl e12 ?_
  refine dr_aload_n p0 dX6_run_32 rfl ?_
  refine dr_iconst (0 : Int32) dX6_run_33 (by decide) ?_
  obtain ⟨μ13, e14, h⟩ := dtBind h
  refine dr_putZ μ13 dX6_run_34 fl_RX6_36 rfl e14 ?_
  refine dr_iconst (0 : Int32) dX6_run_37 (by decide) ?_
  refine dr_istore [some (.ref p0), some (.ref p1), some (.ref p2), some (.ref p3), some (.int p4), some (.int x1), some (.int (0 : Int32))] dX6_run_38 rfl rfl rfl ?_
  refine dr_iconst (0 : Int32) dX6_run_40 (by decide) ?_
  refine dr_istore [some (.ref p0), some (.ref p1), some (.ref p2), some (.ref p3), some (.int p4), some (.int x1), some (.int (0 : Int32)), some (.int (0 : Int32))] dX6_run_41 rfl rfl rfl ?_
  refine dr_mask [true, true, true, true, false, true, true, true] [some (.ref p0), some (.ref p1), some (.ref p2), some (.ref p3), none, some (.int x1), some (.int (0 : Int32)), some (.int (0 : Int32))] rfl ?_
  exact c_X6_run_43 dtFuel p0 p1 p2 p3 x1 (0 : Int32) (0 : Int32) μ13 h
/-! X7_init -/
theorem dX7_init_0 : decode cX7_init 0 = .ok (.aload_n 0, 1) := by decide +kernel
theorem dX7_init_1 : decode cX7_init 1 = .ok (.invokespecial 3, 3) := by decide +kernel
theorem dX7_init_4 : decode cX7_init 4 = .ok (.aload_n 0, 1) := by decide +kernel
theorem dX7_init_5 : decode cX7_init 5 = .ok (.sipush 900, 3) := by decide +kernel
theorem dX7_init_8 : decode cX7_init 8 = .ok (.newarray .byte, 2) := by decide +kernel
theorem dX7_init_10 : decode cX7_init 10 = .ok (.putfield 9, 3) := by decide +kernel
theorem dX7_init_13 : decode cX7_init 13 = .ok (.aload_n 0, 1) := by decide +kernel
theorem dX7_init_14 : decode cX7_init 14 = .ok (.iconst (-1), 1) := by decide +kernel
theorem dX7_init_15 : decode cX7_init 15 = .ok (.putfield 15, 3) := by decide +kernel
theorem dX7_init_18 : decode cX7_init 18 = .ok (.aload_n 0, 1) := by decide +kernel
theorem dX7_init_19 : decode cX7_init 19 = .ok (.iconst (-1), 1) := by decide +kernel
theorem dX7_init_20 : decode cX7_init 20 = .ok (.putfield 19, 3) := by decide +kernel
theorem dX7_init_23 : decode cX7_init 23 = .ok (.return_, 1) := by decide +kernel
set_option maxRecDepth 100000 in
def f_X7_init (p0 : Nat) (μ : dtM) : Option dtM :=
  (opLt p0).bind fun _ => opCall (opNA 2 μ (900 : Int32)) fun q2 μ3 => (opPR 7 0 μ3 p0 q2).bind fun μ5 => (opPI 7 2 μ5 p0 (-1 : Int32)).bind fun μ7 => (opPI 7 3 μ7 p0 (-1 : Int32)).bind fun μ9 => some μ9
set_option maxRecDepth 100000 in
theorem c_X7_init {F : dtM} (p0 : Nat) (μ : dtM) (h : f_X7_init p0 μ = some F) : dtMet yX7_init cX7_init 1 (none) 1 [.ref p0] μ (none) F := by
  refine dtMet.of (by decide +kernel) (Nat.le_of_ble_eq_true rfl) (show dtW yX7_init cX7_init 1 (none) 1 (none) F 0 [some (.ref p0)] [] μ from ?_)
  rw [f_X7_init] at h
  refine dr_aload_n p0 dX7_init_0 rfl ?_
  obtain ⟨_, hb1, h⟩ := dtBind h
  refine dr_objInit dX7_init_1 wt_59 wt_27 wt_28 (dtLt hb1) (Nat.le_of_ble_eq_true rfl) rfl ?_
  refine dr_aload_n p0 dX7_init_4 rfl ?_
  refine dr_sipush (900 : Int32) dX7_init_5 (by decide) ?_
  obtain ⟨q2, μ3, e4, h⟩ := dtCall h
  refine dr_newarray_b q2 μ3 dX7_init_8 wt_77 e4 ?_
  obtain ⟨μ5, e6, h⟩ := dtBind h
  refine dr_putRF μ5 dX7_init_10 fl_RX7_9 rfl rfl rfl e6 ?_
  refine dr_aload_n p0 dX7_init_13 rfl ?_
  refine dr_iconst (-1 : Int32) dX7_init_14 (by decide) ?_
  obtain ⟨μ7, e8, h⟩ := dtBind h
  refine dr_putI μ7 dX7_init_15 fl_RX7_15 rfl e8 ?_
  refine dr_aload_n p0 dX7_init_18 rfl ?_
  refine dr_iconst (-1 : Int32) dX7_init_19 (by decide) ?_
  obtain ⟨μ9, e10, h⟩ := dtBind h
  refine dr_putI μ9 dX7_init_20 fl_RX7_19 rfl e10 ?_
  cases h
  exact dr_return dX7_init_23
/-! X7_append -/
theorem dX7_append_0 : decode cX7_append 0 = .ok (.bipush 24, 2) := by decide +kernel
theorem dX7_append_2 : decode cX7_append 2 = .ok (.istore_n 2, 1) := by decide +kernel
theorem dX7_append_3 : decode cX7_append 3 = .ok (.iload_n 2, 1) := by decide +kernel
theorem dX7_append_4 : decode cX7_append 4 = .ok (.ifCond .lt 44, 3) := by decide +kernel
theorem dX7_append_7 : decode cX7_append 7 = .ok (.aload_n 0, 1) := by decide +kernel
theorem dX7_append_8 : decode cX7_append 8 = .ok (.getfield 22, 3) := by decide +kernel
theorem dX7_append_11 : decode cX7_append 11 = .ok (.aload_n 0, 1) := by decide +kernel
theorem dX7_append_12 : decode cX7_append 12 = .ok (.getfield 9, 3) := by decide +kernel
theorem dX7_append_15 : decode cX7_append 15 = .ok (.arraylength, 1) := by decide +kernel
theorem dX7_append_16 : decode cX7_append 16 = .ok (.if_icmp .ge 32, 3) := by decide +kernel
theorem dX7_append_19 : decode cX7_append 19 = .ok (.aload_n 0, 1) := by decide +kernel
theorem dX7_append_20 : decode cX7_append 20 = .ok (.getfield 9, 3) := by decide +kernel
theorem dX7_append_23 : decode cX7_append 23 = .ok (.aload_n 0, 1) := by decide +kernel
theorem dX7_append_24 : decode cX7_append 24 = .ok (.getfield 22, 3) := by decide +kernel
theorem dX7_append_27 : decode cX7_append 27 = .ok (.iload_n 1, 1) := by decide +kernel
theorem dX7_append_28 : decode cX7_append 28 = .ok (.iload_n 2, 1) := by decide +kernel
theorem dX7_append_29 : decode cX7_append 29 = .ok (.ishr, 1) := by decide +kernel
theorem dX7_append_30 : decode cX7_append 30 = .ok (.i2b, 1) := by decide +kernel
theorem dX7_append_31 : decode cX7_append 31 = .ok (.bastore, 1) := by decide +kernel
theorem dX7_append_32 : decode cX7_append 32 = .ok (.aload_n 0, 1) := by decide +kernel
theorem dX7_append_33 : decode cX7_append 33 = .ok (.dup, 1) := by decide +kernel
theorem dX7_append_34 : decode cX7_append 34 = .ok (.getfield 22, 3) := by decide +kernel
theorem dX7_append_37 : decode cX7_append 37 = .ok (.iconst 1, 1) := by decide +kernel
theorem dX7_append_38 : decode cX7_append 38 = .ok (.iadd, 1) := by decide +kernel
theorem dX7_append_39 : decode cX7_append 39 = .ok (.putfield 22, 3) := by decide +kernel
theorem dX7_append_42 : decode cX7_append 42 = .ok (.iinc 2 (-8), 3) := by decide +kernel
theorem dX7_append_45 : decode cX7_append 45 = .ok (.goto (-42), 3) := by decide +kernel
theorem dX7_append_48 : decode cX7_append 48 = .ok (.return_, 1) := by decide +kernel
set_option maxRecDepth 100000 in
def f_X7_append_48  (μ : dtM) : Option dtM :=
  some μ
set_option maxRecDepth 100000 in
def f_X7_append_3 : Nat → Nat → Int32 → Int32 → dtM → Option dtM
  | 0, _, _, _, _ => none
  | n + 1, l0, l1, l2, μ =>
    if l2 < 0 then (f_X7_append_48 μ) else ((opGI 7 1 μ l0).bind fun x4 => (opGR 7 0 μ l0).bind fun x6 => (opAL μ x6).bind fun x8 => if x8 ≤ x4 then (f_X7_append_48 μ) else ((opGR 7 0 μ l0).bind fun x13 => (opGI 7 1 μ l0).bind fun x15 => (opSB μ x13 x15 ((l1 >>> (l2 &&& 31)).toInt8.toInt32)).bind fun μ17 => (opGI 7 1 μ17 l0).bind fun x19 => (opPI 7 1 μ17 l0 (x19 + (1 : Int32))).bind fun μ21 => f_X7_append_3 n l0 l1 (l2 + (-8)) μ21))
set_option maxRecDepth 100000 in
def f_X7_append (p0 : Nat) (p1 : Int32) (μ : dtM) : Option dtM :=
  f_X7_append_3 dtFuel p0 p1 (24 : Int32) μ
set_option maxRecDepth 100000 in
theorem c_X7_append_48 {F : dtM}  (μ : dtM) (h : f_X7_append_48  μ = some F) : dtW yX7_append cX7_append 3 (none) 1 (none) F 48 [] [] μ := by
  rw [f_X7_append_48] at h
  cases h
  exact dr_return dX7_append_48
set_option maxRecDepth 100000 in
theorem c_X7_append_3 {F : dtM} : ∀ (n : Nat) (l0 : Nat) (l1 : Int32) (l2 : Int32) (μ : dtM), f_X7_append_3 n l0 l1 l2 μ = some F → dtW yX7_append cX7_append 3 (none) 1 (none) F 3 [some (.ref l0), some (.int l1), some (.int l2)] [] μ := by
  intro n
  induction n with
  | zero => intro l0 l1 l2 μ h; cases h
  | succ n ih =>
    intro l0 l1 l2 μ h
    have h := (show f_X7_append_3 (n + 1) l0 l1 l2 μ = some _ from h)
    rw [f_X7_append_3] at h
    refine dr_iload_n l2 dX7_append_3 rfl ?_
    obtain ⟨ht2, hf3⟩ := dtIte h
    refine dr_if_lt 48 dX7_append_4 (by decide) (fun hc1 => ?_) (fun hc1 => ?_)
    · have h := ht2 hc1
      refine dr_mask [] [] rfl ?_
      exact c_X7_append_48 μ h
    · have h := hf3 hc1
      refine dr_aload_n l0 dX7_append_7 rfl ?_
      obtain ⟨x4, e5, h⟩ := dtBind h
      refine dr_getI x4 dX7_append_8 fl_RX7_22 e5 ?_
      refine dr_aload_n l0 dX7_append_11 rfl ?_
      obtain ⟨x6, e7, h⟩ := dtBind h
      refine dr_getR x6 dX7_append_12 fl_RX7_9 e7 ?_
      obtain ⟨x8, e9, h⟩ := dtBind h
      refine dr_arraylength x8 dX7_append_15 e9 ?_
      obtain ⟨ht11, hf12⟩ := dtIte h
      refine dr_icmp_ge 48 dX7_append_16 (by decide) (fun hc10 => ?_) (fun hc10 => ?_)
      · have h := ht11 hc10
        refine dr_mask [] [] rfl ?_
        exact c_X7_append_48 μ h
      · have h := hf12 hc10
        refine dr_aload_n l0 dX7_append_19 rfl ?_
        obtain ⟨x13, e14, h⟩ := dtBind h
        refine dr_getR x13 dX7_append_20 fl_RX7_9 e14 ?_
        refine dr_aload_n l0 dX7_append_23 rfl ?_
        obtain ⟨x15, e16, h⟩ := dtBind h
        refine dr_getI x15 dX7_append_24 fl_RX7_22 e16 ?_
        refine dr_iload_n l1 dX7_append_27 rfl ?_
        refine dr_iload_n l2 dX7_append_28 rfl ?_
        refine dr_ishr dX7_append_29 ?_
        refine dr_i2b dX7_append_30 ?_
        obtain ⟨μ17, e18, h⟩ := dtBind h
        refine dr_bastore μ17 dX7_append_31 e18 ?_
        refine dr_aload_n l0 dX7_append_32 rfl ?_
        refine dr_dup dX7_append_33 rfl ?_
        obtain ⟨x19, e20, h⟩ := dtBind h
        refine dr_getI x19 dX7_append_34 fl_RX7_22 e20 ?_
        refine dr_iconst (1 : Int32) dX7_append_37 (by decide) ?_
        refine dr_iadd dX7_append_38 ?_
        obtain ⟨μ21, e22, h⟩ := dtBind h
        refine dr_putI μ21 dX7_append_39 fl_RX7_22 rfl e22 ?_
        refine dr_iinc l2 (l2 + (-8)) [some (.ref l0), some (.int l1), some (.int (l2 + (-8)))] dX7_append_42 rfl rfl rfl rfl rfl ?_
        refine dr_goto 3 dX7_append_45 (by decide) ?_
        exact ih l0 l1 (l2 + (-8)) μ21 h
set_option maxRecDepth 100000 in
theorem c_X7_append {F : dtM} (p0 : Nat) (p1 : Int32) (μ : dtM) (h : f_X7_append p0 p1 μ = some F) : dtMet yX7_append cX7_append 3 (none) 1 [.ref p0, .int p1] μ (none) F := by
  refine dtMet.of (by decide +kernel) (Nat.le_of_ble_eq_true rfl) (show dtW yX7_append cX7_append 3 (none) 1 (none) F 0 [some (.ref p0), some (.int p1)] [] μ from ?_)
  rw [f_X7_append] at h
  refine dr_bipush (24 : Int32) dX7_append_0 (by decide) ?_
  refine dr_istore_n 2 [some (.ref p0), some (.int p1), some (.int (24 : Int32))] dX7_append_2 rfl rfl rfl rfl ?_
  exact c_X7_append_3 dtFuel p0 p1 (24 : Int32) μ h
/-! X7_tellFault -/
theorem dX7_tellFault_0 : decode cX7_tellFault 0 = .ok (.aload_n 0, 1) := by decide +kernel
theorem dX7_tellFault_1 : decode cX7_tellFault 1 = .ok (.aload_n 1, 1) := by decide +kernel
theorem dX7_tellFault_2 : decode cX7_tellFault 2 = .ok (.getfield 25, 3) := by decide +kernel
theorem dX7_tellFault_5 : decode cX7_tellFault 5 = .ok (.putfield 15, 3) := by decide +kernel
theorem dX7_tellFault_8 : decode cX7_tellFault 8 = .ok (.aload_n 0, 1) := by decide +kernel
theorem dX7_tellFault_9 : decode cX7_tellFault 9 = .ok (.aload_n 1, 1) := by decide +kernel
theorem dX7_tellFault_10 : decode cX7_tellFault 10 = .ok (.getfield 30, 3) := by decide +kernel
theorem dX7_tellFault_13 : decode cX7_tellFault 13 = .ok (.putfield 19, 3) := by decide +kernel
theorem dX7_tellFault_16 : decode cX7_tellFault 16 = .ok (.return_, 1) := by decide +kernel
set_option maxRecDepth 100000 in
def f_X7_tellFault (p0 : Nat) (p1 : Nat) (μ : dtM) : Option dtM :=
  (opGI 8 8 μ p1).bind fun x1 => (opPI 7 2 μ p0 x1).bind fun μ3 => (opGI 8 9 μ3 p1).bind fun x5 => (opPI 7 3 μ3 p0 x5).bind fun μ7 => some μ7
set_option maxRecDepth 100000 in
theorem c_X7_tellFault {F : dtM} (p0 : Nat) (p1 : Nat) (μ : dtM) (h : f_X7_tellFault p0 p1 μ = some F) : dtMet yX7_tellFault cX7_tellFault 2 (none) 1 [.ref p0, .ref p1] μ (none) F := by
  refine dtMet.of (by decide +kernel) (Nat.le_of_ble_eq_true rfl) (show dtW yX7_tellFault cX7_tellFault 2 (none) 1 (none) F 0 [some (.ref p0), some (.ref p1)] [] μ from ?_)
  rw [f_X7_tellFault] at h
  refine dr_aload_n p0 dX7_tellFault_0 rfl ?_
  refine dr_aload_n p1 dX7_tellFault_1 rfl ?_
  obtain ⟨x1, e2, h⟩ := dtBind h
  refine dr_getI x1 dX7_tellFault_2 fl_RX7_25 e2 ?_
  obtain ⟨μ3, e4, h⟩ := dtBind h
  refine dr_putI μ3 dX7_tellFault_5 fl_RX7_15 rfl e4 ?_
  refine dr_aload_n p0 dX7_tellFault_8 rfl ?_
  refine dr_aload_n p1 dX7_tellFault_9 rfl ?_
  obtain ⟨x5, e6, h⟩ := dtBind h
  refine dr_getI x5 dX7_tellFault_10 fl_RX7_30 e6 ?_
  obtain ⟨μ7, e8, h⟩ := dtBind h
  refine dr_putI μ7 dX7_tellFault_13 fl_RX7_19 rfl e8 ?_
  cases h
  exact dr_return dX7_tellFault_16
/-! X9_init -/
theorem dX9_init_0 : decode cX9_init 0 = .ok (.aload_n 0, 1) := by decide +kernel
theorem dX9_init_1 : decode cX9_init 1 = .ok (.invokespecial 3, 3) := by decide +kernel
theorem dX9_init_4 : decode cX9_init 4 = .ok (.aload_n 0, 1) := by decide +kernel
theorem dX9_init_5 : decode cX9_init 5 = .ok (.bipush 60, 2) := by decide +kernel
theorem dX9_init_7 : decode cX9_init 7 = .ok (.newarray .long, 2) := by decide +kernel
theorem dX9_init_9 : decode cX9_init 9 = .ok (.putfield 9, 3) := by decide +kernel
theorem dX9_init_12 : decode cX9_init 12 = .ok (.return_, 1) := by decide +kernel
set_option maxRecDepth 100000 in
def f_X9_init (p0 : Nat) (μ : dtM) : Option dtM :=
  (opLt p0).bind fun _ => opCall (opNA 3 μ (60 : Int32)) fun q2 μ3 => (opPR 9 3 μ3 p0 q2).bind fun μ5 => some μ5
set_option maxRecDepth 100000 in
theorem c_X9_init {F : dtM} (p0 : Nat) (μ : dtM) (h : f_X9_init p0 μ = some F) : dtMet yX9_init cX9_init 1 (none) 1 [.ref p0] μ (none) F := by
  refine dtMet.of (by decide +kernel) (Nat.le_of_ble_eq_true rfl) (show dtW yX9_init cX9_init 1 (none) 1 (none) F 0 [some (.ref p0)] [] μ from ?_)
  rw [f_X9_init] at h
  refine dr_aload_n p0 dX9_init_0 rfl ?_
  obtain ⟨_, hb1, h⟩ := dtBind h
  refine dr_objInit dX9_init_1 wt_35 wt_27 wt_28 (dtLt hb1) (Nat.le_of_ble_eq_true rfl) rfl ?_
  refine dr_aload_n p0 dX9_init_4 rfl ?_
  refine dr_bipush (60 : Int32) dX9_init_5 (by decide) ?_
  obtain ⟨q2, μ3, e4, h⟩ := dtCall h
  refine dr_newarray_l q2 μ3 dX9_init_7 wt_53 e4 ?_
  obtain ⟨μ5, e6, h⟩ := dtBind h
  refine dr_putRF μ5 dX9_init_9 fl_RX9_9 rfl rfl rfl e6 ?_
  cases h
  exact dr_return dX9_init_12
/-! X9_layOut -/
theorem dX9_layOut_0 : decode cX9_layOut 0 = .ok (.aload_n 0, 1) := by decide +kernel
theorem dX9_layOut_1 : decode cX9_layOut 1 = .ok (.iconst 1, 1) := by decide +kernel
theorem dX9_layOut_2 : decode cX9_layOut 2 = .ok (.putfield 15, 3) := by decide +kernel
theorem dX9_layOut_5 : decode cX9_layOut 5 = .ok (.aload_n 0, 1) := by decide +kernel
theorem dX9_layOut_6 : decode cX9_layOut 6 = .ok (.iload_n 1, 1) := by decide +kernel
theorem dX9_layOut_7 : decode cX9_layOut 7 = .ok (.putfield 19, 3) := by decide +kernel
theorem dX9_layOut_10 : decode cX9_layOut 10 = .ok (.aload_n 0, 1) := by decide +kernel
theorem dX9_layOut_11 : decode cX9_layOut 11 = .ok (.iload_n 2, 1) := by decide +kernel
theorem dX9_layOut_12 : decode cX9_layOut 12 = .ok (.putfield 23, 3) := by decide +kernel
theorem dX9_layOut_15 : decode cX9_layOut 15 = .ok (.iconst 0, 1) := by decide +kernel
theorem dX9_layOut_16 : decode cX9_layOut 16 = .ok (.istore_n 3, 1) := by decide +kernel
theorem dX9_layOut_17 : decode cX9_layOut 17 = .ok (.iload_n 3, 1) := by decide +kernel
theorem dX9_layOut_18 : decode cX9_layOut 18 = .ok (.aload_n 0, 1) := by decide +kernel
theorem dX9_layOut_19 : decode cX9_layOut 19 = .ok (.getfield 9, 3) := by decide +kernel
theorem dX9_layOut_22 : decode cX9_layOut 22 = .ok (.arraylength, 1) := by decide +kernel
theorem dX9_layOut_23 : decode cX9_layOut 23 = .ok (.if_icmp .ge 16, 3) := by decide +kernel
theorem dX9_layOut_26 : decode cX9_layOut 26 = .ok (.aload_n 0, 1) := by decide +kernel
theorem dX9_layOut_27 : decode cX9_layOut 27 = .ok (.getfield 9, 3) := by decide +kernel
theorem dX9_layOut_30 : decode cX9_layOut 30 = .ok (.iload_n 3, 1) := by decide +kernel
theorem dX9_layOut_31 : decode cX9_layOut 31 = .ok (.lconst 0, 1) := by decide +kernel
theorem dX9_layOut_32 : decode cX9_layOut 32 = .ok (.lastore, 1) := by decide +kernel
theorem dX9_layOut_33 : decode cX9_layOut 33 = .ok (.iinc 3 1, 3) := by decide +kernel
theorem dX9_layOut_36 : decode cX9_layOut 36 = .ok (.goto (-19), 3) := by decide +kernel
theorem dX9_layOut_39 : decode cX9_layOut 39 = .ok (.return_, 1) := by decide +kernel
set_option maxRecDepth 100000 in
def f_X9_layOut_17 : Nat → Nat → Int32 → dtM → Option dtM
  | 0, _, _, _ => none
  | n + 1, l0, l3, μ =>
    (opGR 9 3 μ l0).bind fun x1 => (opAL μ x1).bind fun x3 => if x3 ≤ l3 then (some μ) else ((opGR 9 3 μ l0).bind fun x8 => (opSJ μ x8 l3 (0 : Int64)).bind fun μ10 => f_X9_layOut_17 n l0 (l3 + 1) μ10)
set_option maxRecDepth 100000 in
def f_X9_layOut (p0 : Nat) (p1 : Int32) (p2 : Int32) (μ : dtM) : Option dtM :=
  (opPZ 9 0 μ p0 (1 : Int32)).bind fun μ1 => (opPI 9 1 μ1 p0 p1).bind fun μ3 => (opPI 9 2 μ3 p0 p2).bind fun μ5 => f_X9_layOut_17 dtFuel p0 (0 : Int32) μ5
set_option maxRecDepth 100000 in
theorem c_X9_layOut_17 {F : dtM} : ∀ (n : Nat) (l0 : Nat) (l3 : Int32) (μ : dtM), f_X9_layOut_17 n l0 l3 μ = some F → dtW yX9_layOut cX9_layOut 4 (none) 1 (none) F 17 [some (.ref l0), none, none, some (.int l3)] [] μ := by
  intro n
  induction n with
  | zero => intro l0 l3 μ h; cases h
  | succ n ih =>
    intro l0 l3 μ h
    have h := (show f_X9_layOut_17 (n + 1) l0 l3 μ = some _ from h)
    rw [f_X9_layOut_17] at h
    refine dr_iload_n l3 dX9_layOut_17 rfl ?_
    refine dr_aload_n l0 dX9_layOut_18 rfl ?_
    obtain ⟨x1, e2, h⟩ := dtBind h
    refine dr_getR x1 dX9_layOut_19 fl_RX9_9 e2 ?_
    obtain ⟨x3, e4, h⟩ := dtBind h
    refine dr_arraylength x3 dX9_layOut_22 e4 ?_
    obtain ⟨ht6, hf7⟩ := dtIte h
    refine dr_icmp_ge 39 dX9_layOut_23 (by decide) (fun hc5 => ?_) (fun hc5 => ?_)
    · have h := ht6 hc5
      cases h
      exact dr_return dX9_layOut_39
    · have h := hf7 hc5
      refine dr_aload_n l0 dX9_layOut_26 rfl ?_
      obtain ⟨x8, e9, h⟩ := dtBind h
      refine dr_getR x8 dX9_layOut_27 fl_RX9_9 e9 ?_
      refine dr_iload_n l3 dX9_layOut_30 rfl ?_
      refine dr_lconst (0 : Int64) dX9_layOut_31 (by decide) ?_
      obtain ⟨μ10, e11, h⟩ := dtBind h
      refine dr_lastore μ10 dX9_layOut_32 e11 ?_
      refine dr_iinc l3 (l3 + 1) [some (.ref l0), none, none, some (.int (l3 + 1))] dX9_layOut_33 rfl rfl rfl rfl rfl ?_
      refine dr_goto 17 dX9_layOut_36 (by decide) ?_
      exact ih l0 (l3 + 1) μ10 h
set_option maxRecDepth 100000 in
theorem c_X9_layOut {F : dtM} (p0 : Nat) (p1 : Int32) (p2 : Int32) (μ : dtM) (h : f_X9_layOut p0 p1 p2 μ = some F) : dtMet yX9_layOut cX9_layOut 4 (none) 1 [.ref p0, .int p1, .int p2] μ (none) F := by
  refine dtMet.of (by decide +kernel) (Nat.le_of_ble_eq_true rfl) (show dtW yX9_layOut cX9_layOut 4 (none) 1 (none) F 0 [some (.ref p0), some (.int p1), some (.int p2)] [] μ from ?_)
  rw [f_X9_layOut] at h
  refine dr_aload_n p0 dX9_layOut_0 rfl ?_
  refine dr_iconst (1 : Int32) dX9_layOut_1 (by decide) ?_
  obtain ⟨μ1, e2, h⟩ := dtBind h
  refine dr_putZ μ1 dX9_layOut_2 fl_RX9_15 rfl e2 ?_
  refine dr_aload_n p0 dX9_layOut_5 rfl ?_
  refine dr_iload_n p1 dX9_layOut_6 rfl ?_
  obtain ⟨μ3, e4, h⟩ := dtBind h
  refine dr_putI μ3 dX9_layOut_7 fl_RX9_19 rfl e4 ?_
  refine dr_aload_n p0 dX9_layOut_10 rfl ?_
  refine dr_iload_n p2 dX9_layOut_11 rfl ?_
  obtain ⟨μ5, e6, h⟩ := dtBind h
  refine dr_putI μ5 dX9_layOut_12 fl_RX9_23 rfl e6 ?_
  refine dr_iconst (0 : Int32) dX9_layOut_15 (by decide) ?_
  refine dr_istore_n 3 [some (.ref p0), some (.int p1), some (.int p2), some (.int (0 : Int32))] dX9_layOut_16 rfl rfl rfl rfl ?_
  refine dr_mask [true, false, false, true] [some (.ref p0), none, none, some (.int (0 : Int32))] rfl ?_
  exact c_X9_layOut_17 dtFuel p0 (0 : Int32) μ5 h
/-! X9_put -/
theorem dX9_put_0 : decode cX9_put 0 = .ok (.iload_n 1, 1) := by decide +kernel
theorem dX9_put_1 : decode cX9_put 1 = .ok (.ifCond .lt 11, 3) := by decide +kernel
theorem dX9_put_4 : decode cX9_put 4 = .ok (.iload_n 1, 1) := by decide +kernel
theorem dX9_put_5 : decode cX9_put 5 = .ok (.aload_n 0, 1) := by decide +kernel
theorem dX9_put_6 : decode cX9_put 6 = .ok (.getfield 23, 3) := by decide +kernel
theorem dX9_put_9 : decode cX9_put 9 = .ok (.if_icmp .lt 4, 3) := by decide +kernel
theorem dX9_put_12 : decode cX9_put 12 = .ok (.return_, 1) := by decide +kernel
theorem dX9_put_13 : decode cX9_put 13 = .ok (.aload_n 0, 1) := by decide +kernel
theorem dX9_put_14 : decode cX9_put 14 = .ok (.getfield 19, 3) := by decide +kernel
theorem dX9_put_17 : decode cX9_put 17 = .ok (.tableswitch 65 0 2 #[27, 40, 53], 27) := by decide +kernel
theorem dX9_put_44 : decode cX9_put 44 = .ok (.aload_n 0, 1) := by decide +kernel
theorem dX9_put_45 : decode cX9_put 45 = .ok (.getfield 9, 3) := by decide +kernel
theorem dX9_put_48 : decode cX9_put 48 = .ok (.iload_n 1, 1) := by decide +kernel
theorem dX9_put_49 : decode cX9_put 49 = .ok (.lload_n 2, 1) := by decide +kernel
theorem dX9_put_50 : decode cX9_put 50 = .ok (.l2i, 1) := by decide +kernel
theorem dX9_put_51 : decode cX9_put 51 = .ok (.i2b, 1) := by decide +kernel
theorem dX9_put_52 : decode cX9_put 52 = .ok (.i2l, 1) := by decide +kernel
theorem dX9_put_53 : decode cX9_put 53 = .ok (.lastore, 1) := by decide +kernel
theorem dX9_put_54 : decode cX9_put 54 = .ok (.goto 35, 3) := by decide +kernel
theorem dX9_put_57 : decode cX9_put 57 = .ok (.aload_n 0, 1) := by decide +kernel
theorem dX9_put_58 : decode cX9_put 58 = .ok (.getfield 9, 3) := by decide +kernel
theorem dX9_put_61 : decode cX9_put 61 = .ok (.iload_n 1, 1) := by decide +kernel
theorem dX9_put_62 : decode cX9_put 62 = .ok (.lload_n 2, 1) := by decide +kernel
theorem dX9_put_63 : decode cX9_put 63 = .ok (.l2i, 1) := by decide +kernel
theorem dX9_put_64 : decode cX9_put 64 = .ok (.i2s, 1) := by decide +kernel
theorem dX9_put_65 : decode cX9_put 65 = .ok (.i2l, 1) := by decide +kernel
theorem dX9_put_66 : decode cX9_put 66 = .ok (.lastore, 1) := by decide +kernel
theorem dX9_put_67 : decode cX9_put 67 = .ok (.goto 22, 3) := by decide +kernel
theorem dX9_put_70 : decode cX9_put 70 = .ok (.aload_n 0, 1) := by decide +kernel
theorem dX9_put_71 : decode cX9_put 71 = .ok (.getfield 9, 3) := by decide +kernel
theorem dX9_put_74 : decode cX9_put 74 = .ok (.iload_n 1, 1) := by decide +kernel
theorem dX9_put_75 : decode cX9_put 75 = .ok (.lload_n 2, 1) := by decide +kernel
theorem dX9_put_76 : decode cX9_put 76 = .ok (.l2i, 1) := by decide +kernel
theorem dX9_put_77 : decode cX9_put 77 = .ok (.i2l, 1) := by decide +kernel
theorem dX9_put_78 : decode cX9_put 78 = .ok (.lastore, 1) := by decide +kernel
theorem dX9_put_79 : decode cX9_put 79 = .ok (.goto 10, 3) := by decide +kernel
theorem dX9_put_82 : decode cX9_put 82 = .ok (.aload_n 0, 1) := by decide +kernel
theorem dX9_put_83 : decode cX9_put 83 = .ok (.getfield 9, 3) := by decide +kernel
theorem dX9_put_86 : decode cX9_put 86 = .ok (.iload_n 1, 1) := by decide +kernel
theorem dX9_put_87 : decode cX9_put 87 = .ok (.lload_n 2, 1) := by decide +kernel
theorem dX9_put_88 : decode cX9_put 88 = .ok (.lastore, 1) := by decide +kernel
theorem dX9_put_89 : decode cX9_put 89 = .ok (.return_, 1) := by decide +kernel
set_option maxRecDepth 100000 in
def f_X9_put_12  (μ : dtM) : Option dtM :=
  some μ
set_option maxRecDepth 100000 in
def f_X9_put_89  (μ : dtM) : Option dtM :=
  some μ
set_option maxRecDepth 100000 in
def f_X9_put_82 (l0 : Nat) (l1 : Int32) (l2 : Int64) (μ : dtM) : Option dtM :=
  (opGR 9 3 μ l0).bind fun x1 => (opSJ μ x1 l1 l2).bind fun μ3 => f_X9_put_89 μ3
set_option maxRecDepth 100000 in
def f_X9_put_44 (l0 : Nat) (l1 : Int32) (l2 : Int64) (μ : dtM) : Option dtM :=
  (opGR 9 3 μ l0).bind fun x1 => (opSJ μ x1 l1 (((l2.toInt32).toInt8.toInt32).toInt64)).bind fun μ3 => f_X9_put_89 μ3
set_option maxRecDepth 100000 in
def f_X9_put_57 (l0 : Nat) (l1 : Int32) (l2 : Int64) (μ : dtM) : Option dtM :=
  (opGR 9 3 μ l0).bind fun x1 => (opSJ μ x1 l1 (((l2.toInt32).toInt16.toInt32).toInt64)).bind fun μ3 => f_X9_put_89 μ3
set_option maxRecDepth 100000 in
def f_X9_put_70 (l0 : Nat) (l1 : Int32) (l2 : Int64) (μ : dtM) : Option dtM :=
  (opGR 9 3 μ l0).bind fun x1 => (opSJ μ x1 l1 ((l2.toInt32).toInt64)).bind fun μ3 => f_X9_put_89 μ3
set_option maxRecDepth 100000 in
def f_X9_put (p0 : Nat) (p1 : Int32) (p2 : Int64) (μ : dtM) : Option dtM :=
  if p1 < 0 then (f_X9_put_12 μ) else ((opGI 9 2 μ p0).bind fun x4 => if p1 < x4 then ((opGI 9 1 μ p0).bind fun x9 => if x9 = 0 then (f_X9_put_44 p0 p1 p2 μ) else if x9 = 1 then (f_X9_put_57 p0 p1 p2 μ) else if x9 = 2 then (f_X9_put_70 p0 p1 p2 μ) else f_X9_put_82 p0 p1 p2 μ) else (f_X9_put_12 μ))
set_option maxRecDepth 100000 in
theorem c_X9_put_12 {F : dtM}  (μ : dtM) (h : f_X9_put_12  μ = some F) : dtW yX9_put cX9_put 4 (none) 1 (none) F 12 [] [] μ := by
  rw [f_X9_put_12] at h
  cases h
  exact dr_return dX9_put_12
set_option maxRecDepth 100000 in
theorem c_X9_put_89 {F : dtM}  (μ : dtM) (h : f_X9_put_89  μ = some F) : dtW yX9_put cX9_put 4 (none) 1 (none) F 89 [] [] μ := by
  rw [f_X9_put_89] at h
  cases h
  exact dr_return dX9_put_89
set_option maxRecDepth 100000 in
theorem c_X9_put_82 {F : dtM} (l0 : Nat) (l1 : Int32) (l2 : Int64) (μ : dtM) (h : f_X9_put_82 l0 l1 l2 μ = some F) : dtW yX9_put cX9_put 4 (none) 1 (none) F 82 [some (.ref l0), some (.int l1), some (.long l2)] [] μ := by
  rw [f_X9_put_82] at h
  refine dr_aload_n l0 dX9_put_82 rfl ?_
  obtain ⟨x1, e2, h⟩ := dtBind h
  refine dr_getR x1 dX9_put_83 fl_RX9_9 e2 ?_
  refine dr_iload_n l1 dX9_put_86 rfl ?_
  refine dr_lload_n l2 dX9_put_87 rfl ?_
  obtain ⟨μ3, e4, h⟩ := dtBind h
  refine dr_lastore μ3 dX9_put_88 e4 ?_
  refine dr_mask [] [] rfl ?_
  exact c_X9_put_89 μ3 h
set_option maxRecDepth 100000 in
theorem c_X9_put_44 {F : dtM} (l0 : Nat) (l1 : Int32) (l2 : Int64) (μ : dtM) (h : f_X9_put_44 l0 l1 l2 μ = some F) : dtW yX9_put cX9_put 4 (none) 1 (none) F 44 [some (.ref l0), some (.int l1), some (.long l2)] [] μ := by
  rw [f_X9_put_44] at h
  refine dr_aload_n l0 dX9_put_44 rfl ?_
  obtain ⟨x1, e2, h⟩ := dtBind h
  refine dr_getR x1 dX9_put_45 fl_RX9_9 e2 ?_
  refine dr_iload_n l1 dX9_put_48 rfl ?_
  refine dr_lload_n l2 dX9_put_49 rfl ?_
  refine dr_l2i dX9_put_50 ?_
  refine dr_i2b dX9_put_51 ?_
  refine dr_i2l dX9_put_52 ?_
  obtain ⟨μ3, e4, h⟩ := dtBind h
  refine dr_lastore μ3 dX9_put_53 e4 ?_
  refine dr_goto 89 dX9_put_54 (by decide) ?_
  refine dr_mask [] [] rfl ?_
  exact c_X9_put_89 μ3 h
set_option maxRecDepth 100000 in
theorem c_X9_put_57 {F : dtM} (l0 : Nat) (l1 : Int32) (l2 : Int64) (μ : dtM) (h : f_X9_put_57 l0 l1 l2 μ = some F) : dtW yX9_put cX9_put 4 (none) 1 (none) F 57 [some (.ref l0), some (.int l1), some (.long l2)] [] μ := by
  rw [f_X9_put_57] at h
  refine dr_aload_n l0 dX9_put_57 rfl ?_
  obtain ⟨x1, e2, h⟩ := dtBind h
  refine dr_getR x1 dX9_put_58 fl_RX9_9 e2 ?_
  refine dr_iload_n l1 dX9_put_61 rfl ?_
  refine dr_lload_n l2 dX9_put_62 rfl ?_
  refine dr_l2i dX9_put_63 ?_
  refine dr_i2s dX9_put_64 ?_
  refine dr_i2l dX9_put_65 ?_
  obtain ⟨μ3, e4, h⟩ := dtBind h
  refine dr_lastore μ3 dX9_put_66 e4 ?_
  refine dr_goto 89 dX9_put_67 (by decide) ?_
  refine dr_mask [] [] rfl ?_
  exact c_X9_put_89 μ3 h
set_option maxRecDepth 100000 in
theorem c_X9_put_70 {F : dtM} (l0 : Nat) (l1 : Int32) (l2 : Int64) (μ : dtM) (h : f_X9_put_70 l0 l1 l2 μ = some F) : dtW yX9_put cX9_put 4 (none) 1 (none) F 70 [some (.ref l0), some (.int l1), some (.long l2)] [] μ := by
  rw [f_X9_put_70] at h
  refine dr_aload_n l0 dX9_put_70 rfl ?_
  obtain ⟨x1, e2, h⟩ := dtBind h
  refine dr_getR x1 dX9_put_71 fl_RX9_9 e2 ?_
  refine dr_iload_n l1 dX9_put_74 rfl ?_
  refine dr_lload_n l2 dX9_put_75 rfl ?_
  refine dr_l2i dX9_put_76 ?_
  refine dr_i2l dX9_put_77 ?_
  obtain ⟨μ3, e4, h⟩ := dtBind h
  refine dr_lastore μ3 dX9_put_78 e4 ?_
  refine dr_goto 89 dX9_put_79 (by decide) ?_
  refine dr_mask [] [] rfl ?_
  exact c_X9_put_89 μ3 h
set_option maxRecDepth 100000 in
theorem c_X9_put {F : dtM} (p0 : Nat) (p1 : Int32) (p2 : Int64) (μ : dtM) (h : f_X9_put p0 p1 p2 μ = some F) : dtMet yX9_put cX9_put 4 (none) 1 [.ref p0, .int p1, .long p2] μ (none) F := by
  refine dtMet.of (by decide +kernel) (Nat.le_of_ble_eq_true rfl) (show dtW yX9_put cX9_put 4 (none) 1 (none) F 0 [some (.ref p0), some (.int p1), some (.long p2), none] [] μ from ?_)
  rw [f_X9_put] at h
  refine dr_iload_n p1 dX9_put_0 rfl ?_
  obtain ⟨ht2, hf3⟩ := dtIte h
  refine dr_if_lt 12 dX9_put_1 (by decide) (fun hc1 => ?_) (fun hc1 => ?_)
  · have h := ht2 hc1
    refine dr_mask [] [] rfl ?_
    exact c_X9_put_12 μ h
  · have h := hf3 hc1
    refine dr_iload_n p1 dX9_put_4 rfl ?_
    refine dr_aload_n p0 dX9_put_5 rfl ?_
    obtain ⟨x4, e5, h⟩ := dtBind h
    refine dr_getI x4 dX9_put_6 fl_RX9_23 e5 ?_
    obtain ⟨ht7, hf8⟩ := dtIte h
    refine dr_icmp_lt 13 dX9_put_9 (by decide) (fun hc6 => ?_) (fun hc6 => ?_)
    · have h := ht7 hc6
      refine dr_aload_n p0 dX9_put_13 rfl ?_
      obtain ⟨x9, e10, h⟩ := dtBind h
      refine dr_getI x9 dX9_put_14 fl_RX9_19 e10 ?_
      obtain ⟨ht11, h⟩ := dtIte h
      refine Decidable.byCases (dec := inferInstance) (fun hc13 : x9 = 0 => ?_) (fun hc13 => ?_)
      · have h := ht11 hc13
        refine dr_tableIn (off := 27) 44 dX9_put_17 (by rw [hc13]; decide) (by rw [hc13]; decide) (by rw [hc13]; rfl) (by decide) ?_
        refine dr_mask [true, true, true] [some (.ref p0), some (.int p1), some (.long p2)] rfl ?_
        exact c_X9_put_44 p0 p1 p2 μ h
      have h := h hc13
      obtain ⟨ht14, h⟩ := dtIte h
      refine Decidable.byCases (dec := inferInstance) (fun hc16 : x9 = 1 => ?_) (fun hc16 => ?_)
      · have h := ht14 hc16
        refine dr_tableIn (off := 40) 57 dX9_put_17 (by rw [hc16]; decide) (by rw [hc16]; decide) (by rw [hc16]; rfl) (by decide) ?_
        refine dr_mask [true, true, true] [some (.ref p0), some (.int p1), some (.long p2)] rfl ?_
        exact c_X9_put_57 p0 p1 p2 μ h
      have h := h hc16
      obtain ⟨ht17, h⟩ := dtIte h
      refine Decidable.byCases (dec := inferInstance) (fun hc19 : x9 = 2 => ?_) (fun hc19 => ?_)
      · have h := ht17 hc19
        refine dr_tableIn (off := 53) 70 dX9_put_17 (by rw [hc19]; decide) (by rw [hc19]; decide) (by rw [hc19]; rfl) (by decide) ?_
        refine dr_mask [true, true, true] [some (.ref p0), some (.int p1), some (.long p2)] rfl ?_
        exact c_X9_put_70 p0 p1 p2 μ h
      have h := h hc19
      have kd20 : dtW yX9_put cX9_put 4 (none) 1 (none) F 82 [some (.ref p0), some (.int p1), some (.long p2), none] [] μ := by
        refine dr_mask [true, true, true] [some (.ref p0), some (.int p1), some (.long p2)] rfl ?_
        exact c_X9_put_82 p0 p1 p2 μ h
      refine Decidable.byCases (dec := inferInstance) (fun hlo : (x9).toInt < 0 ∨ 2 < (x9).toInt => dr_tableOut 82 dX9_put_17 hlo (by decide) kd20) (fun hlo => ?_)
      obtain ⟨hl1, hl2⟩ := not_or.mp hlo
      have hv : (x9).toInt = 0 ∨ (x9).toInt = 1 ∨ (x9).toInt = 2 := by omega
      rcases hv with hv | hv | hv
      · exact absurd (Int32.toInt_inj.mp (hv.trans (show (0 : Int) = (0 : Int32).toInt by decide))) hc13
      · exact absurd (Int32.toInt_inj.mp (hv.trans (show (1 : Int) = (1 : Int32).toInt by decide))) hc16
      · exact absurd (Int32.toInt_inj.mp (hv.trans (show (2 : Int) = (2 : Int32).toInt by decide))) hc19
    · have h := hf8 hc6
      refine dr_mask [] [] rfl ?_
      exact c_X9_put_12 μ h
/-! X9_hasRun -/
theorem dX9_hasRun_0 : decode cX9_hasRun 0 = .ok (.iload_n 1, 1) := by decide +kernel
theorem dX9_hasRun_1 : decode cX9_hasRun 1 = .ok (.ifCond .lt 25, 3) := by decide +kernel
theorem dX9_hasRun_4 : decode cX9_hasRun 4 = .ok (.iload_n 2, 1) := by decide +kernel
theorem dX9_hasRun_5 : decode cX9_hasRun 5 = .ok (.ifCond .lt 21, 3) := by decide +kernel
theorem dX9_hasRun_8 : decode cX9_hasRun 8 = .ok (.iload_n 1, 1) := by decide +kernel
theorem dX9_hasRun_9 : decode cX9_hasRun 9 = .ok (.i2l, 1) := by decide +kernel
theorem dX9_hasRun_10 : decode cX9_hasRun 10 = .ok (.iload_n 2, 1) := by decide +kernel
theorem dX9_hasRun_11 : decode cX9_hasRun 11 = .ok (.i2l, 1) := by decide +kernel
theorem dX9_hasRun_12 : decode cX9_hasRun 12 = .ok (.ladd, 1) := by decide +kernel
theorem dX9_hasRun_13 : decode cX9_hasRun 13 = .ok (.aload_n 0, 1) := by decide +kernel
theorem dX9_hasRun_14 : decode cX9_hasRun 14 = .ok (.getfield 23, 3) := by decide +kernel
theorem dX9_hasRun_17 : decode cX9_hasRun 17 = .ok (.i2l, 1) := by decide +kernel
theorem dX9_hasRun_18 : decode cX9_hasRun 18 = .ok (.lcmp, 1) := by decide +kernel
theorem dX9_hasRun_19 : decode cX9_hasRun 19 = .ok (.ifCond .gt 7, 3) := by decide +kernel
theorem dX9_hasRun_22 : decode cX9_hasRun 22 = .ok (.iconst 1, 1) := by decide +kernel
theorem dX9_hasRun_23 : decode cX9_hasRun 23 = .ok (.goto 4, 3) := by decide +kernel
theorem dX9_hasRun_26 : decode cX9_hasRun 26 = .ok (.iconst 0, 1) := by decide +kernel
theorem dX9_hasRun_27 : decode cX9_hasRun 27 = .ok (.ireturn, 1) := by decide +kernel
set_option maxRecDepth 100000 in
def f_X9_hasRun_27 (s0 : Int32) (μ : dtM) : Option (Int32 × dtM) :=
  opRet s0 μ
set_option maxRecDepth 100000 in
def f_X9_hasRun_26  (μ : dtM) : Option (Int32 × dtM) :=
  f_X9_hasRun_27 (0 : Int32) μ
set_option maxRecDepth 100000 in
def f_X9_hasRun (p0 : Nat) (p1 : Int32) (p2 : Int32) (μ : dtM) : Option (Int32 × dtM) :=
  if p1 < 0 then (f_X9_hasRun_26 μ) else (if p2 < 0 then (f_X9_hasRun_26 μ) else ((opGI 9 2 μ p0).bind fun x7 => if 0 < (lg_cmp ((p1.toInt64) + (p2.toInt64)) (x7.toInt64)) then (f_X9_hasRun_26 μ) else (f_X9_hasRun_27 (1 : Int32) μ)))
set_option maxRecDepth 100000 in
theorem c_X9_hasRun_27 {r : Int32} {F : dtM} (s0 : Int32) (μ : dtM) (h : f_X9_hasRun_27 s0 μ = some (r, F)) : dtW yX9_hasRun cX9_hasRun 3 (some .boolean) 1 (some (.int r)) F 27 [] [.int s0] μ := by
  rw [f_X9_hasRun_27] at h
  obtain ⟨hz, rfl, rfl⟩ := dtRet h
  exact dr_ireturn dX9_hasRun_27 (dtNz hz)
set_option maxRecDepth 100000 in
theorem c_X9_hasRun_26 {r : Int32} {F : dtM}  (μ : dtM) (h : f_X9_hasRun_26  μ = some (r, F)) : dtW yX9_hasRun cX9_hasRun 3 (some .boolean) 1 (some (.int r)) F 26 [] [] μ := by
  rw [f_X9_hasRun_26] at h
  refine dr_iconst (0 : Int32) dX9_hasRun_26 (by decide) ?_
  exact c_X9_hasRun_27 (0 : Int32) μ h
set_option maxRecDepth 100000 in
theorem c_X9_hasRun {r : Int32} {F : dtM} (p0 : Nat) (p1 : Int32) (p2 : Int32) (μ : dtM) (h : f_X9_hasRun p0 p1 p2 μ = some (r, F)) : dtMet yX9_hasRun cX9_hasRun 3 (some .boolean) 1 [.ref p0, .int p1, .int p2] μ (some (.int r)) F := by
  refine dtMet.of (by decide +kernel) (Nat.le_of_ble_eq_true rfl) (show dtW yX9_hasRun cX9_hasRun 3 (some .boolean) 1 (some (.int r)) F 0 [some (.ref p0), some (.int p1), some (.int p2)] [] μ from ?_)
  rw [f_X9_hasRun] at h
  refine dr_iload_n p1 dX9_hasRun_0 rfl ?_
  obtain ⟨ht2, hf3⟩ := dtIte h
  refine dr_if_lt 26 dX9_hasRun_1 (by decide) (fun hc1 => ?_) (fun hc1 => ?_)
  · have h := ht2 hc1
    refine dr_mask [] [] rfl ?_
    exact c_X9_hasRun_26 μ h
  · have h := hf3 hc1
    refine dr_iload_n p2 dX9_hasRun_4 rfl ?_
    obtain ⟨ht5, hf6⟩ := dtIte h
    refine dr_if_lt 26 dX9_hasRun_5 (by decide) (fun hc4 => ?_) (fun hc4 => ?_)
    · have h := ht5 hc4
      refine dr_mask [] [] rfl ?_
      exact c_X9_hasRun_26 μ h
    · have h := hf6 hc4
      refine dr_iload_n p1 dX9_hasRun_8 rfl ?_
      refine dr_i2l dX9_hasRun_9 ?_
      refine dr_iload_n p2 dX9_hasRun_10 rfl ?_
      refine dr_i2l dX9_hasRun_11 ?_
      refine dr_ladd dX9_hasRun_12 ?_
      refine dr_aload_n p0 dX9_hasRun_13 rfl ?_
      obtain ⟨x7, e8, h⟩ := dtBind h
      refine dr_getI x7 dX9_hasRun_14 fl_RX9_23 e8 ?_
      refine dr_i2l dX9_hasRun_17 ?_
      refine dr_lcmp dX9_hasRun_18 ?_
      obtain ⟨ht10, hf11⟩ := dtIte h
      refine dr_if_gt 26 dX9_hasRun_19 (by decide) (fun hc9 => ?_) (fun hc9 => ?_)
      · have h := ht10 hc9
        refine dr_mask [] [] rfl ?_
        exact c_X9_hasRun_26 μ h
      · have h := hf11 hc9
        refine dr_iconst (1 : Int32) dX9_hasRun_22 (by decide) ?_
        refine dr_goto 27 dX9_hasRun_23 (by decide) ?_
        refine dr_mask [] [] rfl ?_
        exact c_X9_hasRun_27 (1 : Int32) μ h
/-! X9_allBelow -/
theorem dX9_allBelow_0 : decode cX9_allBelow 0 = .ok (.iconst 0, 1) := by decide +kernel
theorem dX9_allBelow_1 : decode cX9_allBelow 1 = .ok (.istore_n 3, 1) := by decide +kernel
theorem dX9_allBelow_2 : decode cX9_allBelow 2 = .ok (.iload_n 3, 1) := by decide +kernel
theorem dX9_allBelow_3 : decode cX9_allBelow 3 = .ok (.iload_n 1, 1) := by decide +kernel
theorem dX9_allBelow_4 : decode cX9_allBelow 4 = .ok (.if_icmp .ge 34, 3) := by decide +kernel
theorem dX9_allBelow_7 : decode cX9_allBelow 7 = .ok (.aload_n 0, 1) := by decide +kernel
theorem dX9_allBelow_8 : decode cX9_allBelow 8 = .ok (.getfield 9, 3) := by decide +kernel
theorem dX9_allBelow_11 : decode cX9_allBelow 11 = .ok (.iload_n 3, 1) := by decide +kernel
theorem dX9_allBelow_12 : decode cX9_allBelow 12 = .ok (.laload, 1) := by decide +kernel
theorem dX9_allBelow_13 : decode cX9_allBelow 13 = .ok (.lconst 0, 1) := by decide +kernel
theorem dX9_allBelow_14 : decode cX9_allBelow 14 = .ok (.lcmp, 1) := by decide +kernel
theorem dX9_allBelow_15 : decode cX9_allBelow 15 = .ok (.ifCond .lt 15, 3) := by decide +kernel
theorem dX9_allBelow_18 : decode cX9_allBelow 18 = .ok (.aload_n 0, 1) := by decide +kernel
theorem dX9_allBelow_19 : decode cX9_allBelow 19 = .ok (.getfield 9, 3) := by decide +kernel
theorem dX9_allBelow_22 : decode cX9_allBelow 22 = .ok (.iload_n 3, 1) := by decide +kernel
theorem dX9_allBelow_23 : decode cX9_allBelow 23 = .ok (.laload, 1) := by decide +kernel
theorem dX9_allBelow_24 : decode cX9_allBelow 24 = .ok (.iload_n 2, 1) := by decide +kernel
theorem dX9_allBelow_25 : decode cX9_allBelow 25 = .ok (.i2l, 1) := by decide +kernel
theorem dX9_allBelow_26 : decode cX9_allBelow 26 = .ok (.lcmp, 1) := by decide +kernel
theorem dX9_allBelow_27 : decode cX9_allBelow 27 = .ok (.ifCond .lt 5, 3) := by decide +kernel
theorem dX9_allBelow_30 : decode cX9_allBelow 30 = .ok (.iconst 0, 1) := by decide +kernel
theorem dX9_allBelow_31 : decode cX9_allBelow 31 = .ok (.ireturn, 1) := by decide +kernel
theorem dX9_allBelow_32 : decode cX9_allBelow 32 = .ok (.iinc 3 1, 3) := by decide +kernel
theorem dX9_allBelow_35 : decode cX9_allBelow 35 = .ok (.goto (-33), 3) := by decide +kernel
theorem dX9_allBelow_38 : decode cX9_allBelow 38 = .ok (.iconst 1, 1) := by decide +kernel
theorem dX9_allBelow_39 : decode cX9_allBelow 39 = .ok (.ireturn, 1) := by decide +kernel
set_option maxRecDepth 100000 in
def f_X9_allBelow_30  (μ : dtM) : Option (Int32 × dtM) :=
  opRet (0 : Int32) μ
set_option maxRecDepth 100000 in
def f_X9_allBelow_2 : Nat → Nat → Int32 → Int32 → Int32 → dtM → Option (Int32 × dtM)
  | 0, _, _, _, _, _ => none
  | n + 1, l0, l1, l2, l3, μ =>
    if l1 ≤ l3 then (opRet (1 : Int32) μ) else ((opGR 9 3 μ l0).bind fun x4 => (opLJ 3 μ x4 l3).bind fun x6 => if (lg_cmp x6 (0 : Int64)) < 0 then (f_X9_allBelow_30 μ) else ((opGR 9 3 μ l0).bind fun x11 => (opLJ 3 μ x11 l3).bind fun x13 => if (lg_cmp x13 (l2.toInt64)) < 0 then (f_X9_allBelow_2 n l0 l1 l2 (l3 + 1) μ) else (f_X9_allBelow_30 μ)))
set_option maxRecDepth 100000 in
def f_X9_allBelow (p0 : Nat) (p1 : Int32) (p2 : Int32) (μ : dtM) : Option (Int32 × dtM) :=
  f_X9_allBelow_2 dtFuel p0 p1 p2 (0 : Int32) μ
set_option maxRecDepth 100000 in
theorem c_X9_allBelow_30 {r : Int32} {F : dtM}  (μ : dtM) (h : f_X9_allBelow_30  μ = some (r, F)) : dtW yX9_allBelow cX9_allBelow 4 (some .boolean) 1 (some (.int r)) F 30 [] [] μ := by
  rw [f_X9_allBelow_30] at h
  refine dr_iconst (0 : Int32) dX9_allBelow_30 (by decide) ?_
  obtain ⟨hz, rfl, rfl⟩ := dtRet h
  exact dr_ireturn dX9_allBelow_31 (dtNz hz)
set_option maxRecDepth 100000 in
theorem c_X9_allBelow_2 {r : Int32} {F : dtM} : ∀ (n : Nat) (l0 : Nat) (l1 : Int32) (l2 : Int32) (l3 : Int32) (μ : dtM), f_X9_allBelow_2 n l0 l1 l2 l3 μ = some (r, F) → dtW yX9_allBelow cX9_allBelow 4 (some .boolean) 1 (some (.int r)) F 2 [some (.ref l0), some (.int l1), some (.int l2), some (.int l3)] [] μ := by
  intro n
  induction n with
  | zero => intro l0 l1 l2 l3 μ h; cases h
  | succ n ih =>
    intro l0 l1 l2 l3 μ h
    have h := (show f_X9_allBelow_2 (n + 1) l0 l1 l2 l3 μ = some _ from h)
    rw [f_X9_allBelow_2] at h
    refine dr_iload_n l3 dX9_allBelow_2 rfl ?_
    refine dr_iload_n l1 dX9_allBelow_3 rfl ?_
    obtain ⟨ht2, hf3⟩ := dtIte h
    refine dr_icmp_ge 38 dX9_allBelow_4 (by decide) (fun hc1 => ?_) (fun hc1 => ?_)
    · have h := ht2 hc1
      refine dr_iconst (1 : Int32) dX9_allBelow_38 (by decide) ?_
      obtain ⟨hz, rfl, rfl⟩ := dtRet h
      exact dr_ireturn dX9_allBelow_39 (dtNz hz)
    · have h := hf3 hc1
      refine dr_aload_n l0 dX9_allBelow_7 rfl ?_
      obtain ⟨x4, e5, h⟩ := dtBind h
      refine dr_getR x4 dX9_allBelow_8 fl_RX9_9 e5 ?_
      refine dr_iload_n l3 dX9_allBelow_11 rfl ?_
      obtain ⟨x6, e7, h⟩ := dtBind h
      refine dr_laload x6 dX9_allBelow_12 e7 ?_
      refine dr_lconst (0 : Int64) dX9_allBelow_13 (by decide) ?_
      refine dr_lcmp dX9_allBelow_14 ?_
      obtain ⟨ht9, hf10⟩ := dtIte h
      refine dr_if_lt 30 dX9_allBelow_15 (by decide) (fun hc8 => ?_) (fun hc8 => ?_)
      · have h := ht9 hc8
        refine dr_mask [] [] rfl ?_
        exact c_X9_allBelow_30 μ h
      · have h := hf10 hc8
        refine dr_aload_n l0 dX9_allBelow_18 rfl ?_
        obtain ⟨x11, e12, h⟩ := dtBind h
        refine dr_getR x11 dX9_allBelow_19 fl_RX9_9 e12 ?_
        refine dr_iload_n l3 dX9_allBelow_22 rfl ?_
        obtain ⟨x13, e14, h⟩ := dtBind h
        refine dr_laload x13 dX9_allBelow_23 e14 ?_
        refine dr_iload_n l2 dX9_allBelow_24 rfl ?_
        refine dr_i2l dX9_allBelow_25 ?_
        refine dr_lcmp dX9_allBelow_26 ?_
        obtain ⟨ht16, hf17⟩ := dtIte h
        refine dr_if_lt 32 dX9_allBelow_27 (by decide) (fun hc15 => ?_) (fun hc15 => ?_)
        · have h := ht16 hc15
          refine dr_iinc l3 (l3 + 1) [some (.ref l0), some (.int l1), some (.int l2), some (.int (l3 + 1))] dX9_allBelow_32 rfl rfl rfl rfl rfl ?_
          refine dr_goto 2 dX9_allBelow_35 (by decide) ?_
          exact ih l0 l1 l2 (l3 + 1) μ h
        · have h := hf17 hc15
          refine dr_mask [] [] rfl ?_
          exact c_X9_allBelow_30 μ h
set_option maxRecDepth 100000 in
theorem c_X9_allBelow {r : Int32} {F : dtM} (p0 : Nat) (p1 : Int32) (p2 : Int32) (μ : dtM) (h : f_X9_allBelow p0 p1 p2 μ = some (r, F)) : dtMet yX9_allBelow cX9_allBelow 4 (some .boolean) 1 [.ref p0, .int p1, .int p2] μ (some (.int r)) F := by
  refine dtMet.of (by decide +kernel) (Nat.le_of_ble_eq_true rfl) (show dtW yX9_allBelow cX9_allBelow 4 (some .boolean) 1 (some (.int r)) F 0 [some (.ref p0), some (.int p1), some (.int p2)] [] μ from ?_)
  rw [f_X9_allBelow] at h
  refine dr_iconst (0 : Int32) dX9_allBelow_0 (by decide) ?_
  refine dr_istore_n 3 [some (.ref p0), some (.int p1), some (.int p2), some (.int (0 : Int32))] dX9_allBelow_1 rfl rfl rfl rfl ?_
  exact c_X9_allBelow_2 dtFuel p0 p1 p2 (0 : Int32) μ h
/-! X9_smallNumber -/
theorem dX9_smallNumber_0 : decode cX9_smallNumber 0 = .ok (.aload_n 0, 1) := by decide +kernel
theorem dX9_smallNumber_1 : decode cX9_smallNumber 1 = .ok (.getfield 9, 3) := by decide +kernel
theorem dX9_smallNumber_4 : decode cX9_smallNumber 4 = .ok (.iload_n 1, 1) := by decide +kernel
theorem dX9_smallNumber_5 : decode cX9_smallNumber 5 = .ok (.laload, 1) := by decide +kernel
theorem dX9_smallNumber_6 : decode cX9_smallNumber 6 = .ok (.l2i, 1) := by decide +kernel
theorem dX9_smallNumber_7 : decode cX9_smallNumber 7 = .ok (.ireturn, 1) := by decide +kernel
set_option maxRecDepth 100000 in
def f_X9_smallNumber (p0 : Nat) (p1 : Int32) (μ : dtM) : Option (Int32 × dtM) :=
  (opGR 9 3 μ p0).bind fun x1 => (opLJ 3 μ x1 p1).bind fun x3 => some ((x3.toInt32), μ)
set_option maxRecDepth 100000 in
theorem c_X9_smallNumber {r : Int32} {F : dtM} (p0 : Nat) (p1 : Int32) (μ : dtM) (h : f_X9_smallNumber p0 p1 μ = some (r, F)) : dtMet yX9_smallNumber cX9_smallNumber 2 (some .int) 1 [.ref p0, .int p1] μ (some (.int r)) F := by
  refine dtMet.of (by decide +kernel) (Nat.le_of_ble_eq_true rfl) (show dtW yX9_smallNumber cX9_smallNumber 2 (some .int) 1 (some (.int r)) F 0 [some (.ref p0), some (.int p1)] [] μ from ?_)
  rw [f_X9_smallNumber] at h
  refine dr_aload_n p0 dX9_smallNumber_0 rfl ?_
  obtain ⟨x1, e2, h⟩ := dtBind h
  refine dr_getR x1 dX9_smallNumber_1 fl_RX9_9 e2 ?_
  refine dr_iload_n p1 dX9_smallNumber_4 rfl ?_
  obtain ⟨x3, e4, h⟩ := dtBind h
  refine dr_laload x3 dX9_smallNumber_5 e4 ?_
  refine dr_l2i dX9_smallNumber_6 ?_
  cases h
  exact dr_ireturn dX9_smallNumber_7 rfl
/-! X10_init -/
theorem dX10_init_0 : decode cX10_init 0 = .ok (.aload_n 0, 1) := by decide +kernel
theorem dX10_init_1 : decode cX10_init 1 = .ok (.invokespecial 3, 3) := by decide +kernel
theorem dX10_init_4 : decode cX10_init 4 = .ok (.aload_n 0, 1) := by decide +kernel
theorem dX10_init_5 : decode cX10_init 5 = .ok (.sipush 1024, 3) := by decide +kernel
theorem dX10_init_8 : decode cX10_init 8 = .ok (.newarray .int, 2) := by decide +kernel
theorem dX10_init_10 : decode cX10_init 10 = .ok (.putfield 9, 3) := by decide +kernel
theorem dX10_init_13 : decode cX10_init 13 = .ok (.return_, 1) := by decide +kernel
set_option maxRecDepth 100000 in
def f_X10_init (p0 : Nat) (μ : dtM) : Option dtM :=
  (opLt p0).bind fun _ => opCall (opNA 1 μ (1024 : Int32)) fun q2 μ3 => (opPR 10 0 μ3 p0 q2).bind fun μ5 => some μ5
set_option maxRecDepth 100000 in
theorem c_X10_init {F : dtM} (p0 : Nat) (μ : dtM) (h : f_X10_init p0 μ = some F) : dtMet yX10_init cX10_init 1 (none) 1 [.ref p0] μ (none) F := by
  refine dtMet.of (by decide +kernel) (Nat.le_of_ble_eq_true rfl) (show dtW yX10_init cX10_init 1 (none) 1 (none) F 0 [some (.ref p0)] [] μ from ?_)
  rw [f_X10_init] at h
  refine dr_aload_n p0 dX10_init_0 rfl ?_
  obtain ⟨_, hb1, h⟩ := dtBind h
  refine dr_objInit dX10_init_1 wt_358 wt_27 wt_28 (dtLt hb1) (Nat.le_of_ble_eq_true rfl) rfl ?_
  refine dr_aload_n p0 dX10_init_4 rfl ?_
  refine dr_sipush (1024 : Int32) dX10_init_5 (by decide) ?_
  obtain ⟨q2, μ3, e4, h⟩ := dtCall h
  refine dr_newarray_i q2 μ3 dX10_init_8 wt_192 e4 ?_
  obtain ⟨μ5, e6, h⟩ := dtBind h
  refine dr_putRF μ5 dX10_init_10 fl_RX10_9 rfl rfl rfl e6 ?_
  cases h
  exact dr_return dX10_init_13
/-! X10_distance -/
theorem dX10_distance_0 : decode cX10_distance 0 = .ok (.iconst 1, 1) := by decide +kernel
theorem dX10_distance_1 : decode cX10_distance 1 = .ok (.iload_n 1, 1) := by decide +kernel
theorem dX10_distance_2 : decode cX10_distance 2 = .ok (.ishl, 1) := by decide +kernel
theorem dX10_distance_3 : decode cX10_distance 3 = .ok (.istore_n 3, 1) := by decide +kernel
theorem dX10_distance_4 : decode cX10_distance 4 = .ok (.iconst 0, 1) := by decide +kernel
theorem dX10_distance_5 : decode cX10_distance 5 = .ok (.istore 4, 2) := by decide +kernel
theorem dX10_distance_7 : decode cX10_distance 7 = .ok (.iload 4, 2) := by decide +kernel
theorem dX10_distance_9 : decode cX10_distance 9 = .ok (.bipush 7, 2) := by decide +kernel
theorem dX10_distance_11 : decode cX10_distance 11 = .ok (.if_icmp .ge 30, 3) := by decide +kernel
theorem dX10_distance_14 : decode cX10_distance 14 = .ok (.iload_n 3, 1) := by decide +kernel
theorem dX10_distance_15 : decode cX10_distance 15 = .ok (.iload_n 2, 1) := by decide +kernel
theorem dX10_distance_16 : decode cX10_distance 16 = .ok (.invokestatic 25, 3) := by decide +kernel
theorem dX10_distance_19 : decode cX10_distance 19 = .ok (.ifCond .eq 6, 3) := by decide +kernel
theorem dX10_distance_22 : decode cX10_distance 22 = .ok (.iload 4, 2) := by decide +kernel
theorem dX10_distance_24 : decode cX10_distance 24 = .ok (.ireturn, 1) := by decide +kernel
theorem dX10_distance_25 : decode cX10_distance 25 = .ok (.aload_n 0, 1) := by decide +kernel
theorem dX10_distance_26 : decode cX10_distance 26 = .ok (.aload_n 0, 1) := by decide +kernel
theorem dX10_distance_27 : decode cX10_distance 27 = .ok (.getfield 33, 3) := by decide +kernel
theorem dX10_distance_30 : decode cX10_distance 30 = .ok (.iload_n 3, 1) := by decide +kernel
theorem dX10_distance_31 : decode cX10_distance 31 = .ok (.invokestatic 29, 3) := by decide +kernel
theorem dX10_distance_34 : decode cX10_distance 34 = .ok (.istore_n 3, 1) := by decide +kernel
theorem dX10_distance_35 : decode cX10_distance 35 = .ok (.iinc 4 1, 3) := by decide +kernel
theorem dX10_distance_38 : decode cX10_distance 38 = .ok (.goto (-31), 3) := by decide +kernel
theorem dX10_distance_41 : decode cX10_distance 41 = .ok (.iconst (-1), 1) := by decide +kernel
theorem dX10_distance_42 : decode cX10_distance 42 = .ok (.ireturn, 1) := by decide +kernel
set_option maxRecDepth 100000 in
def f_X10_distance_7 : Nat → Nat → Int32 → Int32 → Int32 → dtM → Option (Int32 × dtM)
  | 0, _, _, _, _, _ => none
  | n + 1, l0, l2, l3, l4, μ =>
    if (7 : Int32) ≤ l4 then (some ((-1 : Int32), μ)) else (opCall (f_X11_contains l3 l2 μ) fun x6 μ4 => if x6 = 0 then ((opGI 3 5 μ4 l0).bind fun x10 => opCall (f_X10_stepOnce l0 x10 l3 μ4) fun x14 μ12 => f_X10_distance_7 n l0 l2 x14 (l4 + 1) μ12) else (some (l4, μ4)))
set_option maxRecDepth 100000 in
def f_X10_distance (p0 : Nat) (p1 : Int32) (p2 : Int32) (μ : dtM) : Option (Int32 × dtM) :=
  (some ((1 : Int32) <<< (p1 &&& 31))).bind fun x1 => f_X10_distance_7 dtFuel p0 p2 x1 (0 : Int32) μ
set_option maxRecDepth 100000 in
theorem c_X10_distance_7 {r : Int32} {F : dtM} : ∀ (n : Nat) (l0 : Nat) (l2 : Int32) (l3 : Int32) (l4 : Int32) (μ : dtM), f_X10_distance_7 n l0 l2 l3 l4 μ = some (r, F) → dtW yX10_distance cX10_distance 5 (some .int) 3 (some (.int r)) F 7 [some (.ref l0), none, some (.int l2), some (.int l3), some (.int l4)] [] μ := by
  intro n
  induction n with
  | zero => intro l0 l2 l3 l4 μ h; cases h
  | succ n ih =>
    intro l0 l2 l3 l4 μ h
    have h := (show f_X10_distance_7 (n + 1) l0 l2 l3 l4 μ = some _ from h)
    rw [f_X10_distance_7] at h
    refine dr_iload l4 dX10_distance_7 rfl ?_
    refine dr_bipush (7 : Int32) dX10_distance_9 (by decide) ?_
    obtain ⟨ht2, hf3⟩ := dtIte h
    refine dr_icmp_ge 41 dX10_distance_11 (by decide) (fun hc1 => ?_) (fun hc1 => ?_)
    · have h := ht2 hc1
      refine dr_iconst (-1 : Int32) dX10_distance_41 (by decide) ?_
      cases h
      exact dr_ireturn dX10_distance_42 rfl
    · have h := hf3 hc1
      refine dr_iload_n l3 dX10_distance_14 rfl ?_
      refine dr_iload_n l2 dX10_distance_15 rfl ?_
      obtain ⟨x6, μ4, e5, h⟩ := dtCall h
      refine dr_callSN_i (S0 := []) [.int l3, .int l2] x6 μ4 dX10_distance_16 (c_X11_contains l3 l2 μ e5) mf_X11_contains wt_748 wn_1043 rfl (Nat.le_of_ble_eq_true rfl) (Nat.le_of_ble_eq_true rfl) rfl ?_
      obtain ⟨ht8, hf9⟩ := dtIte h
      refine dr_if_eq 25 dX10_distance_19 (by decide) (fun hc7 => ?_) (fun hc7 => ?_)
      · have h := ht8 hc7
        refine dr_aload_n l0 dX10_distance_25 rfl ?_
        refine dr_aload_n l0 dX10_distance_26 rfl ?_
        obtain ⟨x10, e11, h⟩ := dtBind h
        refine dr_getI x10 dX10_distance_27 fl_RX10_33 e11 ?_
        refine dr_iload_n l3 dX10_distance_30 rfl ?_
        obtain ⟨x14, μ12, e13, h⟩ := dtCall h
        refine dr_callS_i (S0 := []) [.ref l0, .int x10, .int l3] x14 μ12 dX10_distance_31 (c_X10_stepOnce l0 x10 l3 μ4 e13) mf_X10_stepOnce wt_1040 wt_1039 rfl (Nat.le_of_ble_eq_true rfl) (Nat.le_of_ble_eq_true rfl) rfl ?_
        refine dr_istore_n 3 [some (.ref l0), none, some (.int l2), some (.int x14), some (.int l4)] dX10_distance_34 rfl rfl rfl rfl ?_
        refine dr_iinc l4 (l4 + 1) [some (.ref l0), none, some (.int l2), some (.int x14), some (.int (l4 + 1))] dX10_distance_35 rfl rfl rfl rfl rfl ?_
        refine dr_goto 7 dX10_distance_38 (by decide) ?_
        exact ih l0 l2 x14 (l4 + 1) μ12 h
      · have h := hf9 hc7
        refine dr_iload l4 dX10_distance_22 rfl ?_
        cases h
        exact dr_ireturn dX10_distance_24 rfl
set_option maxRecDepth 100000 in
theorem c_X10_distance {r : Int32} {F : dtM} (p0 : Nat) (p1 : Int32) (p2 : Int32) (μ : dtM) (h : f_X10_distance p0 p1 p2 μ = some (r, F)) : dtMet yX10_distance cX10_distance 5 (some .int) 3 [.ref p0, .int p1, .int p2] μ (some (.int r)) F := by
  refine dtMet.of (by decide +kernel) (Nat.le_of_ble_eq_true rfl) (show dtW yX10_distance cX10_distance 5 (some .int) 3 (some (.int r)) F 0 [some (.ref p0), some (.int p1), some (.int p2)] [] μ from ?_)
  rw [f_X10_distance] at h
  refine dr_iconst (1 : Int32) dX10_distance_0 (by decide) ?_
  refine dr_iload_n p1 dX10_distance_1 rfl ?_
  refine dr_ishl dX10_distance_2 ?_
  obtain ⟨x1, e2, h⟩ := dtBind h
  refine dr_nmi e2 ?_
  refine dr_istore_n 3 [some (.ref p0), some (.int p1), some (.int p2), some (.int x1)] dX10_distance_3 rfl rfl rfl rfl ?_
  refine dr_iconst (0 : Int32) dX10_distance_4 (by decide) ?_
  refine dr_istore [some (.ref p0), some (.int p1), some (.int p2), some (.int x1), some (.int (0 : Int32))] dX10_distance_5 rfl rfl rfl ?_
  refine dr_mask [true, false, true, true, true] [some (.ref p0), none, some (.int p2), some (.int x1), some (.int (0 : Int32))] rfl ?_
  exact c_X10_distance_7 dtFuel p0 p2 x1 (0 : Int32) μ h
/-! X10_nextOnWay -/
theorem dX10_nextOnWay_0 : decode cX10_nextOnWay 0 = .ok (.aload_n 0, 1) := by decide +kernel
theorem dX10_nextOnWay_1 : decode cX10_nextOnWay 1 = .ok (.aload_n 0, 1) := by decide +kernel
theorem dX10_nextOnWay_2 : decode cX10_nextOnWay 2 = .ok (.getfield 33, 3) := by decide +kernel
theorem dX10_nextOnWay_5 : decode cX10_nextOnWay 5 = .ok (.iconst 1, 1) := by decide +kernel
theorem dX10_nextOnWay_6 : decode cX10_nextOnWay 6 = .ok (.iload_n 1, 1) := by decide +kernel
theorem dX10_nextOnWay_7 : decode cX10_nextOnWay 7 = .ok (.ishl, 1) := by decide +kernel
theorem dX10_nextOnWay_8 : decode cX10_nextOnWay 8 = .ok (.invokestatic 29, 3) := by decide +kernel
theorem dX10_nextOnWay_11 : decode cX10_nextOnWay 11 = .ok (.istore 4, 2) := by decide +kernel
theorem dX10_nextOnWay_13 : decode cX10_nextOnWay 13 = .ok (.iconst 0, 1) := by decide +kernel
theorem dX10_nextOnWay_14 : decode cX10_nextOnWay 14 = .ok (.istore 5, 2) := by decide +kernel
theorem dX10_nextOnWay_16 : decode cX10_nextOnWay 16 = .ok (.iload 5, 2) := by decide +kernel
theorem dX10_nextOnWay_18 : decode cX10_nextOnWay 18 = .ok (.aload_n 0, 1) := by decide +kernel
theorem dX10_nextOnWay_19 : decode cX10_nextOnWay 19 = .ok (.getfield 43, 3) := by decide +kernel
theorem dX10_nextOnWay_22 : decode cX10_nextOnWay 22 = .ok (.if_icmp .ge 33, 3) := by decide +kernel
theorem dX10_nextOnWay_25 : decode cX10_nextOnWay 25 = .ok (.iload 4, 2) := by decide +kernel
theorem dX10_nextOnWay_27 : decode cX10_nextOnWay 27 = .ok (.iload 5, 2) := by decide +kernel
theorem dX10_nextOnWay_29 : decode cX10_nextOnWay 29 = .ok (.invokestatic 25, 3) := by decide +kernel
theorem dX10_nextOnWay_32 : decode cX10_nextOnWay 32 = .ok (.ifCond .eq 17, 3) := by decide +kernel
theorem dX10_nextOnWay_35 : decode cX10_nextOnWay 35 = .ok (.aload_n 0, 1) := by decide +kernel
theorem dX10_nextOnWay_36 : decode cX10_nextOnWay 36 = .ok (.iload 5, 2) := by decide +kernel
theorem dX10_nextOnWay_38 : decode cX10_nextOnWay 38 = .ok (.iload_n 2, 1) := by decide +kernel
theorem dX10_nextOnWay_39 : decode cX10_nextOnWay 39 = .ok (.invokestatic 36, 3) := by decide +kernel
theorem dX10_nextOnWay_42 : decode cX10_nextOnWay 42 = .ok (.iload_n 3, 1) := by decide +kernel
theorem dX10_nextOnWay_43 : decode cX10_nextOnWay 43 = .ok (.if_icmp .ne 6, 3) := by decide +kernel
theorem dX10_nextOnWay_46 : decode cX10_nextOnWay 46 = .ok (.iload 5, 2) := by decide +kernel
theorem dX10_nextOnWay_48 : decode cX10_nextOnWay 48 = .ok (.ireturn, 1) := by decide +kernel
theorem dX10_nextOnWay_49 : decode cX10_nextOnWay 49 = .ok (.iinc 5 1, 3) := by decide +kernel
theorem dX10_nextOnWay_52 : decode cX10_nextOnWay 52 = .ok (.goto (-36), 3) := by decide +kernel
theorem dX10_nextOnWay_55 : decode cX10_nextOnWay 55 = .ok (.iload_n 1, 1) := by decide +kernel
theorem dX10_nextOnWay_56 : decode cX10_nextOnWay 56 = .ok (.ireturn, 1) := by decide +kernel
set_option maxRecDepth 100000 in
def f_X10_nextOnWay_49 (k16 : Nat → Int32 → Int32 → Int32 → Int32 → Int32 → dtM → Option (Int32 × dtM)) (l0 : Nat) (l1 : Int32) (l2 : Int32) (l3 : Int32) (l4 : Int32) (l5 : Int32) (μ : dtM) : Option (Int32 × dtM) :=
  k16 l0 l1 l2 l3 l4 (l5 + 1) μ
set_option maxRecDepth 100000 in
def f_X10_nextOnWay_16 : Nat → Nat → Int32 → Int32 → Int32 → Int32 → Int32 → dtM → Option (Int32 × dtM)
  | 0, _, _, _, _, _, _, _ => none
  | n + 1, l0, l1, l2, l3, l4, l5, μ =>
    (opGI 3 0 μ l0).bind fun x1 => if x1 ≤ l5 then (some (l1, μ)) else (opCall (f_X11_contains l4 l5 μ) fun x8 μ6 => if x8 = 0 then (f_X10_nextOnWay_49 (f_X10_nextOnWay_16 n) l0 l1 l2 l3 l4 l5 μ6) else (opCall (f_X10_distance l0 l5 l2 μ6) fun x14 μ12 => if x14 = l3 then (some (l5, μ12)) else (f_X10_nextOnWay_49 (f_X10_nextOnWay_16 n) l0 l1 l2 l3 l4 l5 μ12)))
set_option maxRecDepth 100000 in
def f_X10_nextOnWay (p0 : Nat) (p1 : Int32) (p2 : Int32) (p3 : Int32) (μ : dtM) : Option (Int32 × dtM) :=
  (opGI 3 5 μ p0).bind fun x1 => opCall (f_X10_stepOnce p0 x1 ((1 : Int32) <<< (p1 &&& 31)) μ) fun x5 μ3 => f_X10_nextOnWay_16 dtFuel p0 p1 p2 p3 x5 (0 : Int32) μ3
set_option maxRecDepth 100000 in
theorem c_X10_nextOnWay_49 {r : Int32} {F : dtM} (k16 : Nat → Int32 → Int32 → Int32 → Int32 → Int32 → dtM → Option (Int32 × dtM)) (hk16 : ∀ (l0 : Nat) (l1 : Int32) (l2 : Int32) (l3 : Int32) (l4 : Int32) (l5 : Int32) (μ : dtM), k16 l0 l1 l2 l3 l4 l5 μ = some (r, F) → dtW yX10_nextOnWay cX10_nextOnWay 6 (some .int) 4 (some (.int r)) F 16 [some (.ref l0), some (.int l1), some (.int l2), some (.int l3), some (.int l4), some (.int l5)] [] μ) (l0 : Nat) (l1 : Int32) (l2 : Int32) (l3 : Int32) (l4 : Int32) (l5 : Int32) (μ : dtM) (h : f_X10_nextOnWay_49 k16 l0 l1 l2 l3 l4 l5 μ = some (r, F)) : dtW yX10_nextOnWay cX10_nextOnWay 6 (some .int) 4 (some (.int r)) F 49 [some (.ref l0), some (.int l1), some (.int l2), some (.int l3), some (.int l4), some (.int l5)] [] μ := by
  rw [f_X10_nextOnWay_49] at h
  refine dr_iinc l5 (l5 + 1) [some (.ref l0), some (.int l1), some (.int l2), some (.int l3), some (.int l4), some (.int (l5 + 1))] dX10_nextOnWay_49 rfl rfl rfl rfl rfl ?_
  refine dr_goto 16 dX10_nextOnWay_52 (by decide) ?_
  exact hk16 l0 l1 l2 l3 l4 (l5 + 1) μ h
set_option maxRecDepth 100000 in
theorem c_X10_nextOnWay_16 {r : Int32} {F : dtM} : ∀ (n : Nat) (l0 : Nat) (l1 : Int32) (l2 : Int32) (l3 : Int32) (l4 : Int32) (l5 : Int32) (μ : dtM), f_X10_nextOnWay_16 n l0 l1 l2 l3 l4 l5 μ = some (r, F) → dtW yX10_nextOnWay cX10_nextOnWay 6 (some .int) 4 (some (.int r)) F 16 [some (.ref l0), some (.int l1), some (.int l2), some (.int l3), some (.int l4), some (.int l5)] [] μ := by
  intro n
  induction n with
  | zero => intro l0 l1 l2 l3 l4 l5 μ h; cases h
  | succ n ih =>
    intro l0 l1 l2 l3 l4 l5 μ h
    have h := (show f_X10_nextOnWay_16 (n + 1) l0 l1 l2 l3 l4 l5 μ = some _ from h)
    rw [f_X10_nextOnWay_16] at h
    refine dr_iload l5 dX10_nextOnWay_16 rfl ?_
    refine dr_aload_n l0 dX10_nextOnWay_18 rfl ?_
    obtain ⟨x1, e2, h⟩ := dtBind h
    refine dr_getI x1 dX10_nextOnWay_19 fl_RX10_43 e2 ?_
    obtain ⟨ht4, hf5⟩ := dtIte h
    refine dr_icmp_ge 55 dX10_nextOnWay_22 (by decide) (fun hc3 => ?_) (fun hc3 => ?_)
    · have h := ht4 hc3
      refine dr_iload_n l1 dX10_nextOnWay_55 rfl ?_
      cases h
      exact dr_ireturn dX10_nextOnWay_56 rfl
    · have h := hf5 hc3
      refine dr_iload l4 dX10_nextOnWay_25 rfl ?_
      refine dr_iload l5 dX10_nextOnWay_27 rfl ?_
      obtain ⟨x8, μ6, e7, h⟩ := dtCall h
      refine dr_callSN_i (S0 := []) [.int l4, .int l5] x8 μ6 dX10_nextOnWay_29 (c_X11_contains l4 l5 μ e7) mf_X11_contains wt_748 wn_1043 rfl (Nat.le_of_ble_eq_true rfl) (Nat.le_of_ble_eq_true rfl) rfl ?_
      obtain ⟨ht10, hf11⟩ := dtIte h
      refine dr_if_eq 49 dX10_nextOnWay_32 (by decide) (fun hc9 => ?_) (fun hc9 => ?_)
      · have h := ht10 hc9
        exact c_X10_nextOnWay_49 (f_X10_nextOnWay_16 n) ih l0 l1 l2 l3 l4 l5 μ6 h
      · have h := hf11 hc9
        refine dr_aload_n l0 dX10_nextOnWay_35 rfl ?_
        refine dr_iload l5 dX10_nextOnWay_36 rfl ?_
        refine dr_iload_n l2 dX10_nextOnWay_38 rfl ?_
        obtain ⟨x14, μ12, e13, h⟩ := dtCall h
        refine dr_callS_i (S0 := []) [.ref l0, .int l5, .int l2] x14 μ12 dX10_nextOnWay_39 (c_X10_distance l0 l5 l2 μ6 e13) mf_X10_distance wt_1160 wt_1169 rfl (Nat.le_of_ble_eq_true rfl) (Nat.le_of_ble_eq_true rfl) rfl ?_
        refine dr_iload_n l3 dX10_nextOnWay_42 rfl ?_
        obtain ⟨ht16, hf17⟩ := dtIte h
        refine dr_icmp_ne 49 dX10_nextOnWay_43 (by decide) (fun hc15 => ?_) (fun hc15 => ?_)
        · have h := hf17 hc15
          exact c_X10_nextOnWay_49 (f_X10_nextOnWay_16 n) ih l0 l1 l2 l3 l4 l5 μ12 h
        · have h := ht16 hc15
          refine dr_iload l5 dX10_nextOnWay_46 rfl ?_
          cases h
          exact dr_ireturn dX10_nextOnWay_48 rfl
set_option maxRecDepth 100000 in
theorem c_X10_nextOnWay {r : Int32} {F : dtM} (p0 : Nat) (p1 : Int32) (p2 : Int32) (p3 : Int32) (μ : dtM) (h : f_X10_nextOnWay p0 p1 p2 p3 μ = some (r, F)) : dtMet yX10_nextOnWay cX10_nextOnWay 6 (some .int) 4 [.ref p0, .int p1, .int p2, .int p3] μ (some (.int r)) F := by
  refine dtMet.of (by decide +kernel) (Nat.le_of_ble_eq_true rfl) (show dtW yX10_nextOnWay cX10_nextOnWay 6 (some .int) 4 (some (.int r)) F 0 [some (.ref p0), some (.int p1), some (.int p2), some (.int p3)] [] μ from ?_)
  rw [f_X10_nextOnWay] at h
  refine dr_aload_n p0 dX10_nextOnWay_0 rfl ?_
  refine dr_aload_n p0 dX10_nextOnWay_1 rfl ?_
  obtain ⟨x1, e2, h⟩ := dtBind h
  refine dr_getI x1 dX10_nextOnWay_2 fl_RX10_33 e2 ?_
  refine dr_iconst (1 : Int32) dX10_nextOnWay_5 (by decide) ?_
  refine dr_iload_n p1 dX10_nextOnWay_6 rfl ?_
  refine dr_ishl dX10_nextOnWay_7 ?_
  obtain ⟨x5, μ3, e4, h⟩ := dtCall h
  refine dr_callS_i (S0 := []) [.ref p0, .int x1, .int ((1 : Int32) <<< (p1 &&& 31))] x5 μ3 dX10_nextOnWay_8 (c_X10_stepOnce p0 x1 ((1 : Int32) <<< (p1 &&& 31)) μ e4) mf_X10_stepOnce wt_1040 wt_1039 rfl (Nat.le_of_ble_eq_true rfl) (Nat.le_of_ble_eq_true rfl) rfl ?_
  refine dr_istore [some (.ref p0), some (.int p1), some (.int p2), some (.int p3), some (.int x5)] dX10_nextOnWay_11 rfl rfl rfl ?_
  refine dr_iconst (0 : Int32) dX10_nextOnWay_13 (by decide) ?_
  refine dr_istore [some (.ref p0), some (.int p1), some (.int p2), some (.int p3), some (.int x5), some (.int (0 : Int32))] dX10_nextOnWay_14 rfl rfl rfl ?_
  exact c_X10_nextOnWay_16 dtFuel p0 p1 p2 p3 x5 (0 : Int32) μ3 h
/-! X10_roomOnWay -/
theorem dX10_roomOnWay_0 : decode cX10_roomOnWay 0 = .ok (.aload_n 0, 1) := by decide +kernel
theorem dX10_roomOnWay_1 : decode cX10_roomOnWay 1 = .ok (.iload_n 1, 1) := by decide +kernel
theorem dX10_roomOnWay_2 : decode cX10_roomOnWay 2 = .ok (.iload_n 2, 1) := by decide +kernel
theorem dX10_roomOnWay_3 : decode cX10_roomOnWay 3 = .ok (.invokestatic 36, 3) := by decide +kernel
theorem dX10_roomOnWay_6 : decode cX10_roomOnWay 6 = .ok (.istore 4, 2) := by decide +kernel
theorem dX10_roomOnWay_8 : decode cX10_roomOnWay 8 = .ok (.iload 4, 2) := by decide +kernel
theorem dX10_roomOnWay_10 : decode cX10_roomOnWay 10 = .ok (.iconst (-1), 1) := by decide +kernel
theorem dX10_roomOnWay_11 : decode cX10_roomOnWay 11 = .ok (.if_icmp .eq 9, 3) := by decide +kernel
theorem dX10_roomOnWay_14 : decode cX10_roomOnWay 14 = .ok (.iload_n 3, 1) := by decide +kernel
theorem dX10_roomOnWay_15 : decode cX10_roomOnWay 15 = .ok (.iload 4, 2) := by decide +kernel
theorem dX10_roomOnWay_17 : decode cX10_roomOnWay 17 = .ok (.if_icmp .le 5, 3) := by decide +kernel
theorem dX10_roomOnWay_20 : decode cX10_roomOnWay 20 = .ok (.iconst (-1), 1) := by decide +kernel
theorem dX10_roomOnWay_21 : decode cX10_roomOnWay 21 = .ok (.ireturn, 1) := by decide +kernel
theorem dX10_roomOnWay_22 : decode cX10_roomOnWay 22 = .ok (.iload_n 1, 1) := by decide +kernel
theorem dX10_roomOnWay_23 : decode cX10_roomOnWay 23 = .ok (.istore 5, 2) := by decide +kernel
theorem dX10_roomOnWay_25 : decode cX10_roomOnWay 25 = .ok (.iconst 0, 1) := by decide +kernel
theorem dX10_roomOnWay_26 : decode cX10_roomOnWay 26 = .ok (.istore 6, 2) := by decide +kernel
theorem dX10_roomOnWay_28 : decode cX10_roomOnWay 28 = .ok (.iload 6, 2) := by decide +kernel
theorem dX10_roomOnWay_30 : decode cX10_roomOnWay 30 = .ok (.iload_n 3, 1) := by decide +kernel
theorem dX10_roomOnWay_31 : decode cX10_roomOnWay 31 = .ok (.if_icmp .ge 25, 3) := by decide +kernel
theorem dX10_roomOnWay_34 : decode cX10_roomOnWay 34 = .ok (.aload_n 0, 1) := by decide +kernel
theorem dX10_roomOnWay_35 : decode cX10_roomOnWay 35 = .ok (.iload 5, 2) := by decide +kernel
theorem dX10_roomOnWay_37 : decode cX10_roomOnWay 37 = .ok (.iload_n 2, 1) := by decide +kernel
theorem dX10_roomOnWay_38 : decode cX10_roomOnWay 38 = .ok (.iload 4, 2) := by decide +kernel
theorem dX10_roomOnWay_40 : decode cX10_roomOnWay 40 = .ok (.iload 6, 2) := by decide +kernel
theorem dX10_roomOnWay_42 : decode cX10_roomOnWay 42 = .ok (.isub, 1) := by decide +kernel
theorem dX10_roomOnWay_43 : decode cX10_roomOnWay 43 = .ok (.iconst 1, 1) := by decide +kernel
theorem dX10_roomOnWay_44 : decode cX10_roomOnWay 44 = .ok (.isub, 1) := by decide +kernel
theorem dX10_roomOnWay_45 : decode cX10_roomOnWay 45 = .ok (.invokestatic 39, 3) := by decide +kernel
theorem dX10_roomOnWay_48 : decode cX10_roomOnWay 48 = .ok (.istore 5, 2) := by decide +kernel
theorem dX10_roomOnWay_50 : decode cX10_roomOnWay 50 = .ok (.iinc 6 1, 3) := by decide +kernel
theorem dX10_roomOnWay_53 : decode cX10_roomOnWay 53 = .ok (.goto (-25), 3) := by decide +kernel
theorem dX10_roomOnWay_56 : decode cX10_roomOnWay 56 = .ok (.iload 5, 2) := by decide +kernel
theorem dX10_roomOnWay_58 : decode cX10_roomOnWay 58 = .ok (.ireturn, 1) := by decide +kernel
set_option maxRecDepth 100000 in
def f_X10_roomOnWay_20  (μ : dtM) : Option (Int32 × dtM) :=
  some ((-1 : Int32), μ)
set_option maxRecDepth 100000 in
def f_X10_roomOnWay_28 : Nat → Nat → Int32 → Int32 → Int32 → Int32 → Int32 → dtM → Option (Int32 × dtM)
  | 0, _, _, _, _, _, _, _ => none
  | n + 1, l0, l2, l3, l4, l5, l6, μ =>
    if l3 ≤ l6 then (some (l5, μ)) else (opCall (f_X10_nextOnWay l0 l5 l2 ((l4 - l6) - (1 : Int32)) μ) fun x6 μ4 => f_X10_roomOnWay_28 n l0 l2 l3 l4 x6 (l6 + 1) μ4)
set_option maxRecDepth 100000 in
def f_X10_roomOnWay (p0 : Nat) (p1 : Int32) (p2 : Int32) (p3 : Int32) (μ : dtM) : Option (Int32 × dtM) :=
  opCall (f_X10_distance p0 p1 p2 μ) fun x3 μ1 => if x3 = (-1 : Int32) then (f_X10_roomOnWay_20 μ1) else (if p3 ≤ x3 then (f_X10_roomOnWay_28 dtFuel p0 p2 p3 x3 p1 (0 : Int32) μ1) else (f_X10_roomOnWay_20 μ1))
set_option maxRecDepth 100000 in
theorem c_X10_roomOnWay_20 {r : Int32} {F : dtM}  (μ : dtM) (h : f_X10_roomOnWay_20  μ = some (r, F)) : dtW yX10_roomOnWay cX10_roomOnWay 7 (some .int) 5 (some (.int r)) F 20 [] [] μ := by
  rw [f_X10_roomOnWay_20] at h
  refine dr_iconst (-1 : Int32) dX10_roomOnWay_20 (by decide) ?_
  cases h
  exact dr_ireturn dX10_roomOnWay_21 rfl
set_option maxRecDepth 100000 in
theorem c_X10_roomOnWay_28 {r : Int32} {F : dtM} : ∀ (n : Nat) (l0 : Nat) (l2 : Int32) (l3 : Int32) (l4 : Int32) (l5 : Int32) (l6 : Int32) (μ : dtM), f_X10_roomOnWay_28 n l0 l2 l3 l4 l5 l6 μ = some (r, F) → dtW yX10_roomOnWay cX10_roomOnWay 7 (some .int) 5 (some (.int r)) F 28 [some (.ref l0), none, some (.int l2), some (.int l3), some (.int l4), some (.int l5), some (.int l6)] [] μ := by
  intro n
  induction n with
  | zero => intro l0 l2 l3 l4 l5 l6 μ h; cases h
  | succ n ih =>
    intro l0 l2 l3 l4 l5 l6 μ h
    have h := (show f_X10_roomOnWay_28 (n + 1) l0 l2 l3 l4 l5 l6 μ = some _ from h)
    rw [f_X10_roomOnWay_28] at h
    refine dr_iload l6 dX10_roomOnWay_28 rfl ?_
    refine dr_iload_n l3 dX10_roomOnWay_30 rfl ?_
    obtain ⟨ht2, hf3⟩ := dtIte h
    refine dr_icmp_ge 56 dX10_roomOnWay_31 (by decide) (fun hc1 => ?_) (fun hc1 => ?_)
    · have h := ht2 hc1
      refine dr_iload l5 dX10_roomOnWay_56 rfl ?_
      cases h
      exact dr_ireturn dX10_roomOnWay_58 rfl
    · have h := hf3 hc1
      refine dr_aload_n l0 dX10_roomOnWay_34 rfl ?_
      refine dr_iload l5 dX10_roomOnWay_35 rfl ?_
      refine dr_iload_n l2 dX10_roomOnWay_37 rfl ?_
      refine dr_iload l4 dX10_roomOnWay_38 rfl ?_
      refine dr_iload l6 dX10_roomOnWay_40 rfl ?_
      refine dr_isub dX10_roomOnWay_42 ?_
      refine dr_iconst (1 : Int32) dX10_roomOnWay_43 (by decide) ?_
      refine dr_isub dX10_roomOnWay_44 ?_
      obtain ⟨x6, μ4, e5, h⟩ := dtCall h
      refine dr_callS_i (S0 := []) [.ref l0, .int l5, .int l2, .int ((l4 - l6) - (1 : Int32))] x6 μ4 dX10_roomOnWay_45 (c_X10_nextOnWay l0 l5 l2 ((l4 - l6) - (1 : Int32)) μ e5) mf_X10_nextOnWay wt_1171 wt_1170 rfl (Nat.le_of_ble_eq_true rfl) (Nat.le_of_ble_eq_true rfl) rfl ?_
      refine dr_istore [some (.ref l0), none, some (.int l2), some (.int l3), some (.int l4), some (.int x6), some (.int l6)] dX10_roomOnWay_48 rfl rfl rfl ?_
      refine dr_iinc l6 (l6 + 1) [some (.ref l0), none, some (.int l2), some (.int l3), some (.int l4), some (.int x6), some (.int (l6 + 1))] dX10_roomOnWay_50 rfl rfl rfl rfl rfl ?_
      refine dr_goto 28 dX10_roomOnWay_53 (by decide) ?_
      exact ih l0 l2 l3 l4 x6 (l6 + 1) μ4 h
set_option maxRecDepth 100000 in
theorem c_X10_roomOnWay {r : Int32} {F : dtM} (p0 : Nat) (p1 : Int32) (p2 : Int32) (p3 : Int32) (μ : dtM) (h : f_X10_roomOnWay p0 p1 p2 p3 μ = some (r, F)) : dtMet yX10_roomOnWay cX10_roomOnWay 7 (some .int) 5 [.ref p0, .int p1, .int p2, .int p3] μ (some (.int r)) F := by
  refine dtMet.of (by decide +kernel) (Nat.le_of_ble_eq_true rfl) (show dtW yX10_roomOnWay cX10_roomOnWay 7 (some .int) 5 (some (.int r)) F 0 [some (.ref p0), some (.int p1), some (.int p2), some (.int p3)] [] μ from ?_)
  rw [f_X10_roomOnWay] at h
  refine dr_aload_n p0 dX10_roomOnWay_0 rfl ?_
  refine dr_iload_n p1 dX10_roomOnWay_1 rfl ?_
  refine dr_iload_n p2 dX10_roomOnWay_2 rfl ?_
  obtain ⟨x3, μ1, e2, h⟩ := dtCall h
  refine dr_callS_i (S0 := []) [.ref p0, .int p1, .int p2] x3 μ1 dX10_roomOnWay_3 (c_X10_distance p0 p1 p2 μ e2) mf_X10_distance wt_1160 wt_1169 rfl (Nat.le_of_ble_eq_true rfl) (Nat.le_of_ble_eq_true rfl) rfl ?_
  refine dr_istore [some (.ref p0), some (.int p1), some (.int p2), some (.int p3), some (.int x3)] dX10_roomOnWay_6 rfl rfl rfl ?_
  refine dr_iload x3 dX10_roomOnWay_8 rfl ?_
  refine dr_iconst (-1 : Int32) dX10_roomOnWay_10 (by decide) ?_
  obtain ⟨ht5, hf6⟩ := dtIte h
  refine dr_icmp_eq 20 dX10_roomOnWay_11 (by decide) (fun hc4 => ?_) (fun hc4 => ?_)
  · have h := ht5 hc4
    refine dr_mask [] [] rfl ?_
    exact c_X10_roomOnWay_20 μ1 h
  · have h := hf6 hc4
    refine dr_iload_n p3 dX10_roomOnWay_14 rfl ?_
    refine dr_iload x3 dX10_roomOnWay_15 rfl ?_
    obtain ⟨ht8, hf9⟩ := dtIte h
    refine dr_icmp_le 22 dX10_roomOnWay_17 (by decide) (fun hc7 => ?_) (fun hc7 => ?_)
    · have h := ht8 hc7
      refine dr_iload_n p1 dX10_roomOnWay_22 rfl ?_
      refine dr_istore [some (.ref p0), some (.int p1), some (.int p2), some (.int p3), some (.int x3), some (.int p1)] dX10_roomOnWay_23 rfl rfl rfl ?_
      refine dr_iconst (0 : Int32) dX10_roomOnWay_25 (by decide) ?_
      refine dr_istore [some (.ref p0), some (.int p1), some (.int p2), some (.int p3), some (.int x3), some (.int p1), some (.int (0 : Int32))] dX10_roomOnWay_26 rfl rfl rfl ?_
      refine dr_mask [true, false, true, true, true, true, true] [some (.ref p0), none, some (.int p2), some (.int p3), some (.int x3), some (.int p1), some (.int (0 : Int32))] rfl ?_
      exact c_X10_roomOnWay_28 dtFuel p0 p2 p3 x3 p1 (0 : Int32) μ1 h
    · have h := hf9 hc7
      refine dr_mask [] [] rfl ?_
      exact c_X10_roomOnWay_20 μ1 h
/-! X10_doorsThatPart -/
theorem dX10_doorsThatPart_0 : decode cX10_doorsThatPart 0 = .ok (.iload_n 1, 1) := by decide +kernel
theorem dX10_doorsThatPart_1 : decode cX10_doorsThatPart 1 = .ok (.iload_n 2, 1) := by decide +kernel
theorem dX10_doorsThatPart_2 : decode cX10_doorsThatPart 2 = .ok (.if_icmp .ne 5, 3) := by decide +kernel
theorem dX10_doorsThatPart_5 : decode cX10_doorsThatPart 5 = .ok (.iconst (-1), 1) := by decide +kernel
theorem dX10_doorsThatPart_6 : decode cX10_doorsThatPart 6 = .ok (.ireturn, 1) := by decide +kernel
theorem dX10_doorsThatPart_7 : decode cX10_doorsThatPart 7 = .ok (.aload_n 0, 1) := by decide +kernel
theorem dX10_doorsThatPart_8 : decode cX10_doorsThatPart 8 = .ok (.getfield 33, 3) := by decide +kernel
theorem dX10_doorsThatPart_11 : decode cX10_doorsThatPart 11 = .ok (.istore_n 3, 1) := by decide +kernel
theorem dX10_doorsThatPart_12 : decode cX10_doorsThatPart 12 = .ok (.iconst 0, 1) := by decide +kernel
theorem dX10_doorsThatPart_13 : decode cX10_doorsThatPart 13 = .ok (.istore 4, 2) := by decide +kernel
theorem dX10_doorsThatPart_15 : decode cX10_doorsThatPart 15 = .ok (.iload 4, 2) := by decide +kernel
theorem dX10_doorsThatPart_17 : decode cX10_doorsThatPart 17 = .ok (.aload_n 0, 1) := by decide +kernel
theorem dX10_doorsThatPart_18 : decode cX10_doorsThatPart 18 = .ok (.getfield 33, 3) := by decide +kernel
theorem dX10_doorsThatPart_21 : decode cX10_doorsThatPart 21 = .ok (.if_icmp .ge 69, 3) := by decide +kernel
theorem dX10_doorsThatPart_24 : decode cX10_doorsThatPart 24 = .ok (.iload 4, 2) := by decide +kernel
theorem dX10_doorsThatPart_26 : decode cX10_doorsThatPart 26 = .ok (.invokestatic 46, 3) := by decide +kernel
theorem dX10_doorsThatPart_29 : decode cX10_doorsThatPart 29 = .ok (.iload_n 3, 1) := by decide +kernel
theorem dX10_doorsThatPart_30 : decode cX10_doorsThatPart 30 = .ok (.invokestatic 46, 3) := by decide +kernel
theorem dX10_doorsThatPart_33 : decode cX10_doorsThatPart 33 = .ok (.if_icmp .ge 7, 3) := by decide +kernel
theorem dX10_doorsThatPart_36 : decode cX10_doorsThatPart 36 = .ok (.iconst 1, 1) := by decide +kernel
theorem dX10_doorsThatPart_37 : decode cX10_doorsThatPart 37 = .ok (.goto 4, 3) := by decide +kernel
theorem dX10_doorsThatPart_40 : decode cX10_doorsThatPart 40 = .ok (.iconst 0, 1) := by decide +kernel
theorem dX10_doorsThatPart_41 : decode cX10_doorsThatPart 41 = .ok (.istore 5, 2) := by decide +kernel
theorem dX10_doorsThatPart_43 : decode cX10_doorsThatPart 43 = .ok (.iload 5, 2) := by decide +kernel
theorem dX10_doorsThatPart_45 : decode cX10_doorsThatPart 45 = .ok (.ifCond .eq 39, 3) := by decide +kernel
theorem dX10_doorsThatPart_48 : decode cX10_doorsThatPart 48 = .ok (.iload 4, 2) := by decide +kernel
theorem dX10_doorsThatPart_50 : decode cX10_doorsThatPart 50 = .ok (.aload_n 0, 1) := by decide +kernel
theorem dX10_doorsThatPart_51 : decode cX10_doorsThatPart 51 = .ok (.getfield 33, 3) := by decide +kernel
theorem dX10_doorsThatPart_54 : decode cX10_doorsThatPart 54 = .ok (.iconst (-1), 1) := by decide +kernel
theorem dX10_doorsThatPart_55 : decode cX10_doorsThatPart 55 = .ok (.ixor, 1) := by decide +kernel
theorem dX10_doorsThatPart_56 : decode cX10_doorsThatPart 56 = .ok (.iand, 1) := by decide +kernel
theorem dX10_doorsThatPart_57 : decode cX10_doorsThatPart 57 = .ok (.ifCond .ne 27, 3) := by decide +kernel
theorem dX10_doorsThatPart_60 : decode cX10_doorsThatPart 60 = .ok (.aload_n 0, 1) := by decide +kernel
theorem dX10_doorsThatPart_61 : decode cX10_doorsThatPart 61 = .ok (.aload_n 0, 1) := by decide +kernel
theorem dX10_doorsThatPart_62 : decode cX10_doorsThatPart 62 = .ok (.getfield 33, 3) := by decide +kernel
theorem dX10_doorsThatPart_65 : decode cX10_doorsThatPart 65 = .ok (.iload 4, 2) := by decide +kernel
theorem dX10_doorsThatPart_67 : decode cX10_doorsThatPart 67 = .ok (.ixor, 1) := by decide +kernel
theorem dX10_doorsThatPart_68 : decode cX10_doorsThatPart 68 = .ok (.iconst 1, 1) := by decide +kernel
theorem dX10_doorsThatPart_69 : decode cX10_doorsThatPart 69 = .ok (.iload_n 1, 1) := by decide +kernel
theorem dX10_doorsThatPart_70 : decode cX10_doorsThatPart 70 = .ok (.ishl, 1) := by decide +kernel
theorem dX10_doorsThatPart_71 : decode cX10_doorsThatPart 71 = .ok (.invokestatic 51, 3) := by decide +kernel
theorem dX10_doorsThatPart_74 : decode cX10_doorsThatPart 74 = .ok (.iload_n 2, 1) := by decide +kernel
theorem dX10_doorsThatPart_75 : decode cX10_doorsThatPart 75 = .ok (.invokestatic 25, 3) := by decide +kernel
theorem dX10_doorsThatPart_78 : decode cX10_doorsThatPart 78 = .ok (.ifCond .ne 6, 3) := by decide +kernel
theorem dX10_doorsThatPart_81 : decode cX10_doorsThatPart 81 = .ok (.iload 4, 2) := by decide +kernel
theorem dX10_doorsThatPart_83 : decode cX10_doorsThatPart 83 = .ok (.istore_n 3, 1) := by decide +kernel
theorem dX10_doorsThatPart_84 : decode cX10_doorsThatPart 84 = .ok (.iinc 4 1, 3) := by decide +kernel
theorem dX10_doorsThatPart_87 : decode cX10_doorsThatPart 87 = .ok (.goto (-72), 3) := by decide +kernel
theorem dX10_doorsThatPart_90 : decode cX10_doorsThatPart 90 = .ok (.iload_n 3, 1) := by decide +kernel
theorem dX10_doorsThatPart_91 : decode cX10_doorsThatPart 91 = .ok (.ireturn, 1) := by decide +kernel
set_option maxRecDepth 100000 in
def f_X10_doorsThatPart_84 (k15 : Nat → Int32 → Int32 → Int32 → Int32 → dtM → Option (Int32 × dtM)) (l0 : Nat) (l1 : Int32) (l2 : Int32) (l3 : Int32) (l4 : Int32) (μ : dtM) : Option (Int32 × dtM) :=
  k15 l0 l1 l2 l3 (l4 + 1) μ
set_option maxRecDepth 100000 in
def f_X10_doorsThatPart_41 (k15 : Nat → Int32 → Int32 → Int32 → Int32 → dtM → Option (Int32 × dtM)) (l0 : Nat) (l1 : Int32) (l2 : Int32) (l3 : Int32) (l4 : Int32) (s0 : Int32) (μ : dtM) : Option (Int32 × dtM) :=
  if s0 = 0 then (f_X10_doorsThatPart_84 k15 l0 l1 l2 l3 l4 μ) else ((opGI 3 5 μ l0).bind fun x4 => if (l4 &&& (x4 ^^^ (-1 : Int32))) = 0 then ((opGI 3 5 μ l0).bind fun x9 => opCall (f_X10_reach l0 (x9 ^^^ l4) ((1 : Int32) <<< (l1 &&& 31)) μ) fun x13 μ11 => opCall (f_X11_contains x13 l2 μ11) fun x16 μ14 => if x16 = 0 then (f_X10_doorsThatPart_84 k15 l0 l1 l2 l4 l4 μ14) else (f_X10_doorsThatPart_84 k15 l0 l1 l2 l3 l4 μ14)) else (f_X10_doorsThatPart_84 k15 l0 l1 l2 l3 l4 μ))
set_option maxRecDepth 100000 in
def f_X10_doorsThatPart_15 : Nat → Nat → Int32 → Int32 → Int32 → Int32 → dtM → Option (Int32 × dtM)
  | 0, _, _, _, _, _, _ => none
  | n + 1, l0, l1, l2, l3, l4, μ =>
    (opGI 3 5 μ l0).bind fun x1 => if x1 ≤ l4 then (some (l3, μ)) else (opCall (f_J6_bitCount_0f7a4 l4 μ) fun x8 μ6 => opCall (f_J6_bitCount_0f7a4 l3 μ6) fun x11 μ9 => if x11 ≤ x8 then (f_X10_doorsThatPart_41 (f_X10_doorsThatPart_15 n) l0 l1 l2 l3 l4 (0 : Int32) μ9) else (f_X10_doorsThatPart_41 (f_X10_doorsThatPart_15 n) l0 l1 l2 l3 l4 (1 : Int32) μ9))
set_option maxRecDepth 100000 in
def f_X10_doorsThatPart (p0 : Nat) (p1 : Int32) (p2 : Int32) (μ : dtM) : Option (Int32 × dtM) :=
  if p1 = p2 then (some ((-1 : Int32), μ)) else ((opGI 3 5 μ p0).bind fun x4 => f_X10_doorsThatPart_15 dtFuel p0 p1 p2 x4 (0 : Int32) μ)
set_option maxRecDepth 100000 in
theorem c_X10_doorsThatPart_84 {r : Int32} {F : dtM} (k15 : Nat → Int32 → Int32 → Int32 → Int32 → dtM → Option (Int32 × dtM)) (hk15 : ∀ (l0 : Nat) (l1 : Int32) (l2 : Int32) (l3 : Int32) (l4 : Int32) (μ : dtM), k15 l0 l1 l2 l3 l4 μ = some (r, F) → dtW yX10_doorsThatPart cX10_doorsThatPart 6 (some .int) 4 (some (.int r)) F 15 [some (.ref l0), some (.int l1), some (.int l2), some (.int l3), some (.int l4)] [] μ) (l0 : Nat) (l1 : Int32) (l2 : Int32) (l3 : Int32) (l4 : Int32) (μ : dtM) (h : f_X10_doorsThatPart_84 k15 l0 l1 l2 l3 l4 μ = some (r, F)) : dtW yX10_doorsThatPart cX10_doorsThatPart 6 (some .int) 4 (some (.int r)) F 84 [some (.ref l0), some (.int l1), some (.int l2), some (.int l3), some (.int l4)] [] μ := by
  rw [f_X10_doorsThatPart_84] at h
  refine dr_iinc l4 (l4 + 1) [some (.ref l0), some (.int l1), some (.int l2), some (.int l3), some (.int (l4 + 1))] dX10_doorsThatPart_84 rfl rfl rfl rfl rfl ?_
  refine dr_goto 15 dX10_doorsThatPart_87 (by decide) ?_
  exact hk15 l0 l1 l2 l3 (l4 + 1) μ h
set_option maxRecDepth 100000 in
theorem c_X10_doorsThatPart_41 {r : Int32} {F : dtM} (k15 : Nat → Int32 → Int32 → Int32 → Int32 → dtM → Option (Int32 × dtM)) (hk15 : ∀ (l0 : Nat) (l1 : Int32) (l2 : Int32) (l3 : Int32) (l4 : Int32) (μ : dtM), k15 l0 l1 l2 l3 l4 μ = some (r, F) → dtW yX10_doorsThatPart cX10_doorsThatPart 6 (some .int) 4 (some (.int r)) F 15 [some (.ref l0), some (.int l1), some (.int l2), some (.int l3), some (.int l4)] [] μ) (l0 : Nat) (l1 : Int32) (l2 : Int32) (l3 : Int32) (l4 : Int32) (s0 : Int32) (μ : dtM) (h : f_X10_doorsThatPart_41 k15 l0 l1 l2 l3 l4 s0 μ = some (r, F)) : dtW yX10_doorsThatPart cX10_doorsThatPart 6 (some .int) 4 (some (.int r)) F 41 [some (.ref l0), some (.int l1), some (.int l2), some (.int l3), some (.int l4)] [.int s0] μ := by
  rw [f_X10_doorsThatPart_41] at h
  refine dr_istore [some (.ref l0), some (.int l1), some (.int l2), some (.int l3), some (.int l4), some (.int s0)] dX10_doorsThatPart_41 rfl rfl rfl ?_
  refine dr_iload s0 dX10_doorsThatPart_43 rfl ?_
  obtain ⟨ht2, hf3⟩ := dtIte h
  refine dr_if_eq 84 dX10_doorsThatPart_45 (by decide) (fun hc1 => ?_) (fun hc1 => ?_)
  · have h := ht2 hc1
    refine dr_mask [true, true, true, true, true] [some (.ref l0), some (.int l1), some (.int l2), some (.int l3), some (.int l4)] rfl ?_
    exact c_X10_doorsThatPart_84 k15 hk15 l0 l1 l2 l3 l4 μ h
  · have h := hf3 hc1
    refine dr_iload l4 dX10_doorsThatPart_48 rfl ?_
    refine dr_aload_n l0 dX10_doorsThatPart_50 rfl ?_
    obtain ⟨x4, e5, h⟩ := dtBind h
    refine dr_getI x4 dX10_doorsThatPart_51 fl_RX10_33 e5 ?_
    refine dr_iconst (-1 : Int32) dX10_doorsThatPart_54 (by decide) ?_
    refine dr_ixor dX10_doorsThatPart_55 ?_
    refine dr_iand dX10_doorsThatPart_56 ?_
    obtain ⟨ht7, hf8⟩ := dtIte h
    refine dr_if_ne 84 dX10_doorsThatPart_57 (by decide) (fun hc6 => ?_) (fun hc6 => ?_)
    · have h := hf8 hc6
      refine dr_mask [true, true, true, true, true] [some (.ref l0), some (.int l1), some (.int l2), some (.int l3), some (.int l4)] rfl ?_
      exact c_X10_doorsThatPart_84 k15 hk15 l0 l1 l2 l3 l4 μ h
    · have h := ht7 hc6
      refine dr_aload_n l0 dX10_doorsThatPart_60 rfl ?_
      refine dr_aload_n l0 dX10_doorsThatPart_61 rfl ?_
      obtain ⟨x9, e10, h⟩ := dtBind h
      refine dr_getI x9 dX10_doorsThatPart_62 fl_RX10_33 e10 ?_
      refine dr_iload l4 dX10_doorsThatPart_65 rfl ?_
      refine dr_ixor dX10_doorsThatPart_67 ?_
      refine dr_iconst (1 : Int32) dX10_doorsThatPart_68 (by decide) ?_
      refine dr_iload_n l1 dX10_doorsThatPart_69 rfl ?_
      refine dr_ishl dX10_doorsThatPart_70 ?_
      obtain ⟨x13, μ11, e12, h⟩ := dtCall h
      refine dr_callS_i (S0 := []) [.ref l0, .int (x9 ^^^ l4), .int ((1 : Int32) <<< (l1 &&& 31))] x13 μ11 dX10_doorsThatPart_71 (c_X10_reach l0 (x9 ^^^ l4) ((1 : Int32) <<< (l1 &&& 31)) μ e12) mf_X10_reach wt_1037 wt_1186 rfl (Nat.le_of_ble_eq_true rfl) (Nat.le_of_ble_eq_true rfl) rfl ?_
      refine dr_iload_n l2 dX10_doorsThatPart_74 rfl ?_
      obtain ⟨x16, μ14, e15, h⟩ := dtCall h
      refine dr_callSN_i (S0 := []) [.int x13, .int l2] x16 μ14 dX10_doorsThatPart_75 (c_X11_contains x13 l2 μ11 e15) mf_X11_contains wt_748 wn_1043 rfl (Nat.le_of_ble_eq_true rfl) (Nat.le_of_ble_eq_true rfl) rfl ?_
      obtain ⟨ht18, hf19⟩ := dtIte h
      refine dr_if_ne 84 dX10_doorsThatPart_78 (by decide) (fun hc17 => ?_) (fun hc17 => ?_)
      · have h := hf19 hc17
        refine dr_mask [true, true, true, true, true] [some (.ref l0), some (.int l1), some (.int l2), some (.int l3), some (.int l4)] rfl ?_
        exact c_X10_doorsThatPart_84 k15 hk15 l0 l1 l2 l3 l4 μ14 h
      · have h := ht18 hc17
        refine dr_iload l4 dX10_doorsThatPart_81 rfl ?_
        refine dr_istore_n 3 [some (.ref l0), some (.int l1), some (.int l2), some (.int l4), some (.int l4), some (.int s0)] dX10_doorsThatPart_83 rfl rfl rfl rfl ?_
        refine dr_mask [true, true, true, true, true] [some (.ref l0), some (.int l1), some (.int l2), some (.int l4), some (.int l4)] rfl ?_
        exact c_X10_doorsThatPart_84 k15 hk15 l0 l1 l2 l4 l4 μ14 h
set_option maxRecDepth 100000 in
theorem c_X10_doorsThatPart_15 {r : Int32} {F : dtM} : ∀ (n : Nat) (l0 : Nat) (l1 : Int32) (l2 : Int32) (l3 : Int32) (l4 : Int32) (μ : dtM), f_X10_doorsThatPart_15 n l0 l1 l2 l3 l4 μ = some (r, F) → dtW yX10_doorsThatPart cX10_doorsThatPart 6 (some .int) 4 (some (.int r)) F 15 [some (.ref l0), some (.int l1), some (.int l2), some (.int l3), some (.int l4)] [] μ := by
  intro n
  induction n with
  | zero => intro l0 l1 l2 l3 l4 μ h; cases h
  | succ n ih =>
    intro l0 l1 l2 l3 l4 μ h
    have h := (show f_X10_doorsThatPart_15 (n + 1) l0 l1 l2 l3 l4 μ = some _ from h)
    rw [f_X10_doorsThatPart_15] at h
    refine dr_iload l4 dX10_doorsThatPart_15 rfl ?_
    refine dr_aload_n l0 dX10_doorsThatPart_17 rfl ?_
    obtain ⟨x1, e2, h⟩ := dtBind h
    refine dr_getI x1 dX10_doorsThatPart_18 fl_RX10_33 e2 ?_
    obtain ⟨ht4, hf5⟩ := dtIte h
    refine dr_icmp_ge 90 dX10_doorsThatPart_21 (by decide) (fun hc3 => ?_) (fun hc3 => ?_)
    · have h := ht4 hc3
      refine dr_iload_n l3 dX10_doorsThatPart_90 rfl ?_
      cases h
      exact dr_ireturn dX10_doorsThatPart_91 rfl
    · have h := hf5 hc3
      refine dr_iload l4 dX10_doorsThatPart_24 rfl ?_
      obtain ⟨x8, μ6, e7, h⟩ := dtCall h
      refine dr_callS_i (S0 := []) [.int l4] x8 μ6 dX10_doorsThatPart_26 (c_J6_bitCount_0f7a4 l4 μ e7) mf_J6_bitCount_0f7a4 wt_929 wt_1185 rfl (Nat.le_of_ble_eq_true rfl) (Nat.le_of_ble_eq_true rfl) rfl ?_
      refine dr_iload_n l3 dX10_doorsThatPart_29 rfl ?_
      obtain ⟨x11, μ9, e10, h⟩ := dtCall h
      refine dr_callS_i (S0 := [.int x8]) [.int l3] x11 μ9 dX10_doorsThatPart_30 (c_J6_bitCount_0f7a4 l3 μ6 e10) mf_J6_bitCount_0f7a4 wt_929 wt_1185 rfl (Nat.le_of_ble_eq_true rfl) (Nat.le_of_ble_eq_true rfl) rfl ?_
      obtain ⟨ht13, hf14⟩ := dtIte h
      refine dr_icmp_ge 40 dX10_doorsThatPart_33 (by decide) (fun hc12 => ?_) (fun hc12 => ?_)
      · have h := ht13 hc12
        refine dr_iconst (0 : Int32) dX10_doorsThatPart_40 (by decide) ?_
        exact c_X10_doorsThatPart_41 (f_X10_doorsThatPart_15 n) ih l0 l1 l2 l3 l4 (0 : Int32) μ9 h
      · have h := hf14 hc12
        refine dr_iconst (1 : Int32) dX10_doorsThatPart_36 (by decide) ?_
        refine dr_goto 41 dX10_doorsThatPart_37 (by decide) ?_
        exact c_X10_doorsThatPart_41 (f_X10_doorsThatPart_15 n) ih l0 l1 l2 l3 l4 (1 : Int32) μ9 h
set_option maxRecDepth 100000 in
theorem c_X10_doorsThatPart {r : Int32} {F : dtM} (p0 : Nat) (p1 : Int32) (p2 : Int32) (μ : dtM) (h : f_X10_doorsThatPart p0 p1 p2 μ = some (r, F)) : dtMet yX10_doorsThatPart cX10_doorsThatPart 6 (some .int) 4 [.ref p0, .int p1, .int p2] μ (some (.int r)) F := by
  refine dtMet.of (by decide +kernel) (Nat.le_of_ble_eq_true rfl) (show dtW yX10_doorsThatPart cX10_doorsThatPart 6 (some .int) 4 (some (.int r)) F 0 [some (.ref p0), some (.int p1), some (.int p2)] [] μ from ?_)
  rw [f_X10_doorsThatPart] at h
  refine dr_iload_n p1 dX10_doorsThatPart_0 rfl ?_
  refine dr_iload_n p2 dX10_doorsThatPart_1 rfl ?_
  obtain ⟨ht2, hf3⟩ := dtIte h
  refine dr_icmp_ne 7 dX10_doorsThatPart_2 (by decide) (fun hc1 => ?_) (fun hc1 => ?_)
  · have h := hf3 hc1
    refine dr_aload_n p0 dX10_doorsThatPart_7 rfl ?_
    obtain ⟨x4, e5, h⟩ := dtBind h
    refine dr_getI x4 dX10_doorsThatPart_8 fl_RX10_33 e5 ?_
    refine dr_istore_n 3 [some (.ref p0), some (.int p1), some (.int p2), some (.int x4)] dX10_doorsThatPart_11 rfl rfl rfl rfl ?_
    refine dr_iconst (0 : Int32) dX10_doorsThatPart_12 (by decide) ?_
    refine dr_istore [some (.ref p0), some (.int p1), some (.int p2), some (.int x4), some (.int (0 : Int32))] dX10_doorsThatPart_13 rfl rfl rfl ?_
    exact c_X10_doorsThatPart_15 dtFuel p0 p1 p2 x4 (0 : Int32) μ h
  · have h := ht2 hc1
    refine dr_iconst (-1 : Int32) dX10_doorsThatPart_5 (by decide) ?_
    cases h
    exact dr_ireturn dX10_doorsThatPart_6 rfl
/-! X10_doorsToJoin -/
theorem dX10_doorsToJoin_0 : decode cX10_doorsToJoin 0 = .ok (.iconst 1, 1) := by decide +kernel
theorem dX10_doorsToJoin_1 : decode cX10_doorsToJoin 1 = .ok (.aload_n 0, 1) := by decide +kernel
theorem dX10_doorsToJoin_2 : decode cX10_doorsToJoin 2 = .ok (.getfield 15, 3) := by decide +kernel
theorem dX10_doorsToJoin_5 : decode cX10_doorsToJoin 5 = .ok (.ishl, 1) := by decide +kernel
theorem dX10_doorsToJoin_6 : decode cX10_doorsToJoin 6 = .ok (.iconst 1, 1) := by decide +kernel
theorem dX10_doorsToJoin_7 : decode cX10_doorsToJoin 7 = .ok (.isub, 1) := by decide +kernel
theorem dX10_doorsToJoin_8 : decode cX10_doorsToJoin 8 = .ok (.istore_n 3, 1) := by decide +kernel
theorem dX10_doorsToJoin_9 : decode cX10_doorsToJoin 9 = .ok (.aload_n 0, 1) := by decide +kernel
theorem dX10_doorsToJoin_10 : decode cX10_doorsToJoin 10 = .ok (.aload_n 0, 1) := by decide +kernel
theorem dX10_doorsToJoin_11 : decode cX10_doorsToJoin 11 = .ok (.getfield 33, 3) := by decide +kernel
theorem dX10_doorsToJoin_14 : decode cX10_doorsToJoin 14 = .ok (.iconst 1, 1) := by decide +kernel
theorem dX10_doorsToJoin_15 : decode cX10_doorsToJoin 15 = .ok (.iload_n 1, 1) := by decide +kernel
theorem dX10_doorsToJoin_16 : decode cX10_doorsToJoin 16 = .ok (.ishl, 1) := by decide +kernel
theorem dX10_doorsToJoin_17 : decode cX10_doorsToJoin 17 = .ok (.invokestatic 51, 3) := by decide +kernel
theorem dX10_doorsToJoin_20 : decode cX10_doorsToJoin 20 = .ok (.istore 4, 2) := by decide +kernel
theorem dX10_doorsToJoin_22 : decode cX10_doorsToJoin 22 = .ok (.iconst 0, 1) := by decide +kernel
theorem dX10_doorsToJoin_23 : decode cX10_doorsToJoin 23 = .ok (.istore 5, 2) := by decide +kernel
theorem dX10_doorsToJoin_25 : decode cX10_doorsToJoin 25 = .ok (.iload 5, 2) := by decide +kernel
theorem dX10_doorsToJoin_27 : decode cX10_doorsToJoin 27 = .ok (.aload_n 0, 1) := by decide +kernel
theorem dX10_doorsToJoin_28 : decode cX10_doorsToJoin 28 = .ok (.getfield 15, 3) := by decide +kernel
theorem dX10_doorsToJoin_31 : decode cX10_doorsToJoin 31 = .ok (.if_icmp .gt 38, 3) := by decide +kernel
theorem dX10_doorsToJoin_34 : decode cX10_doorsToJoin 34 = .ok (.iload 4, 2) := by decide +kernel
theorem dX10_doorsToJoin_36 : decode cX10_doorsToJoin 36 = .ok (.iload_n 2, 1) := by decide +kernel
theorem dX10_doorsToJoin_37 : decode cX10_doorsToJoin 37 = .ok (.invokestatic 25, 3) := by decide +kernel
theorem dX10_doorsToJoin_40 : decode cX10_doorsToJoin 40 = .ok (.ifCond .eq 6, 3) := by decide +kernel
theorem dX10_doorsToJoin_43 : decode cX10_doorsToJoin 43 = .ok (.iload 5, 2) := by decide +kernel
theorem dX10_doorsToJoin_45 : decode cX10_doorsToJoin 45 = .ok (.ireturn, 1) := by decide +kernel
theorem dX10_doorsToJoin_46 : decode cX10_doorsToJoin 46 = .ok (.aload_n 0, 1) := by decide +kernel
theorem dX10_doorsToJoin_47 : decode cX10_doorsToJoin 47 = .ok (.aload_n 0, 1) := by decide +kernel
theorem dX10_doorsToJoin_48 : decode cX10_doorsToJoin 48 = .ok (.getfield 33, 3) := by decide +kernel
theorem dX10_doorsToJoin_51 : decode cX10_doorsToJoin 51 = .ok (.aload_n 0, 1) := by decide +kernel
theorem dX10_doorsToJoin_52 : decode cX10_doorsToJoin 52 = .ok (.iload_n 3, 1) := by decide +kernel
theorem dX10_doorsToJoin_53 : decode cX10_doorsToJoin 53 = .ok (.iload 4, 2) := by decide +kernel
theorem dX10_doorsToJoin_55 : decode cX10_doorsToJoin 55 = .ok (.invokestatic 29, 3) := by decide +kernel
theorem dX10_doorsToJoin_58 : decode cX10_doorsToJoin 58 = .ok (.invokestatic 51, 3) := by decide +kernel
theorem dX10_doorsToJoin_61 : decode cX10_doorsToJoin 61 = .ok (.istore 4, 2) := by decide +kernel
theorem dX10_doorsToJoin_63 : decode cX10_doorsToJoin 63 = .ok (.iinc 5 1, 3) := by decide +kernel
theorem dX10_doorsToJoin_66 : decode cX10_doorsToJoin 66 = .ok (.goto (-41), 3) := by decide +kernel
theorem dX10_doorsToJoin_69 : decode cX10_doorsToJoin 69 = .ok (.iconst (-1), 1) := by decide +kernel
theorem dX10_doorsToJoin_70 : decode cX10_doorsToJoin 70 = .ok (.ireturn, 1) := by decide +kernel
set_option maxRecDepth 100000 in
def f_X10_doorsToJoin_25 : Nat → Nat → Int32 → Int32 → Int32 → Int32 → dtM → Option (Int32 × dtM)
  | 0, _, _, _, _, _, _ => none
  | n + 1, l0, l2, l3, l4, l5, μ =>
    (opGI 3 1 μ l0).bind fun x1 => if x1 < l5 then (some ((-1 : Int32), μ)) else (opCall (f_X11_contains l4 l2 μ) fun x8 μ6 => if x8 = 0 then ((opGI 3 5 μ6 l0).bind fun x12 => opCall (f_X10_stepOnce l0 l3 l4 μ6) fun x16 μ14 => opCall (f_X10_reach l0 x12 x16 μ14) fun x19 μ17 => f_X10_doorsToJoin_25 n l0 l2 l3 x19 (l5 + 1) μ17) else (some (l5, μ6)))
set_option maxRecDepth 100000 in
def f_X10_doorsToJoin (p0 : Nat) (p1 : Int32) (p2 : Int32) (μ : dtM) : Option (Int32 × dtM) :=
  (opGI 3 1 μ p0).bind fun x1 => (some (((1 : Int32) <<< (x1 &&& 31)) - (1 : Int32))).bind fun x3 => (opGI 3 5 μ p0).bind fun x5 => opCall (f_X10_reach p0 x5 ((1 : Int32) <<< (p1 &&& 31)) μ) fun x9 μ7 => f_X10_doorsToJoin_25 dtFuel p0 p2 x3 x9 (0 : Int32) μ7
set_option maxRecDepth 100000 in
theorem c_X10_doorsToJoin_25 {r : Int32} {F : dtM} : ∀ (n : Nat) (l0 : Nat) (l2 : Int32) (l3 : Int32) (l4 : Int32) (l5 : Int32) (μ : dtM), f_X10_doorsToJoin_25 n l0 l2 l3 l4 l5 μ = some (r, F) → dtW yX10_doorsToJoin cX10_doorsToJoin 6 (some .int) 4 (some (.int r)) F 25 [some (.ref l0), none, some (.int l2), some (.int l3), some (.int l4), some (.int l5)] [] μ := by
  intro n
  induction n with
  | zero => intro l0 l2 l3 l4 l5 μ h; cases h
  | succ n ih =>
    intro l0 l2 l3 l4 l5 μ h
    have h := (show f_X10_doorsToJoin_25 (n + 1) l0 l2 l3 l4 l5 μ = some _ from h)
    rw [f_X10_doorsToJoin_25] at h
    refine dr_iload l5 dX10_doorsToJoin_25 rfl ?_
    refine dr_aload_n l0 dX10_doorsToJoin_27 rfl ?_
    obtain ⟨x1, e2, h⟩ := dtBind h
    refine dr_getI x1 dX10_doorsToJoin_28 fl_RX10_15 e2 ?_
    obtain ⟨ht4, hf5⟩ := dtIte h
    refine dr_icmp_gt 69 dX10_doorsToJoin_31 (by decide) (fun hc3 => ?_) (fun hc3 => ?_)
    · have h := ht4 hc3
      refine dr_iconst (-1 : Int32) dX10_doorsToJoin_69 (by decide) ?_
      cases h
      exact dr_ireturn dX10_doorsToJoin_70 rfl
    · have h := hf5 hc3
      refine dr_iload l4 dX10_doorsToJoin_34 rfl ?_
      refine dr_iload_n l2 dX10_doorsToJoin_36 rfl ?_
      obtain ⟨x8, μ6, e7, h⟩ := dtCall h
      refine dr_callSN_i (S0 := []) [.int l4, .int l2] x8 μ6 dX10_doorsToJoin_37 (c_X11_contains l4 l2 μ e7) mf_X11_contains wt_748 wn_1043 rfl (Nat.le_of_ble_eq_true rfl) (Nat.le_of_ble_eq_true rfl) rfl ?_
      obtain ⟨ht10, hf11⟩ := dtIte h
      refine dr_if_eq 46 dX10_doorsToJoin_40 (by decide) (fun hc9 => ?_) (fun hc9 => ?_)
      · have h := ht10 hc9
        refine dr_aload_n l0 dX10_doorsToJoin_46 rfl ?_
        refine dr_aload_n l0 dX10_doorsToJoin_47 rfl ?_
        obtain ⟨x12, e13, h⟩ := dtBind h
        refine dr_getI x12 dX10_doorsToJoin_48 fl_RX10_33 e13 ?_
        refine dr_aload_n l0 dX10_doorsToJoin_51 rfl ?_
        refine dr_iload_n l3 dX10_doorsToJoin_52 rfl ?_
        refine dr_iload l4 dX10_doorsToJoin_53 rfl ?_
        obtain ⟨x16, μ14, e15, h⟩ := dtCall h
        refine dr_callS_i (S0 := [.int x12, .ref l0]) [.ref l0, .int l3, .int l4] x16 μ14 dX10_doorsToJoin_55 (c_X10_stepOnce l0 l3 l4 μ6 e15) mf_X10_stepOnce wt_1040 wt_1039 rfl (Nat.le_of_ble_eq_true rfl) (Nat.le_of_ble_eq_true rfl) rfl ?_
        obtain ⟨x19, μ17, e18, h⟩ := dtCall h
        refine dr_callS_i (S0 := []) [.ref l0, .int x12, .int x16] x19 μ17 dX10_doorsToJoin_58 (c_X10_reach l0 x12 x16 μ14 e18) mf_X10_reach wt_1037 wt_1186 rfl (Nat.le_of_ble_eq_true rfl) (Nat.le_of_ble_eq_true rfl) rfl ?_
        refine dr_istore [some (.ref l0), none, some (.int l2), some (.int l3), some (.int x19), some (.int l5)] dX10_doorsToJoin_61 rfl rfl rfl ?_
        refine dr_iinc l5 (l5 + 1) [some (.ref l0), none, some (.int l2), some (.int l3), some (.int x19), some (.int (l5 + 1))] dX10_doorsToJoin_63 rfl rfl rfl rfl rfl ?_
        refine dr_goto 25 dX10_doorsToJoin_66 (by decide) ?_
        exact ih l0 l2 l3 x19 (l5 + 1) μ17 h
      · have h := hf11 hc9
        refine dr_iload l5 dX10_doorsToJoin_43 rfl ?_
        cases h
        exact dr_ireturn dX10_doorsToJoin_45 rfl
set_option maxRecDepth 100000 in
theorem c_X10_doorsToJoin {r : Int32} {F : dtM} (p0 : Nat) (p1 : Int32) (p2 : Int32) (μ : dtM) (h : f_X10_doorsToJoin p0 p1 p2 μ = some (r, F)) : dtMet yX10_doorsToJoin cX10_doorsToJoin 6 (some .int) 4 [.ref p0, .int p1, .int p2] μ (some (.int r)) F := by
  refine dtMet.of (by decide +kernel) (Nat.le_of_ble_eq_true rfl) (show dtW yX10_doorsToJoin cX10_doorsToJoin 6 (some .int) 4 (some (.int r)) F 0 [some (.ref p0), some (.int p1), some (.int p2)] [] μ from ?_)
  rw [f_X10_doorsToJoin] at h
  refine dr_iconst (1 : Int32) dX10_doorsToJoin_0 (by decide) ?_
  refine dr_aload_n p0 dX10_doorsToJoin_1 rfl ?_
  obtain ⟨x1, e2, h⟩ := dtBind h
  refine dr_getI x1 dX10_doorsToJoin_2 fl_RX10_15 e2 ?_
  refine dr_ishl dX10_doorsToJoin_5 ?_
  refine dr_iconst (1 : Int32) dX10_doorsToJoin_6 (by decide) ?_
  refine dr_isub dX10_doorsToJoin_7 ?_
  obtain ⟨x3, e4, h⟩ := dtBind h
  refine dr_nmi e4 ?_
  refine dr_istore_n 3 [some (.ref p0), some (.int p1), some (.int p2), some (.int x3)] dX10_doorsToJoin_8 rfl rfl rfl rfl ?_
  refine dr_aload_n p0 dX10_doorsToJoin_9 rfl ?_
  refine dr_aload_n p0 dX10_doorsToJoin_10 rfl ?_
  obtain ⟨x5, e6, h⟩ := dtBind h
  refine dr_getI x5 dX10_doorsToJoin_11 fl_RX10_33 e6 ?_
  refine dr_iconst (1 : Int32) dX10_doorsToJoin_14 (by decide) ?_
  refine dr_iload_n p1 dX10_doorsToJoin_15 rfl ?_
  refine dr_ishl dX10_doorsToJoin_16 ?_
  obtain ⟨x9, μ7, e8, h⟩ := dtCall h
  refine dr_callS_i (S0 := []) [.ref p0, .int x5, .int ((1 : Int32) <<< (p1 &&& 31))] x9 μ7 dX10_doorsToJoin_17 (c_X10_reach p0 x5 ((1 : Int32) <<< (p1 &&& 31)) μ e8) mf_X10_reach wt_1037 wt_1186 rfl (Nat.le_of_ble_eq_true rfl) (Nat.le_of_ble_eq_true rfl) rfl ?_
  refine dr_istore [some (.ref p0), some (.int p1), some (.int p2), some (.int x3), some (.int x9)] dX10_doorsToJoin_20 rfl rfl rfl ?_
  refine dr_iconst (0 : Int32) dX10_doorsToJoin_22 (by decide) ?_
  refine dr_istore [some (.ref p0), some (.int p1), some (.int p2), some (.int x3), some (.int x9), some (.int (0 : Int32))] dX10_doorsToJoin_23 rfl rfl rfl ?_
  refine dr_mask [true, false, true, true, true, true] [some (.ref p0), none, some (.int p2), some (.int x3), some (.int x9), some (.int (0 : Int32))] rfl ?_
  exact c_X10_doorsToJoin_25 dtFuel p0 p2 x3 x9 (0 : Int32) μ7 h
/-! X10_canShutAll -/
theorem dX10_canShutAll_0 : decode cX10_canShutAll 0 = .ok (.aload_n 0, 1) := by decide +kernel
theorem dX10_canShutAll_1 : decode cX10_canShutAll 1 = .ok (.getfield 33, 3) := by decide +kernel
theorem dX10_canShutAll_4 : decode cX10_canShutAll 4 = .ok (.istore 4, 2) := by decide +kernel
theorem dX10_canShutAll_6 : decode cX10_canShutAll 6 = .ok (.iconst 1, 1) := by decide +kernel
theorem dX10_canShutAll_7 : decode cX10_canShutAll 7 = .ok (.iload_n 1, 1) := by decide +kernel
theorem dX10_canShutAll_8 : decode cX10_canShutAll 8 = .ok (.ishl, 1) := by decide +kernel
theorem dX10_canShutAll_9 : decode cX10_canShutAll 9 = .ok (.istore 5, 2) := by decide +kernel
theorem dX10_canShutAll_11 : decode cX10_canShutAll 11 = .ok (.iconst 0, 1) := by decide +kernel
theorem dX10_canShutAll_12 : decode cX10_canShutAll 12 = .ok (.istore 6, 2) := by decide +kernel
theorem dX10_canShutAll_14 : decode cX10_canShutAll 14 = .ok (.iload 6, 2) := by decide +kernel
theorem dX10_canShutAll_16 : decode cX10_canShutAll 16 = .ok (.iload_n 3, 1) := by decide +kernel
theorem dX10_canShutAll_17 : decode cX10_canShutAll 17 = .ok (.if_icmp .ge 56, 3) := by decide +kernel
theorem dX10_canShutAll_20 : decode cX10_canShutAll 20 = .ok (.aload_n 2, 1) := by decide +kernel
theorem dX10_canShutAll_21 : decode cX10_canShutAll 21 = .ok (.iload 6, 2) := by decide +kernel
theorem dX10_canShutAll_23 : decode cX10_canShutAll 23 = .ok (.invokevirtual 54, 3) := by decide +kernel
theorem dX10_canShutAll_26 : decode cX10_canShutAll 26 = .ok (.istore 7, 2) := by decide +kernel
theorem dX10_canShutAll_28 : decode cX10_canShutAll 28 = .ok (.aload_n 0, 1) := by decide +kernel
theorem dX10_canShutAll_29 : decode cX10_canShutAll 29 = .ok (.iload 7, 2) := by decide +kernel
theorem dX10_canShutAll_31 : decode cX10_canShutAll 31 = .ok (.invokevirtual 21, 3) := by decide +kernel
theorem dX10_canShutAll_34 : decode cX10_canShutAll 34 = .ok (.istore 8, 2) := by decide +kernel
theorem dX10_canShutAll_36 : decode cX10_canShutAll 36 = .ok (.aload_n 0, 1) := by decide +kernel
theorem dX10_canShutAll_37 : decode cX10_canShutAll 37 = .ok (.iload 4, 2) := by decide +kernel
theorem dX10_canShutAll_39 : decode cX10_canShutAll 39 = .ok (.iload 5, 2) := by decide +kernel
theorem dX10_canShutAll_41 : decode cX10_canShutAll 41 = .ok (.invokestatic 51, 3) := by decide +kernel
theorem dX10_canShutAll_44 : decode cX10_canShutAll 44 = .ok (.iload 8, 2) := by decide +kernel
theorem dX10_canShutAll_46 : decode cX10_canShutAll 46 = .ok (.iand, 1) := by decide +kernel
theorem dX10_canShutAll_47 : decode cX10_canShutAll 47 = .ok (.ifCond .ne 5, 3) := by decide +kernel
theorem dX10_canShutAll_50 : decode cX10_canShutAll 50 = .ok (.iconst 0, 1) := by decide +kernel
theorem dX10_canShutAll_51 : decode cX10_canShutAll 51 = .ok (.ireturn, 1) := by decide +kernel
theorem dX10_canShutAll_52 : decode cX10_canShutAll 52 = .ok (.iload 8, 2) := by decide +kernel
theorem dX10_canShutAll_54 : decode cX10_canShutAll 54 = .ok (.istore 5, 2) := by decide +kernel
theorem dX10_canShutAll_56 : decode cX10_canShutAll 56 = .ok (.iload 4, 2) := by decide +kernel
theorem dX10_canShutAll_58 : decode cX10_canShutAll 58 = .ok (.iconst 1, 1) := by decide +kernel
theorem dX10_canShutAll_59 : decode cX10_canShutAll 59 = .ok (.iload 7, 2) := by decide +kernel
theorem dX10_canShutAll_61 : decode cX10_canShutAll 61 = .ok (.ishl, 1) := by decide +kernel
theorem dX10_canShutAll_62 : decode cX10_canShutAll 62 = .ok (.iconst (-1), 1) := by decide +kernel
theorem dX10_canShutAll_63 : decode cX10_canShutAll 63 = .ok (.ixor, 1) := by decide +kernel
theorem dX10_canShutAll_64 : decode cX10_canShutAll 64 = .ok (.iand, 1) := by decide +kernel
theorem dX10_canShutAll_65 : decode cX10_canShutAll 65 = .ok (.istore 4, 2) := by decide +kernel
theorem dX10_canShutAll_67 : decode cX10_canShutAll 67 = .ok (.iinc 6 1, 3) := by decide +kernel
theorem dX10_canShutAll_70 : decode cX10_canShutAll 70 = .ok (.goto (-56), 3) := by decide +kernel
theorem dX10_canShutAll_73 : decode cX10_canShutAll 73 = .ok (.iconst 1, 1) := by decide +kernel
theorem dX10_canShutAll_74 : decode cX10_canShutAll 74 = .ok (.ireturn, 1) := by decide +kernel
set_option maxRecDepth 100000 in
def f_X10_canShutAll_14 : Nat → Nat → Nat → Int32 → Int32 → Int32 → Int32 → dtM → Option (Int32 × dtM)
  | 0, _, _, _, _, _, _, _ => none
  | n + 1, l0, l2, l3, l4, l5, l6, μ =>
    if l3 ≤ l6 then (opRet (1 : Int32) μ) else ((opRv 9 μ l2).bind fun _ => opCall (f_X9_smallNumber l2 l6 μ) fun x7 μ5 => (opRv 3 μ5 l0).bind fun _ => opCall (f_X3_roomsOfDoor l0 x7 μ5) fun x11 μ9 => opCall (f_X10_reach l0 l4 l5 μ9) fun x14 μ12 => if (x14 &&& x11) = 0 then (opRet (0 : Int32) μ12) else ((some (l4 &&& (((1 : Int32) <<< (x7 &&& 31)) ^^^ (-1 : Int32)))).bind fun x18 => f_X10_canShutAll_14 n l0 l2 l3 x18 x11 (l6 + 1) μ12))
set_option maxRecDepth 100000 in
def f_X10_canShutAll (p0 : Nat) (p1 : Int32) (p2 : Nat) (p3 : Int32) (μ : dtM) : Option (Int32 × dtM) :=
  (opGI 3 5 μ p0).bind fun x1 => (some ((1 : Int32) <<< (p1 &&& 31))).bind fun x3 => f_X10_canShutAll_14 dtFuel p0 p2 p3 x1 x3 (0 : Int32) μ
set_option maxRecDepth 100000 in
theorem c_X10_canShutAll_14 {r : Int32} {F : dtM} : ∀ (n : Nat) (l0 : Nat) (l2 : Nat) (l3 : Int32) (l4 : Int32) (l5 : Int32) (l6 : Int32) (μ : dtM), f_X10_canShutAll_14 n l0 l2 l3 l4 l5 l6 μ = some (r, F) → dtW yX10_canShutAll cX10_canShutAll 9 (some .boolean) 4 (some (.int r)) F 14 [some (.ref l0), none, some (.ref l2), some (.int l3), some (.int l4), some (.int l5), some (.int l6)] [] μ := by
  intro n
  induction n with
  | zero => intro l0 l2 l3 l4 l5 l6 μ h; cases h
  | succ n ih =>
    intro l0 l2 l3 l4 l5 l6 μ h
    have h := (show f_X10_canShutAll_14 (n + 1) l0 l2 l3 l4 l5 l6 μ = some _ from h)
    rw [f_X10_canShutAll_14] at h
    refine dr_iload l6 dX10_canShutAll_14 rfl ?_
    refine dr_iload_n l3 dX10_canShutAll_16 rfl ?_
    obtain ⟨ht2, hf3⟩ := dtIte h
    refine dr_icmp_ge 73 dX10_canShutAll_17 (by decide) (fun hc1 => ?_) (fun hc1 => ?_)
    · have h := ht2 hc1
      refine dr_iconst (1 : Int32) dX10_canShutAll_73 (by decide) ?_
      obtain ⟨hz, rfl, rfl⟩ := dtRet h
      exact dr_ireturn dX10_canShutAll_74 (dtNz hz)
    · have h := hf3 hc1
      refine dr_aload_n l2 dX10_canShutAll_20 rfl ?_
      refine dr_iload l6 dX10_canShutAll_21 rfl ?_
      obtain ⟨_, hb4, h⟩ := dtBind h
      obtain ⟨x7, μ5, e6, h⟩ := dtCall h
      refine dr_callV_i (S0 := []) [.int l6] x7 μ5 dX10_canShutAll_23 (c_X9_smallNumber l2 l6 μ e6) mf_X9_smallNumber wt_965 wt_966 wt_1209 rfl (dtRv hb4) (by decide) rfl (Nat.le_of_ble_eq_true rfl) (Nat.le_of_ble_eq_true rfl) rfl ?_
      refine dr_istore [some (.ref l0), none, some (.ref l2), some (.int l3), some (.int l4), some (.int l5), some (.int l6), some (.int x7)] dX10_canShutAll_26 rfl rfl rfl ?_
      refine dr_aload_n l0 dX10_canShutAll_28 rfl ?_
      refine dr_iload x7 dX10_canShutAll_29 rfl ?_
      obtain ⟨_, hb8, h⟩ := dtBind h
      obtain ⟨x11, μ9, e10, h⟩ := dtCall h
      refine dr_callV_i (S0 := []) [.int x7] x11 μ9 dX10_canShutAll_31 (c_X3_roomsOfDoor l0 x7 μ5 e10) mf_X3_roomsOfDoor wt_896 wt_897 wt_1042 rfl (dtRv hb8) (by decide) rfl (Nat.le_of_ble_eq_true rfl) (Nat.le_of_ble_eq_true rfl) rfl ?_
      refine dr_istore [some (.ref l0), none, some (.ref l2), some (.int l3), some (.int l4), some (.int l5), some (.int l6), some (.int x7), some (.int x11)] dX10_canShutAll_34 rfl rfl rfl ?_
      refine dr_aload_n l0 dX10_canShutAll_36 rfl ?_
      refine dr_iload l4 dX10_canShutAll_37 rfl ?_
      refine dr_iload l5 dX10_canShutAll_39 rfl ?_
      obtain ⟨x14, μ12, e13, h⟩ := dtCall h
      refine dr_callS_i (S0 := []) [.ref l0, .int l4, .int l5] x14 μ12 dX10_canShutAll_41 (c_X10_reach l0 l4 l5 μ9 e13) mf_X10_reach wt_1037 wt_1186 rfl (Nat.le_of_ble_eq_true rfl) (Nat.le_of_ble_eq_true rfl) rfl ?_
      refine dr_iload x11 dX10_canShutAll_44 rfl ?_
      refine dr_iand dX10_canShutAll_46 ?_
      obtain ⟨ht16, hf17⟩ := dtIte h
      refine dr_if_ne 52 dX10_canShutAll_47 (by decide) (fun hc15 => ?_) (fun hc15 => ?_)
      · have h := hf17 hc15
        refine dr_iload x11 dX10_canShutAll_52 rfl ?_
        refine dr_istore [some (.ref l0), none, some (.ref l2), some (.int l3), some (.int l4), some (.int x11), some (.int l6), some (.int x7), some (.int x11)] dX10_canShutAll_54 rfl rfl rfl ?_
        refine dr_iload l4 dX10_canShutAll_56 rfl ?_
        refine dr_iconst (1 : Int32) dX10_canShutAll_58 (by decide) ?_
        refine dr_iload x7 dX10_canShutAll_59 rfl ?_
        refine dr_ishl dX10_canShutAll_61 ?_
        refine dr_iconst (-1 : Int32) dX10_canShutAll_62 (by decide) ?_
        refine dr_ixor dX10_canShutAll_63 ?_
        refine dr_iand dX10_canShutAll_64 ?_
        obtain ⟨x18, e19, h⟩ := dtBind h
        refine dr_nmi e19 ?_
        refine dr_istore [some (.ref l0), none, some (.ref l2), some (.int l3), some (.int x18), some (.int x11), some (.int l6), some (.int x7), some (.int x11)] dX10_canShutAll_65 rfl rfl rfl ?_
        refine dr_iinc l6 (l6 + 1) [some (.ref l0), none, some (.ref l2), some (.int l3), some (.int x18), some (.int x11), some (.int (l6 + 1)), some (.int x7), some (.int x11)] dX10_canShutAll_67 rfl rfl rfl rfl rfl ?_
        refine dr_goto 14 dX10_canShutAll_70 (by decide) ?_
        refine dr_mask [true, false, true, true, true, true, true] [some (.ref l0), none, some (.ref l2), some (.int l3), some (.int x18), some (.int x11), some (.int (l6 + 1))] rfl ?_
        exact ih l0 l2 l3 x18 x11 (l6 + 1) μ12 h
      · have h := ht16 hc15
        refine dr_iconst (0 : Int32) dX10_canShutAll_50 (by decide) ?_
        obtain ⟨hz, rfl, rfl⟩ := dtRet h
        exact dr_ireturn dX10_canShutAll_51 (dtNz hz)
set_option maxRecDepth 100000 in
theorem c_X10_canShutAll {r : Int32} {F : dtM} (p0 : Nat) (p1 : Int32) (p2 : Nat) (p3 : Int32) (μ : dtM) (h : f_X10_canShutAll p0 p1 p2 p3 μ = some (r, F)) : dtMet yX10_canShutAll cX10_canShutAll 9 (some .boolean) 4 [.ref p0, .int p1, .ref p2, .int p3] μ (some (.int r)) F := by
  refine dtMet.of (by decide +kernel) (Nat.le_of_ble_eq_true rfl) (show dtW yX10_canShutAll cX10_canShutAll 9 (some .boolean) 4 (some (.int r)) F 0 [some (.ref p0), some (.int p1), some (.ref p2), some (.int p3)] [] μ from ?_)
  rw [f_X10_canShutAll] at h
  refine dr_aload_n p0 dX10_canShutAll_0 rfl ?_
  obtain ⟨x1, e2, h⟩ := dtBind h
  refine dr_getI x1 dX10_canShutAll_1 fl_RX10_33 e2 ?_
  refine dr_istore [some (.ref p0), some (.int p1), some (.ref p2), some (.int p3), some (.int x1)] dX10_canShutAll_4 rfl rfl rfl ?_
  refine dr_iconst (1 : Int32) dX10_canShutAll_6 (by decide) ?_
  refine dr_iload_n p1 dX10_canShutAll_7 rfl ?_
  refine dr_ishl dX10_canShutAll_8 ?_
  obtain ⟨x3, e4, h⟩ := dtBind h
  refine dr_nmi e4 ?_
  refine dr_istore [some (.ref p0), some (.int p1), some (.ref p2), some (.int p3), some (.int x1), some (.int x3)] dX10_canShutAll_9 rfl rfl rfl ?_
  refine dr_iconst (0 : Int32) dX10_canShutAll_11 (by decide) ?_
  refine dr_istore [some (.ref p0), some (.int p1), some (.ref p2), some (.int p3), some (.int x1), some (.int x3), some (.int (0 : Int32))] dX10_canShutAll_12 rfl rfl rfl ?_
  refine dr_mask [true, false, true, true, true, true, true] [some (.ref p0), none, some (.ref p2), some (.int p3), some (.int x1), some (.int x3), some (.int (0 : Int32))] rfl ?_
  exact c_X10_canShutAll_14 dtFuel p0 p2 p3 x1 x3 (0 : Int32) μ h
/-! X10_openerPlays -/
theorem dX10_openerPlays_0 : decode cX10_openerPlays 0 = .ok (.iconst 0, 1) := by decide +kernel
theorem dX10_openerPlays_1 : decode cX10_openerPlays 1 = .ok (.istore_n 3, 1) := by decide +kernel
theorem dX10_openerPlays_2 : decode cX10_openerPlays 2 = .ok (.iload_n 3, 1) := by decide +kernel
theorem dX10_openerPlays_3 : decode cX10_openerPlays 3 = .ok (.iload_n 2, 1) := by decide +kernel
theorem dX10_openerPlays_4 : decode cX10_openerPlays 4 = .ok (.if_icmp .ge 62, 3) := by decide +kernel
theorem dX10_openerPlays_7 : decode cX10_openerPlays 7 = .ok (.iconst 0, 1) := by decide +kernel
theorem dX10_openerPlays_8 : decode cX10_openerPlays 8 = .ok (.istore 4, 2) := by decide +kernel
theorem dX10_openerPlays_10 : decode cX10_openerPlays 10 = .ok (.iload 4, 2) := by decide +kernel
theorem dX10_openerPlays_12 : decode cX10_openerPlays 12 = .ok (.aload_n 1, 1) := by decide +kernel
theorem dX10_openerPlays_13 : decode cX10_openerPlays 13 = .ok (.getfield 15, 3) := by decide +kernel
theorem dX10_openerPlays_16 : decode cX10_openerPlays 16 = .ok (.if_icmp .ge 44, 3) := by decide +kernel
theorem dX10_openerPlays_19 : decode cX10_openerPlays 19 = .ok (.iload_n 3, 1) := by decide +kernel
theorem dX10_openerPlays_20 : decode cX10_openerPlays 20 = .ok (.iload 4, 2) := by decide +kernel
theorem dX10_openerPlays_22 : decode cX10_openerPlays 22 = .ok (.invokestatic 25, 3) := by decide +kernel
theorem dX10_openerPlays_25 : decode cX10_openerPlays 25 = .ok (.ifCond .ne 29, 3) := by decide +kernel
theorem dX10_openerPlays_28 : decode cX10_openerPlays 28 = .ok (.aload_n 0, 1) := by decide +kernel
theorem dX10_openerPlays_29 : decode cX10_openerPlays 29 = .ok (.getfield 9, 3) := by decide +kernel
theorem dX10_openerPlays_32 : decode cX10_openerPlays 32 = .ok (.iload_n 3, 1) := by decide +kernel
theorem dX10_openerPlays_33 : decode cX10_openerPlays 33 = .ok (.aload_n 0, 1) := by decide +kernel
theorem dX10_openerPlays_34 : decode cX10_openerPlays 34 = .ok (.getfield 9, 3) := by decide +kernel
theorem dX10_openerPlays_37 : decode cX10_openerPlays 37 = .ok (.iload_n 3, 1) := by decide +kernel
theorem dX10_openerPlays_38 : decode cX10_openerPlays 38 = .ok (.iaload, 1) := by decide +kernel
theorem dX10_openerPlays_39 : decode cX10_openerPlays 39 = .ok (.aload_n 0, 1) := by decide +kernel
theorem dX10_openerPlays_40 : decode cX10_openerPlays 40 = .ok (.getfield 9, 3) := by decide +kernel
theorem dX10_openerPlays_43 : decode cX10_openerPlays 43 = .ok (.iload_n 3, 1) := by decide +kernel
theorem dX10_openerPlays_44 : decode cX10_openerPlays 44 = .ok (.iconst 1, 1) := by decide +kernel
theorem dX10_openerPlays_45 : decode cX10_openerPlays 45 = .ok (.iload 4, 2) := by decide +kernel
theorem dX10_openerPlays_47 : decode cX10_openerPlays 47 = .ok (.ishl, 1) := by decide +kernel
theorem dX10_openerPlays_48 : decode cX10_openerPlays 48 = .ok (.ior, 1) := by decide +kernel
theorem dX10_openerPlays_49 : decode cX10_openerPlays 49 = .ok (.iaload, 1) := by decide +kernel
theorem dX10_openerPlays_50 : decode cX10_openerPlays 50 = .ok (.invokestatic 80, 3) := by decide +kernel
theorem dX10_openerPlays_53 : decode cX10_openerPlays 53 = .ok (.iastore, 1) := by decide +kernel
theorem dX10_openerPlays_54 : decode cX10_openerPlays 54 = .ok (.iinc 4 1, 3) := by decide +kernel
theorem dX10_openerPlays_57 : decode cX10_openerPlays 57 = .ok (.goto (-47), 3) := by decide +kernel
theorem dX10_openerPlays_60 : decode cX10_openerPlays 60 = .ok (.iinc 3 1, 3) := by decide +kernel
theorem dX10_openerPlays_63 : decode cX10_openerPlays 63 = .ok (.goto (-61), 3) := by decide +kernel
theorem dX10_openerPlays_66 : decode cX10_openerPlays 66 = .ok (.return_, 1) := by decide +kernel
set_option maxRecDepth 100000 in
def f_X10_openerPlays_54 (k2 : Nat → Nat → Int32 → Int32 → dtM → Option dtM) (k10 : Nat → Nat → Int32 → Int32 → Int32 → dtM → Option dtM) (l0 : Nat) (l1 : Nat) (l2 : Int32) (l3 : Int32) (l4 : Int32) (μ : dtM) : Option dtM :=
  k10 l0 l1 l2 l3 (l4 + 1) μ
set_option maxRecDepth 100000 in
def f_X10_openerPlays_10 (k2 : Nat → Nat → Int32 → Int32 → dtM → Option dtM) : Nat → Nat → Nat → Int32 → Int32 → Int32 → dtM → Option dtM
  | 0, _, _, _, _, _, _ => none
  | n + 1, l0, l1, l2, l3, l4, μ =>
    (opGI 3 1 μ l1).bind fun x1 => if x1 ≤ l4 then (k2 l0 l1 l2 (l3 + 1) μ) else (opCall (f_X11_contains l3 l4 μ) fun x8 μ6 => if x8 = 0 then ((opGR 10 0 μ6 l0).bind fun x12 => (opGR 10 0 μ6 l0).bind fun x14 => (opLI 1 μ6 x14 l3).bind fun x16 => (opGR 10 0 μ6 l0).bind fun x18 => (opLI 1 μ6 x18 (l3 ||| ((1 : Int32) <<< (l4 &&& 31)))).bind fun x20 => (some (if x16 < x20 then x20 else x16)).bind fun x22 => (opSI μ6 x12 l3 x22).bind fun μ24 => f_X10_openerPlays_54 k2 (f_X10_openerPlays_10 k2 n) l0 l1 l2 l3 l4 μ24) else (f_X10_openerPlays_54 k2 (f_X10_openerPlays_10 k2 n) l0 l1 l2 l3 l4 μ6))
set_option maxRecDepth 100000 in
def f_X10_openerPlays_2 : Nat → Nat → Nat → Int32 → Int32 → dtM → Option dtM
  | 0, _, _, _, _, _ => none
  | n + 1, l0, l1, l2, l3, μ =>
    if l2 ≤ l3 then (some μ) else (f_X10_openerPlays_10 (f_X10_openerPlays_2 n) dtFuel l0 l1 l2 l3 (0 : Int32) μ)
set_option maxRecDepth 100000 in
def f_X10_openerPlays (p0 : Nat) (p1 : Nat) (p2 : Int32) (μ : dtM) : Option dtM :=
  f_X10_openerPlays_2 dtFuel p0 p1 p2 (0 : Int32) μ
set_option maxRecDepth 100000 in
theorem c_X10_openerPlays_54 {F : dtM} (k2 : Nat → Nat → Int32 → Int32 → dtM → Option dtM) (k10 : Nat → Nat → Int32 → Int32 → Int32 → dtM → Option dtM) (hk2 : ∀ (l0 : Nat) (l1 : Nat) (l2 : Int32) (l3 : Int32) (μ : dtM), k2 l0 l1 l2 l3 μ = some F → dtW yX10_openerPlays cX10_openerPlays 5 (none) 2 (none) F 2 [some (.ref l0), some (.ref l1), some (.int l2), some (.int l3)] [] μ) (hk10 : ∀ (l0 : Nat) (l1 : Nat) (l2 : Int32) (l3 : Int32) (l4 : Int32) (μ : dtM), k10 l0 l1 l2 l3 l4 μ = some F → dtW yX10_openerPlays cX10_openerPlays 5 (none) 2 (none) F 10 [some (.ref l0), some (.ref l1), some (.int l2), some (.int l3), some (.int l4)] [] μ) (l0 : Nat) (l1 : Nat) (l2 : Int32) (l3 : Int32) (l4 : Int32) (μ : dtM) (h : f_X10_openerPlays_54 k2 k10 l0 l1 l2 l3 l4 μ = some F) : dtW yX10_openerPlays cX10_openerPlays 5 (none) 2 (none) F 54 [some (.ref l0), some (.ref l1), some (.int l2), some (.int l3), some (.int l4)] [] μ := by
  rw [f_X10_openerPlays_54] at h
  refine dr_iinc l4 (l4 + 1) [some (.ref l0), some (.ref l1), some (.int l2), some (.int l3), some (.int (l4 + 1))] dX10_openerPlays_54 rfl rfl rfl rfl rfl ?_
  refine dr_goto 10 dX10_openerPlays_57 (by decide) ?_
  exact hk10 l0 l1 l2 l3 (l4 + 1) μ h
set_option maxRecDepth 100000 in
theorem c_X10_openerPlays_10 {F : dtM} (k2 : Nat → Nat → Int32 → Int32 → dtM → Option dtM) (hk2 : ∀ (l0 : Nat) (l1 : Nat) (l2 : Int32) (l3 : Int32) (μ : dtM), k2 l0 l1 l2 l3 μ = some F → dtW yX10_openerPlays cX10_openerPlays 5 (none) 2 (none) F 2 [some (.ref l0), some (.ref l1), some (.int l2), some (.int l3)] [] μ) : ∀ (n : Nat) (l0 : Nat) (l1 : Nat) (l2 : Int32) (l3 : Int32) (l4 : Int32) (μ : dtM), f_X10_openerPlays_10 k2 n l0 l1 l2 l3 l4 μ = some F → dtW yX10_openerPlays cX10_openerPlays 5 (none) 2 (none) F 10 [some (.ref l0), some (.ref l1), some (.int l2), some (.int l3), some (.int l4)] [] μ := by
  intro n
  induction n with
  | zero => intro l0 l1 l2 l3 l4 μ h; cases h
  | succ n ih =>
    intro l0 l1 l2 l3 l4 μ h
    have h := (show f_X10_openerPlays_10 k2 (n + 1) l0 l1 l2 l3 l4 μ = some _ from h)
    rw [f_X10_openerPlays_10] at h
    refine dr_iload l4 dX10_openerPlays_10 rfl ?_
    refine dr_aload_n l1 dX10_openerPlays_12 rfl ?_
    obtain ⟨x1, e2, h⟩ := dtBind h
    refine dr_getI x1 dX10_openerPlays_13 fl_RX10_15 e2 ?_
    obtain ⟨ht4, hf5⟩ := dtIte h
    refine dr_icmp_ge 60 dX10_openerPlays_16 (by decide) (fun hc3 => ?_) (fun hc3 => ?_)
    · have h := ht4 hc3
      refine dr_iinc l3 (l3 + 1) [some (.ref l0), some (.ref l1), some (.int l2), some (.int (l3 + 1)), some (.int l4)] dX10_openerPlays_60 rfl rfl rfl rfl rfl ?_
      refine dr_goto 2 dX10_openerPlays_63 (by decide) ?_
      refine dr_mask [true, true, true, true] [some (.ref l0), some (.ref l1), some (.int l2), some (.int (l3 + 1))] rfl ?_
      exact hk2 l0 l1 l2 (l3 + 1) μ h
    · have h := hf5 hc3
      refine dr_iload_n l3 dX10_openerPlays_19 rfl ?_
      refine dr_iload l4 dX10_openerPlays_20 rfl ?_
      obtain ⟨x8, μ6, e7, h⟩ := dtCall h
      refine dr_callSN_i (S0 := []) [.int l3, .int l4] x8 μ6 dX10_openerPlays_22 (c_X11_contains l3 l4 μ e7) mf_X11_contains wt_748 wn_1043 rfl (Nat.le_of_ble_eq_true rfl) (Nat.le_of_ble_eq_true rfl) rfl ?_
      obtain ⟨ht10, hf11⟩ := dtIte h
      refine dr_if_ne 54 dX10_openerPlays_25 (by decide) (fun hc9 => ?_) (fun hc9 => ?_)
      · have h := hf11 hc9
        exact c_X10_openerPlays_54 k2 (f_X10_openerPlays_10 k2 n) hk2 ih l0 l1 l2 l3 l4 μ6 h
      · have h := ht10 hc9
        refine dr_aload_n l0 dX10_openerPlays_28 rfl ?_
        obtain ⟨x12, e13, h⟩ := dtBind h
        refine dr_getR x12 dX10_openerPlays_29 fl_RX10_9 e13 ?_
        refine dr_iload_n l3 dX10_openerPlays_32 rfl ?_
        refine dr_aload_n l0 dX10_openerPlays_33 rfl ?_
        obtain ⟨x14, e15, h⟩ := dtBind h
        refine dr_getR x14 dX10_openerPlays_34 fl_RX10_9 e15 ?_
        refine dr_iload_n l3 dX10_openerPlays_37 rfl ?_
        obtain ⟨x16, e17, h⟩ := dtBind h
        refine dr_iaload x16 dX10_openerPlays_38 e17 ?_
        refine dr_aload_n l0 dX10_openerPlays_39 rfl ?_
        obtain ⟨x18, e19, h⟩ := dtBind h
        refine dr_getR x18 dX10_openerPlays_40 fl_RX10_9 e19 ?_
        refine dr_iload_n l3 dX10_openerPlays_43 rfl ?_
        refine dr_iconst (1 : Int32) dX10_openerPlays_44 (by decide) ?_
        refine dr_iload l4 dX10_openerPlays_45 rfl ?_
        refine dr_ishl dX10_openerPlays_47 ?_
        refine dr_ior dX10_openerPlays_48 ?_
        obtain ⟨x20, e21, h⟩ := dtBind h
        refine dr_iaload x20 dX10_openerPlays_49 e21 ?_
        refine dr_max dX10_openerPlays_50 wt_1231 wt_1132 wt_15 wt_1133 (Nat.le_of_ble_eq_true rfl) rfl ?_
        obtain ⟨x22, e23, h⟩ := dtBind h
        refine dr_nmi e23 ?_
        obtain ⟨μ24, e25, h⟩ := dtBind h
        refine dr_iastore μ24 dX10_openerPlays_53 e25 ?_
        exact c_X10_openerPlays_54 k2 (f_X10_openerPlays_10 k2 n) hk2 ih l0 l1 l2 l3 l4 μ24 h
set_option maxRecDepth 100000 in
theorem c_X10_openerPlays_2 {F : dtM} : ∀ (n : Nat) (l0 : Nat) (l1 : Nat) (l2 : Int32) (l3 : Int32) (μ : dtM), f_X10_openerPlays_2 n l0 l1 l2 l3 μ = some F → dtW yX10_openerPlays cX10_openerPlays 5 (none) 2 (none) F 2 [some (.ref l0), some (.ref l1), some (.int l2), some (.int l3)] [] μ := by
  intro n
  induction n with
  | zero => intro l0 l1 l2 l3 μ h; cases h
  | succ n ih =>
    intro l0 l1 l2 l3 μ h
    have h := (show f_X10_openerPlays_2 (n + 1) l0 l1 l2 l3 μ = some _ from h)
    rw [f_X10_openerPlays_2] at h
    refine dr_iload_n l3 dX10_openerPlays_2 rfl ?_
    refine dr_iload_n l2 dX10_openerPlays_3 rfl ?_
    obtain ⟨ht2, hf3⟩ := dtIte h
    refine dr_icmp_ge 66 dX10_openerPlays_4 (by decide) (fun hc1 => ?_) (fun hc1 => ?_)
    · have h := ht2 hc1
      cases h
      exact dr_return dX10_openerPlays_66
    · have h := hf3 hc1
      refine dr_iconst (0 : Int32) dX10_openerPlays_7 (by decide) ?_
      refine dr_istore [some (.ref l0), some (.ref l1), some (.int l2), some (.int l3), some (.int (0 : Int32))] dX10_openerPlays_8 rfl rfl rfl ?_
      exact c_X10_openerPlays_10 (f_X10_openerPlays_2 n) ih dtFuel l0 l1 l2 l3 (0 : Int32) μ h
set_option maxRecDepth 100000 in
theorem c_X10_openerPlays {F : dtM} (p0 : Nat) (p1 : Nat) (p2 : Int32) (μ : dtM) (h : f_X10_openerPlays p0 p1 p2 μ = some F) : dtMet yX10_openerPlays cX10_openerPlays 5 (none) 2 [.ref p0, .ref p1, .int p2] μ (none) F := by
  refine dtMet.of (by decide +kernel) (Nat.le_of_ble_eq_true rfl) (show dtW yX10_openerPlays cX10_openerPlays 5 (none) 2 (none) F 0 [some (.ref p0), some (.ref p1), some (.int p2)] [] μ from ?_)
  rw [f_X10_openerPlays] at h
  refine dr_iconst (0 : Int32) dX10_openerPlays_0 (by decide) ?_
  refine dr_istore_n 3 [some (.ref p0), some (.ref p1), some (.int p2), some (.int (0 : Int32))] dX10_openerPlays_1 rfl rfl rfl rfl ?_
  exact c_X10_openerPlays_2 dtFuel p0 p1 p2 (0 : Int32) μ h
/-! X10_shutterPlays -/
theorem dX10_shutterPlays_0 : decode cX10_shutterPlays 0 = .ok (.iload_n 2, 1) := by decide +kernel
theorem dX10_shutterPlays_1 : decode cX10_shutterPlays 1 = .ok (.iconst 1, 1) := by decide +kernel
theorem dX10_shutterPlays_2 : decode cX10_shutterPlays 2 = .ok (.isub, 1) := by decide +kernel
theorem dX10_shutterPlays_3 : decode cX10_shutterPlays 3 = .ok (.istore_n 3, 1) := by decide +kernel
theorem dX10_shutterPlays_4 : decode cX10_shutterPlays 4 = .ok (.iload_n 3, 1) := by decide +kernel
theorem dX10_shutterPlays_5 : decode cX10_shutterPlays 5 = .ok (.ifCond .lt 62, 3) := by decide +kernel
theorem dX10_shutterPlays_8 : decode cX10_shutterPlays 8 = .ok (.iconst 0, 1) := by decide +kernel
theorem dX10_shutterPlays_9 : decode cX10_shutterPlays 9 = .ok (.istore 4, 2) := by decide +kernel
theorem dX10_shutterPlays_11 : decode cX10_shutterPlays 11 = .ok (.iload 4, 2) := by decide +kernel
theorem dX10_shutterPlays_13 : decode cX10_shutterPlays 13 = .ok (.aload_n 1, 1) := by decide +kernel
theorem dX10_shutterPlays_14 : decode cX10_shutterPlays 14 = .ok (.getfield 15, 3) := by decide +kernel
theorem dX10_shutterPlays_17 : decode cX10_shutterPlays 17 = .ok (.if_icmp .ge 44, 3) := by decide +kernel
theorem dX10_shutterPlays_20 : decode cX10_shutterPlays 20 = .ok (.iload_n 3, 1) := by decide +kernel
theorem dX10_shutterPlays_21 : decode cX10_shutterPlays 21 = .ok (.iload 4, 2) := by decide +kernel
theorem dX10_shutterPlays_23 : decode cX10_shutterPlays 23 = .ok (.invokestatic 25, 3) := by decide +kernel
theorem dX10_shutterPlays_26 : decode cX10_shutterPlays 26 = .ok (.ifCond .eq 29, 3) := by decide +kernel
theorem dX10_shutterPlays_29 : decode cX10_shutterPlays 29 = .ok (.aload_n 0, 1) := by decide +kernel
theorem dX10_shutterPlays_30 : decode cX10_shutterPlays 30 = .ok (.getfield 9, 3) := by decide +kernel
theorem dX10_shutterPlays_33 : decode cX10_shutterPlays 33 = .ok (.iload_n 3, 1) := by decide +kernel
theorem dX10_shutterPlays_34 : decode cX10_shutterPlays 34 = .ok (.aload_n 0, 1) := by decide +kernel
theorem dX10_shutterPlays_35 : decode cX10_shutterPlays 35 = .ok (.getfield 9, 3) := by decide +kernel
theorem dX10_shutterPlays_38 : decode cX10_shutterPlays 38 = .ok (.iload_n 3, 1) := by decide +kernel
theorem dX10_shutterPlays_39 : decode cX10_shutterPlays 39 = .ok (.iaload, 1) := by decide +kernel
theorem dX10_shutterPlays_40 : decode cX10_shutterPlays 40 = .ok (.aload_n 0, 1) := by decide +kernel
theorem dX10_shutterPlays_41 : decode cX10_shutterPlays 41 = .ok (.getfield 9, 3) := by decide +kernel
theorem dX10_shutterPlays_44 : decode cX10_shutterPlays 44 = .ok (.iload_n 3, 1) := by decide +kernel
theorem dX10_shutterPlays_45 : decode cX10_shutterPlays 45 = .ok (.iconst 1, 1) := by decide +kernel
theorem dX10_shutterPlays_46 : decode cX10_shutterPlays 46 = .ok (.iload 4, 2) := by decide +kernel
theorem dX10_shutterPlays_48 : decode cX10_shutterPlays 48 = .ok (.ishl, 1) := by decide +kernel
theorem dX10_shutterPlays_49 : decode cX10_shutterPlays 49 = .ok (.ixor, 1) := by decide +kernel
theorem dX10_shutterPlays_50 : decode cX10_shutterPlays 50 = .ok (.iaload, 1) := by decide +kernel
theorem dX10_shutterPlays_51 : decode cX10_shutterPlays 51 = .ok (.invokestatic 74, 3) := by decide +kernel
theorem dX10_shutterPlays_54 : decode cX10_shutterPlays 54 = .ok (.iastore, 1) := by decide +kernel
theorem dX10_shutterPlays_55 : decode cX10_shutterPlays 55 = .ok (.iinc 4 1, 3) := by decide +kernel
theorem dX10_shutterPlays_58 : decode cX10_shutterPlays 58 = .ok (.goto (-47), 3) := by decide +kernel
theorem dX10_shutterPlays_61 : decode cX10_shutterPlays 61 = .ok (.iinc 3 (-1), 3) := by decide +kernel
theorem dX10_shutterPlays_64 : decode cX10_shutterPlays 64 = .ok (.goto (-60), 3) := by decide +kernel
theorem dX10_shutterPlays_67 : decode cX10_shutterPlays 67 = .ok (.return_, 1) := by decide +kernel
set_option maxRecDepth 100000 in
def f_X10_shutterPlays_55 (k4 : Nat → Nat → Int32 → dtM → Option dtM) (k11 : Nat → Nat → Int32 → Int32 → dtM → Option dtM) (l0 : Nat) (l1 : Nat) (l3 : Int32) (l4 : Int32) (μ : dtM) : Option dtM :=
  k11 l0 l1 l3 (l4 + 1) μ
set_option maxRecDepth 100000 in
def f_X10_shutterPlays_11 (k4 : Nat → Nat → Int32 → dtM → Option dtM) : Nat → Nat → Nat → Int32 → Int32 → dtM → Option dtM
  | 0, _, _, _, _, _ => none
  | n + 1, l0, l1, l3, l4, μ =>
    (opGI 3 1 μ l1).bind fun x1 => if x1 ≤ l4 then (k4 l0 l1 (l3 + (-1)) μ) else (opCall (f_X11_contains l3 l4 μ) fun x8 μ6 => if x8 = 0 then (f_X10_shutterPlays_55 k4 (f_X10_shutterPlays_11 k4 n) l0 l1 l3 l4 μ6) else ((opGR 10 0 μ6 l0).bind fun x12 => (opGR 10 0 μ6 l0).bind fun x14 => (opLI 1 μ6 x14 l3).bind fun x16 => (opGR 10 0 μ6 l0).bind fun x18 => (opLI 1 μ6 x18 (l3 ^^^ ((1 : Int32) <<< (l4 &&& 31)))).bind fun x20 => (some (if x20 < x16 then x20 else x16)).bind fun x22 => (opSI μ6 x12 l3 x22).bind fun μ24 => f_X10_shutterPlays_55 k4 (f_X10_shutterPlays_11 k4 n) l0 l1 l3 l4 μ24))
set_option maxRecDepth 100000 in
def f_X10_shutterPlays_4 : Nat → Nat → Nat → Int32 → dtM → Option dtM
  | 0, _, _, _, _ => none
  | n + 1, l0, l1, l3, μ =>
    if l3 < 0 then (some μ) else (f_X10_shutterPlays_11 (f_X10_shutterPlays_4 n) dtFuel l0 l1 l3 (0 : Int32) μ)
set_option maxRecDepth 100000 in
def f_X10_shutterPlays (p0 : Nat) (p1 : Nat) (p2 : Int32) (μ : dtM) : Option dtM :=
  (some (p2 - (1 : Int32))).bind fun x1 => f_X10_shutterPlays_4 dtFuel p0 p1 x1 μ
set_option maxRecDepth 100000 in
theorem c_X10_shutterPlays_55 {F : dtM} (k4 : Nat → Nat → Int32 → dtM → Option dtM) (k11 : Nat → Nat → Int32 → Int32 → dtM → Option dtM) (hk4 : ∀ (l0 : Nat) (l1 : Nat) (l3 : Int32) (μ : dtM), k4 l0 l1 l3 μ = some F → dtW yX10_shutterPlays cX10_shutterPlays 5 (none) 2 (none) F 4 [some (.ref l0), some (.ref l1), none, some (.int l3)] [] μ) (hk11 : ∀ (l0 : Nat) (l1 : Nat) (l3 : Int32) (l4 : Int32) (μ : dtM), k11 l0 l1 l3 l4 μ = some F → dtW yX10_shutterPlays cX10_shutterPlays 5 (none) 2 (none) F 11 [some (.ref l0), some (.ref l1), none, some (.int l3), some (.int l4)] [] μ) (l0 : Nat) (l1 : Nat) (l3 : Int32) (l4 : Int32) (μ : dtM) (h : f_X10_shutterPlays_55 k4 k11 l0 l1 l3 l4 μ = some F) : dtW yX10_shutterPlays cX10_shutterPlays 5 (none) 2 (none) F 55 [some (.ref l0), some (.ref l1), none, some (.int l3), some (.int l4)] [] μ := by
  rw [f_X10_shutterPlays_55] at h
  refine dr_iinc l4 (l4 + 1) [some (.ref l0), some (.ref l1), none, some (.int l3), some (.int (l4 + 1))] dX10_shutterPlays_55 rfl rfl rfl rfl rfl ?_
  refine dr_goto 11 dX10_shutterPlays_58 (by decide) ?_
  exact hk11 l0 l1 l3 (l4 + 1) μ h
set_option maxRecDepth 100000 in
theorem c_X10_shutterPlays_11 {F : dtM} (k4 : Nat → Nat → Int32 → dtM → Option dtM) (hk4 : ∀ (l0 : Nat) (l1 : Nat) (l3 : Int32) (μ : dtM), k4 l0 l1 l3 μ = some F → dtW yX10_shutterPlays cX10_shutterPlays 5 (none) 2 (none) F 4 [some (.ref l0), some (.ref l1), none, some (.int l3)] [] μ) : ∀ (n : Nat) (l0 : Nat) (l1 : Nat) (l3 : Int32) (l4 : Int32) (μ : dtM), f_X10_shutterPlays_11 k4 n l0 l1 l3 l4 μ = some F → dtW yX10_shutterPlays cX10_shutterPlays 5 (none) 2 (none) F 11 [some (.ref l0), some (.ref l1), none, some (.int l3), some (.int l4)] [] μ := by
  intro n
  induction n with
  | zero => intro l0 l1 l3 l4 μ h; cases h
  | succ n ih =>
    intro l0 l1 l3 l4 μ h
    have h := (show f_X10_shutterPlays_11 k4 (n + 1) l0 l1 l3 l4 μ = some _ from h)
    rw [f_X10_shutterPlays_11] at h
    refine dr_iload l4 dX10_shutterPlays_11 rfl ?_
    refine dr_aload_n l1 dX10_shutterPlays_13 rfl ?_
    obtain ⟨x1, e2, h⟩ := dtBind h
    refine dr_getI x1 dX10_shutterPlays_14 fl_RX10_15 e2 ?_
    obtain ⟨ht4, hf5⟩ := dtIte h
    refine dr_icmp_ge 61 dX10_shutterPlays_17 (by decide) (fun hc3 => ?_) (fun hc3 => ?_)
    · have h := ht4 hc3
      refine dr_iinc l3 (l3 + (-1)) [some (.ref l0), some (.ref l1), none, some (.int (l3 + (-1))), some (.int l4)] dX10_shutterPlays_61 rfl rfl rfl rfl rfl ?_
      refine dr_goto 4 dX10_shutterPlays_64 (by decide) ?_
      refine dr_mask [true, true, false, true] [some (.ref l0), some (.ref l1), none, some (.int (l3 + (-1)))] rfl ?_
      exact hk4 l0 l1 (l3 + (-1)) μ h
    · have h := hf5 hc3
      refine dr_iload_n l3 dX10_shutterPlays_20 rfl ?_
      refine dr_iload l4 dX10_shutterPlays_21 rfl ?_
      obtain ⟨x8, μ6, e7, h⟩ := dtCall h
      refine dr_callSN_i (S0 := []) [.int l3, .int l4] x8 μ6 dX10_shutterPlays_23 (c_X11_contains l3 l4 μ e7) mf_X11_contains wt_748 wn_1043 rfl (Nat.le_of_ble_eq_true rfl) (Nat.le_of_ble_eq_true rfl) rfl ?_
      obtain ⟨ht10, hf11⟩ := dtIte h
      refine dr_if_eq 55 dX10_shutterPlays_26 (by decide) (fun hc9 => ?_) (fun hc9 => ?_)
      · have h := ht10 hc9
        exact c_X10_shutterPlays_55 k4 (f_X10_shutterPlays_11 k4 n) hk4 ih l0 l1 l3 l4 μ6 h
      · have h := hf11 hc9
        refine dr_aload_n l0 dX10_shutterPlays_29 rfl ?_
        obtain ⟨x12, e13, h⟩ := dtBind h
        refine dr_getR x12 dX10_shutterPlays_30 fl_RX10_9 e13 ?_
        refine dr_iload_n l3 dX10_shutterPlays_33 rfl ?_
        refine dr_aload_n l0 dX10_shutterPlays_34 rfl ?_
        obtain ⟨x14, e15, h⟩ := dtBind h
        refine dr_getR x14 dX10_shutterPlays_35 fl_RX10_9 e15 ?_
        refine dr_iload_n l3 dX10_shutterPlays_38 rfl ?_
        obtain ⟨x16, e17, h⟩ := dtBind h
        refine dr_iaload x16 dX10_shutterPlays_39 e17 ?_
        refine dr_aload_n l0 dX10_shutterPlays_40 rfl ?_
        obtain ⟨x18, e19, h⟩ := dtBind h
        refine dr_getR x18 dX10_shutterPlays_41 fl_RX10_9 e19 ?_
        refine dr_iload_n l3 dX10_shutterPlays_44 rfl ?_
        refine dr_iconst (1 : Int32) dX10_shutterPlays_45 (by decide) ?_
        refine dr_iload l4 dX10_shutterPlays_46 rfl ?_
        refine dr_ishl dX10_shutterPlays_48 ?_
        refine dr_ixor dX10_shutterPlays_49 ?_
        obtain ⟨x20, e21, h⟩ := dtBind h
        refine dr_iaload x20 dX10_shutterPlays_50 e21 ?_
        refine dr_min dX10_shutterPlays_51 wt_1226 wt_548 wt_15 wt_549 (Nat.le_of_ble_eq_true rfl) rfl ?_
        obtain ⟨x22, e23, h⟩ := dtBind h
        refine dr_nmi e23 ?_
        obtain ⟨μ24, e25, h⟩ := dtBind h
        refine dr_iastore μ24 dX10_shutterPlays_54 e25 ?_
        exact c_X10_shutterPlays_55 k4 (f_X10_shutterPlays_11 k4 n) hk4 ih l0 l1 l3 l4 μ24 h
set_option maxRecDepth 100000 in
theorem c_X10_shutterPlays_4 {F : dtM} : ∀ (n : Nat) (l0 : Nat) (l1 : Nat) (l3 : Int32) (μ : dtM), f_X10_shutterPlays_4 n l0 l1 l3 μ = some F → dtW yX10_shutterPlays cX10_shutterPlays 5 (none) 2 (none) F 4 [some (.ref l0), some (.ref l1), none, some (.int l3)] [] μ := by
  intro n
  induction n with
  | zero => intro l0 l1 l3 μ h; cases h
  | succ n ih =>
    intro l0 l1 l3 μ h
    have h := (show f_X10_shutterPlays_4 (n + 1) l0 l1 l3 μ = some _ from h)
    rw [f_X10_shutterPlays_4] at h
    refine dr_iload_n l3 dX10_shutterPlays_4 rfl ?_
    obtain ⟨ht2, hf3⟩ := dtIte h
    refine dr_if_lt 67 dX10_shutterPlays_5 (by decide) (fun hc1 => ?_) (fun hc1 => ?_)
    · have h := ht2 hc1
      cases h
      exact dr_return dX10_shutterPlays_67
    · have h := hf3 hc1
      refine dr_iconst (0 : Int32) dX10_shutterPlays_8 (by decide) ?_
      refine dr_istore [some (.ref l0), some (.ref l1), none, some (.int l3), some (.int (0 : Int32))] dX10_shutterPlays_9 rfl rfl rfl ?_
      exact c_X10_shutterPlays_11 (f_X10_shutterPlays_4 n) ih dtFuel l0 l1 l3 (0 : Int32) μ h
set_option maxRecDepth 100000 in
theorem c_X10_shutterPlays {F : dtM} (p0 : Nat) (p1 : Nat) (p2 : Int32) (μ : dtM) (h : f_X10_shutterPlays p0 p1 p2 μ = some F) : dtMet yX10_shutterPlays cX10_shutterPlays 5 (none) 2 [.ref p0, .ref p1, .int p2] μ (none) F := by
  refine dtMet.of (by decide +kernel) (Nat.le_of_ble_eq_true rfl) (show dtW yX10_shutterPlays cX10_shutterPlays 5 (none) 2 (none) F 0 [some (.ref p0), some (.ref p1), some (.int p2)] [] μ from ?_)
  rw [f_X10_shutterPlays] at h
  refine dr_iload_n p2 dX10_shutterPlays_0 rfl ?_
  refine dr_iconst (1 : Int32) dX10_shutterPlays_1 (by decide) ?_
  refine dr_isub dX10_shutterPlays_2 ?_
  obtain ⟨x1, e2, h⟩ := dtBind h
  refine dr_nmi e2 ?_
  refine dr_istore_n 3 [some (.ref p0), some (.ref p1), some (.int p2), some (.int x1)] dX10_shutterPlays_3 rfl rfl rfl rfl ?_
  refine dr_mask [true, true, false, true] [some (.ref p0), some (.ref p1), none, some (.int x1)] rfl ?_
  exact c_X10_shutterPlays_4 dtFuel p0 p1 x1 μ h
/-! X10_playBack -/
theorem dX10_playBack_0 : decode cX10_playBack 0 = .ok (.iconst 1, 1) := by decide +kernel
theorem dX10_playBack_1 : decode cX10_playBack 1 = .ok (.aload_n 1, 1) := by decide +kernel
theorem dX10_playBack_2 : decode cX10_playBack 2 = .ok (.getfield 15, 3) := by decide +kernel
theorem dX10_playBack_5 : decode cX10_playBack 5 = .ok (.ishl, 1) := by decide +kernel
theorem dX10_playBack_6 : decode cX10_playBack 6 = .ok (.istore 5, 2) := by decide +kernel
theorem dX10_playBack_8 : decode cX10_playBack 8 = .ok (.iconst 0, 1) := by decide +kernel
theorem dX10_playBack_9 : decode cX10_playBack 9 = .ok (.istore 6, 2) := by decide +kernel
theorem dX10_playBack_11 : decode cX10_playBack 11 = .ok (.iload 6, 2) := by decide +kernel
theorem dX10_playBack_13 : decode cX10_playBack 13 = .ok (.iload 5, 2) := by decide +kernel
theorem dX10_playBack_15 : decode cX10_playBack 15 = .ok (.if_icmp .ge 28, 3) := by decide +kernel
theorem dX10_playBack_18 : decode cX10_playBack 18 = .ok (.aload_n 0, 1) := by decide +kernel
theorem dX10_playBack_19 : decode cX10_playBack 19 = .ok (.getfield 9, 3) := by decide +kernel
theorem dX10_playBack_22 : decode cX10_playBack 22 = .ok (.iload 6, 2) := by decide +kernel
theorem dX10_playBack_24 : decode cX10_playBack 24 = .ok (.aload_n 1, 1) := by decide +kernel
theorem dX10_playBack_25 : decode cX10_playBack 25 = .ok (.iload 6, 2) := by decide +kernel
theorem dX10_playBack_27 : decode cX10_playBack 27 = .ok (.iconst 1, 1) := by decide +kernel
theorem dX10_playBack_28 : decode cX10_playBack 28 = .ok (.iload_n 2, 1) := by decide +kernel
theorem dX10_playBack_29 : decode cX10_playBack 29 = .ok (.ishl, 1) := by decide +kernel
theorem dX10_playBack_30 : decode cX10_playBack 30 = .ok (.invokestatic 51, 3) := by decide +kernel
theorem dX10_playBack_33 : decode cX10_playBack 33 = .ok (.invokestatic 46, 3) := by decide +kernel
theorem dX10_playBack_36 : decode cX10_playBack 36 = .ok (.iastore, 1) := by decide +kernel
theorem dX10_playBack_37 : decode cX10_playBack 37 = .ok (.iinc 6 1, 3) := by decide +kernel
theorem dX10_playBack_40 : decode cX10_playBack 40 = .ok (.goto (-29), 3) := by decide +kernel
theorem dX10_playBack_43 : decode cX10_playBack 43 = .ok (.iload_n 3, 1) := by decide +kernel
theorem dX10_playBack_44 : decode cX10_playBack 44 = .ok (.iconst 1, 1) := by decide +kernel
theorem dX10_playBack_45 : decode cX10_playBack 45 = .ok (.isub, 1) := by decide +kernel
theorem dX10_playBack_46 : decode cX10_playBack 46 = .ok (.istore 6, 2) := by decide +kernel
theorem dX10_playBack_48 : decode cX10_playBack 48 = .ok (.iload 6, 2) := by decide +kernel
theorem dX10_playBack_50 : decode cX10_playBack 50 = .ok (.iload 4, 2) := by decide +kernel
theorem dX10_playBack_52 : decode cX10_playBack 52 = .ok (.if_icmp .lt 33, 3) := by decide +kernel
theorem dX10_playBack_55 : decode cX10_playBack 55 = .ok (.iload 6, 2) := by decide +kernel
theorem dX10_playBack_57 : decode cX10_playBack 57 = .ok (.iconst 2, 1) := by decide +kernel
theorem dX10_playBack_58 : decode cX10_playBack 58 = .ok (.irem, 1) := by decide +kernel
theorem dX10_playBack_59 : decode cX10_playBack 59 = .ok (.ifCond .ne 13, 3) := by decide +kernel
theorem dX10_playBack_62 : decode cX10_playBack 62 = .ok (.aload_n 0, 1) := by decide +kernel
theorem dX10_playBack_63 : decode cX10_playBack 63 = .ok (.aload_n 1, 1) := by decide +kernel
theorem dX10_playBack_64 : decode cX10_playBack 64 = .ok (.iload 5, 2) := by decide +kernel
theorem dX10_playBack_66 : decode cX10_playBack 66 = .ok (.invokevirtual 67, 3) := by decide +kernel
theorem dX10_playBack_69 : decode cX10_playBack 69 = .ok (.goto 10, 3) := by decide +kernel
theorem dX10_playBack_72 : decode cX10_playBack 72 = .ok (.aload_n 0, 1) := by decide +kernel
theorem dX10_playBack_73 : decode cX10_playBack 73 = .ok (.aload_n 1, 1) := by decide +kernel
theorem dX10_playBack_74 : decode cX10_playBack 74 = .ok (.iload 5, 2) := by decide +kernel
theorem dX10_playBack_76 : decode cX10_playBack 76 = .ok (.invokevirtual 71, 3) := by decide +kernel
theorem dX10_playBack_79 : decode cX10_playBack 79 = .ok (.iinc 6 (-1), 3) := by decide +kernel
theorem dX10_playBack_82 : decode cX10_playBack 82 = .ok (.goto (-34), 3) := by decide +kernel
theorem dX10_playBack_85 : decode cX10_playBack 85 = .ok (.return_, 1) := by decide +kernel
set_option maxRecDepth 100000 in
def f_X10_playBack_79 (k48 : Nat → Nat → Int32 → Int32 → Int32 → dtM → Option dtM) (l0 : Nat) (l1 : Nat) (l4 : Int32) (l5 : Int32) (l6 : Int32) (μ : dtM) : Option dtM :=
  k48 l0 l1 l4 l5 (l6 + (-1)) μ
set_option maxRecDepth 100000 in
def f_X10_playBack_48 : Nat → Nat → Nat → Int32 → Int32 → Int32 → dtM → Option dtM
  | 0, _, _, _, _, _, _ => none
  | n + 1, l0, l1, l4, l5, l6, μ =>
    if l6 < l4 then (some μ) else ((opRem l6 (2 : Int32)).bind fun x4 => if x4 = 0 then ((opRv 10 μ l0).bind fun _ => (f_X10_shutterPlays l0 l1 l5 μ).bind fun μ13 => f_X10_playBack_79 (f_X10_playBack_48 n) l0 l1 l4 l5 l6 μ13) else ((opRv 10 μ l0).bind fun _ => (f_X10_openerPlays l0 l1 l5 μ).bind fun μ10 => f_X10_playBack_79 (f_X10_playBack_48 n) l0 l1 l4 l5 l6 μ10))
set_option maxRecDepth 100000 in
def f_X10_playBack_11 : Nat → Nat → Nat → Int32 → Int32 → Int32 → Int32 → Int32 → dtM → Option dtM
  | 0, _, _, _, _, _, _, _, _ => none
  | n + 1, l0, l1, l2, l3, l4, l5, l6, μ =>
    if l5 ≤ l6 then ((some (l3 - (1 : Int32))).bind fun x4 => f_X10_playBack_48 dtFuel l0 l1 l4 l5 x4 μ) else ((opGR 10 0 μ l0).bind fun x6 => opCall (f_X10_reach l1 l6 ((1 : Int32) <<< (l2 &&& 31)) μ) fun x10 μ8 => opCall (f_J6_bitCount_0f7a4 x10 μ8) fun x13 μ11 => (opSI μ11 x6 l6 x13).bind fun μ14 => f_X10_playBack_11 n l0 l1 l2 l3 l4 l5 (l6 + 1) μ14)
set_option maxRecDepth 100000 in
def f_X10_playBack (p0 : Nat) (p1 : Nat) (p2 : Int32) (p3 : Int32) (p4 : Int32) (μ : dtM) : Option dtM :=
  (opGI 3 1 μ p1).bind fun x1 => (some ((1 : Int32) <<< (x1 &&& 31))).bind fun x3 => f_X10_playBack_11 dtFuel p0 p1 p2 p3 p4 x3 (0 : Int32) μ
set_option maxRecDepth 100000 in
theorem c_X10_playBack_79 {F : dtM} (k48 : Nat → Nat → Int32 → Int32 → Int32 → dtM → Option dtM) (hk48 : ∀ (l0 : Nat) (l1 : Nat) (l4 : Int32) (l5 : Int32) (l6 : Int32) (μ : dtM), k48 l0 l1 l4 l5 l6 μ = some F → dtW yX10_playBack cX10_playBack 7 (none) 4 (none) F 48 [some (.ref l0), some (.ref l1), none, none, some (.int l4), some (.int l5), some (.int l6)] [] μ) (l0 : Nat) (l1 : Nat) (l4 : Int32) (l5 : Int32) (l6 : Int32) (μ : dtM) (h : f_X10_playBack_79 k48 l0 l1 l4 l5 l6 μ = some F) : dtW yX10_playBack cX10_playBack 7 (none) 4 (none) F 79 [some (.ref l0), some (.ref l1), none, none, some (.int l4), some (.int l5), some (.int l6)] [] μ := by
  rw [f_X10_playBack_79] at h
  refine dr_iinc l6 (l6 + (-1)) [some (.ref l0), some (.ref l1), none, none, some (.int l4), some (.int l5), some (.int (l6 + (-1)))] dX10_playBack_79 rfl rfl rfl rfl rfl ?_
  refine dr_goto 48 dX10_playBack_82 (by decide) ?_
  exact hk48 l0 l1 l4 l5 (l6 + (-1)) μ h
set_option maxRecDepth 100000 in
theorem c_X10_playBack_48 {F : dtM} : ∀ (n : Nat) (l0 : Nat) (l1 : Nat) (l4 : Int32) (l5 : Int32) (l6 : Int32) (μ : dtM), f_X10_playBack_48 n l0 l1 l4 l5 l6 μ = some F → dtW yX10_playBack cX10_playBack 7 (none) 4 (none) F 48 [some (.ref l0), some (.ref l1), none, none, some (.int l4), some (.int l5), some (.int l6)] [] μ := by
  intro n
  induction n with
  | zero => intro l0 l1 l4 l5 l6 μ h; cases h
  | succ n ih =>
    intro l0 l1 l4 l5 l6 μ h
    have h := (show f_X10_playBack_48 (n + 1) l0 l1 l4 l5 l6 μ = some _ from h)
    rw [f_X10_playBack_48] at h
    refine dr_iload l6 dX10_playBack_48 rfl ?_
    refine dr_iload l4 dX10_playBack_50 rfl ?_
    obtain ⟨ht2, hf3⟩ := dtIte h
    refine dr_icmp_lt 85 dX10_playBack_52 (by decide) (fun hc1 => ?_) (fun hc1 => ?_)
    · have h := ht2 hc1
      cases h
      exact dr_return dX10_playBack_85
    · have h := hf3 hc1
      refine dr_iload l6 dX10_playBack_55 rfl ?_
      refine dr_iconst (2 : Int32) dX10_playBack_57 (by decide) ?_
      obtain ⟨x4, e5, h⟩ := dtBind h
      refine dr_irem_n x4 dX10_playBack_58 e5 ?_
      obtain ⟨ht7, hf8⟩ := dtIte h
      refine dr_if_ne 72 dX10_playBack_59 (by decide) (fun hc6 => ?_) (fun hc6 => ?_)
      · have h := hf8 hc6
        refine dr_aload_n l0 dX10_playBack_72 rfl ?_
        refine dr_aload_n l1 dX10_playBack_73 rfl ?_
        refine dr_iload l5 dX10_playBack_74 rfl ?_
        obtain ⟨_, hb9, h⟩ := dtBind h
        obtain ⟨μ10, e11, h⟩ := dtBind h
        refine dr_callV_v (S0 := []) [.ref l1, .int l5] μ10 dX10_playBack_76 (c_X10_openerPlays l0 l1 l5 μ e11) mf_X10_openerPlays wt_1229 ws_44 wt_1227 rfl (dtRv hb9) (by decide) rfl (Nat.le_of_ble_eq_true rfl) (Nat.le_of_ble_eq_true rfl) rfl ?_
        exact c_X10_playBack_79 (f_X10_playBack_48 n) ih l0 l1 l4 l5 l6 μ10 h
      · have h := ht7 hc6
        refine dr_aload_n l0 dX10_playBack_62 rfl ?_
        refine dr_aload_n l1 dX10_playBack_63 rfl ?_
        refine dr_iload l5 dX10_playBack_64 rfl ?_
        obtain ⟨_, hb12, h⟩ := dtBind h
        obtain ⟨μ13, e14, h⟩ := dtBind h
        refine dr_callV_v (S0 := []) [.ref l1, .int l5] μ13 dX10_playBack_66 (c_X10_shutterPlays l0 l1 l5 μ e14) mf_X10_shutterPlays wt_1224 ws_43 wt_1222 rfl (dtRv hb12) (by decide) rfl (Nat.le_of_ble_eq_true rfl) (Nat.le_of_ble_eq_true rfl) rfl ?_
        refine dr_goto 79 dX10_playBack_69 (by decide) ?_
        exact c_X10_playBack_79 (f_X10_playBack_48 n) ih l0 l1 l4 l5 l6 μ13 h
set_option maxRecDepth 100000 in
theorem c_X10_playBack_11 {F : dtM} : ∀ (n : Nat) (l0 : Nat) (l1 : Nat) (l2 : Int32) (l3 : Int32) (l4 : Int32) (l5 : Int32) (l6 : Int32) (μ : dtM), f_X10_playBack_11 n l0 l1 l2 l3 l4 l5 l6 μ = some F → dtW yX10_playBack cX10_playBack 7 (none) 4 (none) F 11 [some (.ref l0), some (.ref l1), some (.int l2), some (.int l3), some (.int l4), some (.int l5), some (.int l6)] [] μ := by
  intro n
  induction n with
  | zero => intro l0 l1 l2 l3 l4 l5 l6 μ h; cases h
  | succ n ih =>
    intro l0 l1 l2 l3 l4 l5 l6 μ h
    have h := (show f_X10_playBack_11 (n + 1) l0 l1 l2 l3 l4 l5 l6 μ = some _ from h)
    rw [f_X10_playBack_11] at h
    refine dr_iload l6 dX10_playBack_11 rfl ?_
    refine dr_iload l5 dX10_playBack_13 rfl ?_
    obtain ⟨ht2, hf3⟩ := dtIte h
    refine dr_icmp_ge 43 dX10_playBack_15 (by decide) (fun hc1 => ?_) (fun hc1 => ?_)
    · have h := ht2 hc1
      refine dr_iload_n l3 dX10_playBack_43 rfl ?_
      refine dr_iconst (1 : Int32) dX10_playBack_44 (by decide) ?_
      refine dr_isub dX10_playBack_45 ?_
      obtain ⟨x4, e5, h⟩ := dtBind h
      refine dr_nmi e5 ?_
      refine dr_istore [some (.ref l0), some (.ref l1), some (.int l2), some (.int l3), some (.int l4), some (.int l5), some (.int x4)] dX10_playBack_46 rfl rfl rfl ?_
      refine dr_mask [true, true, false, false, true, true, true] [some (.ref l0), some (.ref l1), none, none, some (.int l4), some (.int l5), some (.int x4)] rfl ?_
      exact c_X10_playBack_48 dtFuel l0 l1 l4 l5 x4 μ h
    · have h := hf3 hc1
      refine dr_aload_n l0 dX10_playBack_18 rfl ?_
      obtain ⟨x6, e7, h⟩ := dtBind h
      refine dr_getR x6 dX10_playBack_19 fl_RX10_9 e7 ?_
      refine dr_iload l6 dX10_playBack_22 rfl ?_
      refine dr_aload_n l1 dX10_playBack_24 rfl ?_
      refine dr_iload l6 dX10_playBack_25 rfl ?_
      refine dr_iconst (1 : Int32) dX10_playBack_27 (by decide) ?_
      refine dr_iload_n l2 dX10_playBack_28 rfl ?_
      refine dr_ishl dX10_playBack_29 ?_
      obtain ⟨x10, μ8, e9, h⟩ := dtCall h
      refine dr_callS_i (S0 := [.int l6, .ref x6]) [.ref l1, .int l6, .int ((1 : Int32) <<< (l2 &&& 31))] x10 μ8 dX10_playBack_30 (c_X10_reach l1 l6 ((1 : Int32) <<< (l2 &&& 31)) μ e9) mf_X10_reach wt_1037 wt_1186 rfl (Nat.le_of_ble_eq_true rfl) (Nat.le_of_ble_eq_true rfl) rfl ?_
      obtain ⟨x13, μ11, e12, h⟩ := dtCall h
      refine dr_callS_i (S0 := [.int l6, .ref x6]) [.int x10] x13 μ11 dX10_playBack_33 (c_J6_bitCount_0f7a4 x10 μ8 e12) mf_J6_bitCount_0f7a4 wt_929 wt_1185 rfl (Nat.le_of_ble_eq_true rfl) (Nat.le_of_ble_eq_true rfl) rfl ?_
      obtain ⟨μ14, e15, h⟩ := dtBind h
      refine dr_iastore μ14 dX10_playBack_36 e15 ?_
      refine dr_iinc l6 (l6 + 1) [some (.ref l0), some (.ref l1), some (.int l2), some (.int l3), some (.int l4), some (.int l5), some (.int (l6 + 1))] dX10_playBack_37 rfl rfl rfl rfl rfl ?_
      refine dr_goto 11 dX10_playBack_40 (by decide) ?_
      exact ih l0 l1 l2 l3 l4 l5 (l6 + 1) μ14 h
set_option maxRecDepth 100000 in
theorem c_X10_playBack {F : dtM} (p0 : Nat) (p1 : Nat) (p2 : Int32) (p3 : Int32) (p4 : Int32) (μ : dtM) (h : f_X10_playBack p0 p1 p2 p3 p4 μ = some F) : dtMet yX10_playBack cX10_playBack 7 (none) 4 [.ref p0, .ref p1, .int p2, .int p3, .int p4] μ (none) F := by
  refine dtMet.of (by decide +kernel) (Nat.le_of_ble_eq_true rfl) (show dtW yX10_playBack cX10_playBack 7 (none) 4 (none) F 0 [some (.ref p0), some (.ref p1), some (.int p2), some (.int p3), some (.int p4)] [] μ from ?_)
  rw [f_X10_playBack] at h
  refine dr_iconst (1 : Int32) dX10_playBack_0 (by decide) ?_
  refine dr_aload_n p1 dX10_playBack_1 rfl ?_
  obtain ⟨x1, e2, h⟩ := dtBind h
  refine dr_getI x1 dX10_playBack_2 fl_RX10_15 e2 ?_
  refine dr_ishl dX10_playBack_5 ?_
  obtain ⟨x3, e4, h⟩ := dtBind h
  refine dr_nmi e4 ?_
  refine dr_istore [some (.ref p0), some (.ref p1), some (.int p2), some (.int p3), some (.int p4), some (.int x3)] dX10_playBack_6 rfl rfl rfl ?_
  refine dr_iconst (0 : Int32) dX10_playBack_8 (by decide) ?_
  refine dr_istore [some (.ref p0), some (.ref p1), some (.int p2), some (.int p3), some (.int p4), some (.int x3), some (.int (0 : Int32))] dX10_playBack_9 rfl rfl rfl ?_
  exact c_X10_playBack_11 dtFuel p0 p1 p2 p3 p4 x3 (0 : Int32) μ h
/-! X10_outcome -/
theorem dX10_outcome_0 : decode cX10_outcome 0 = .ok (.aload_n 0, 1) := by decide +kernel
theorem dX10_outcome_1 : decode cX10_outcome 1 = .ok (.aload_n 1, 1) := by decide +kernel
theorem dX10_outcome_2 : decode cX10_outcome 2 = .ok (.iload_n 2, 1) := by decide +kernel
theorem dX10_outcome_3 : decode cX10_outcome 3 = .ok (.iload_n 3, 1) := by decide +kernel
theorem dX10_outcome_4 : decode cX10_outcome 4 = .ok (.iconst 0, 1) := by decide +kernel
theorem dX10_outcome_5 : decode cX10_outcome 5 = .ok (.invokevirtual 59, 3) := by decide +kernel
theorem dX10_outcome_8 : decode cX10_outcome 8 = .ok (.aload_n 0, 1) := by decide +kernel
theorem dX10_outcome_9 : decode cX10_outcome 9 = .ok (.getfield 9, 3) := by decide +kernel
theorem dX10_outcome_12 : decode cX10_outcome 12 = .ok (.aload_n 1, 1) := by decide +kernel
theorem dX10_outcome_13 : decode cX10_outcome 13 = .ok (.getfield 33, 3) := by decide +kernel
theorem dX10_outcome_16 : decode cX10_outcome 16 = .ok (.iaload, 1) := by decide +kernel
theorem dX10_outcome_17 : decode cX10_outcome 17 = .ok (.ireturn, 1) := by decide +kernel
set_option maxRecDepth 100000 in
def f_X10_outcome (p0 : Nat) (p1 : Nat) (p2 : Int32) (p3 : Int32) (μ : dtM) : Option (Int32 × dtM) :=
  (opRv 10 μ p0).bind fun _ => (f_X10_playBack p0 p1 p2 p3 (0 : Int32) μ).bind fun μ2 => (opGR 10 0 μ2 p0).bind fun x4 => (opGI 3 5 μ2 p1).bind fun x6 => (opLI 1 μ2 x4 x6).bind fun x8 => some (x8, μ2)
set_option maxRecDepth 100000 in
theorem c_X10_outcome {r : Int32} {F : dtM} (p0 : Nat) (p1 : Nat) (p2 : Int32) (p3 : Int32) (μ : dtM) (h : f_X10_outcome p0 p1 p2 p3 μ = some (r, F)) : dtMet yX10_outcome cX10_outcome 4 (some .int) 5 [.ref p0, .ref p1, .int p2, .int p3] μ (some (.int r)) F := by
  refine dtMet.of (by decide +kernel) (Nat.le_of_ble_eq_true rfl) (show dtW yX10_outcome cX10_outcome 4 (some .int) 5 (some (.int r)) F 0 [some (.ref p0), some (.ref p1), some (.int p2), some (.int p3)] [] μ from ?_)
  rw [f_X10_outcome] at h
  refine dr_aload_n p0 dX10_outcome_0 rfl ?_
  refine dr_aload_n p1 dX10_outcome_1 rfl ?_
  refine dr_iload_n p2 dX10_outcome_2 rfl ?_
  refine dr_iload_n p3 dX10_outcome_3 rfl ?_
  refine dr_iconst (0 : Int32) dX10_outcome_4 (by decide) ?_
  obtain ⟨_, hb1, h⟩ := dtBind h
  obtain ⟨μ2, e3, h⟩ := dtBind h
  refine dr_callV_v (S0 := []) [.ref p1, .int p2, .int p3, .int (0 : Int32)] μ2 dX10_outcome_5 (c_X10_playBack p0 p1 p2 p3 (0 : Int32) μ e3) mf_X10_playBack wt_1220 ws_42 wt_1218 rfl (dtRv hb1) (by decide) rfl (Nat.le_of_ble_eq_true rfl) (Nat.le_of_ble_eq_true rfl) rfl ?_
  refine dr_aload_n p0 dX10_outcome_8 rfl ?_
  obtain ⟨x4, e5, h⟩ := dtBind h
  refine dr_getR x4 dX10_outcome_9 fl_RX10_9 e5 ?_
  refine dr_aload_n p1 dX10_outcome_12 rfl ?_
  obtain ⟨x6, e7, h⟩ := dtBind h
  refine dr_getI x6 dX10_outcome_13 fl_RX10_33 e7 ?_
  obtain ⟨x8, e9, h⟩ := dtBind h
  refine dr_iaload x8 dX10_outcome_16 e9 ?_
  cases h
  exact dr_ireturn dX10_outcome_17 rfl
/-! X10_bestMove -/
theorem dX10_bestMove_0 : decode cX10_bestMove 0 = .ok (.aload_n 0, 1) := by decide +kernel
theorem dX10_bestMove_1 : decode cX10_bestMove 1 = .ok (.aload_n 1, 1) := by decide +kernel
theorem dX10_bestMove_2 : decode cX10_bestMove 2 = .ok (.iload_n 2, 1) := by decide +kernel
theorem dX10_bestMove_3 : decode cX10_bestMove 3 = .ok (.iload_n 3, 1) := by decide +kernel
theorem dX10_bestMove_4 : decode cX10_bestMove 4 = .ok (.iconst 1, 1) := by decide +kernel
theorem dX10_bestMove_5 : decode cX10_bestMove 5 = .ok (.invokevirtual 59, 3) := by decide +kernel
theorem dX10_bestMove_8 : decode cX10_bestMove 8 = .ok (.aload_n 0, 1) := by decide +kernel
theorem dX10_bestMove_9 : decode cX10_bestMove 9 = .ok (.getfield 9, 3) := by decide +kernel
theorem dX10_bestMove_12 : decode cX10_bestMove 12 = .ok (.aload_n 1, 1) := by decide +kernel
theorem dX10_bestMove_13 : decode cX10_bestMove 13 = .ok (.getfield 33, 3) := by decide +kernel
theorem dX10_bestMove_16 : decode cX10_bestMove 16 = .ok (.iaload, 1) := by decide +kernel
theorem dX10_bestMove_17 : decode cX10_bestMove 17 = .ok (.istore 4, 2) := by decide +kernel
theorem dX10_bestMove_19 : decode cX10_bestMove 19 = .ok (.iconst (-1), 1) := by decide +kernel
theorem dX10_bestMove_20 : decode cX10_bestMove 20 = .ok (.istore 5, 2) := by decide +kernel
theorem dX10_bestMove_22 : decode cX10_bestMove 22 = .ok (.iconst 0, 1) := by decide +kernel
theorem dX10_bestMove_23 : decode cX10_bestMove 23 = .ok (.istore 6, 2) := by decide +kernel
theorem dX10_bestMove_25 : decode cX10_bestMove 25 = .ok (.iload 6, 2) := by decide +kernel
theorem dX10_bestMove_27 : decode cX10_bestMove 27 = .ok (.aload_n 1, 1) := by decide +kernel
theorem dX10_bestMove_28 : decode cX10_bestMove 28 = .ok (.getfield 15, 3) := by decide +kernel
theorem dX10_bestMove_31 : decode cX10_bestMove 31 = .ok (.if_icmp .ge 62, 3) := by decide +kernel
theorem dX10_bestMove_34 : decode cX10_bestMove 34 = .ok (.aload_n 1, 1) := by decide +kernel
theorem dX10_bestMove_35 : decode cX10_bestMove 35 = .ok (.iload 6, 2) := by decide +kernel
theorem dX10_bestMove_37 : decode cX10_bestMove 37 = .ok (.invokevirtual 63, 3) := by decide +kernel
theorem dX10_bestMove_40 : decode cX10_bestMove 40 = .ok (.ifCond .eq 47, 3) := by decide +kernel
theorem dX10_bestMove_43 : decode cX10_bestMove 43 = .ok (.aload_n 0, 1) := by decide +kernel
theorem dX10_bestMove_44 : decode cX10_bestMove 44 = .ok (.getfield 9, 3) := by decide +kernel
theorem dX10_bestMove_47 : decode cX10_bestMove 47 = .ok (.aload_n 1, 1) := by decide +kernel
theorem dX10_bestMove_48 : decode cX10_bestMove 48 = .ok (.getfield 33, 3) := by decide +kernel
theorem dX10_bestMove_51 : decode cX10_bestMove 51 = .ok (.iconst 1, 1) := by decide +kernel
theorem dX10_bestMove_52 : decode cX10_bestMove 52 = .ok (.iload 6, 2) := by decide +kernel
theorem dX10_bestMove_54 : decode cX10_bestMove 54 = .ok (.ishl, 1) := by decide +kernel
theorem dX10_bestMove_55 : decode cX10_bestMove 55 = .ok (.ixor, 1) := by decide +kernel
theorem dX10_bestMove_56 : decode cX10_bestMove 56 = .ok (.iaload, 1) := by decide +kernel
theorem dX10_bestMove_57 : decode cX10_bestMove 57 = .ok (.istore 7, 2) := by decide +kernel
theorem dX10_bestMove_59 : decode cX10_bestMove 59 = .ok (.iload 7, 2) := by decide +kernel
theorem dX10_bestMove_61 : decode cX10_bestMove 61 = .ok (.iload 4, 2) := by decide +kernel
theorem dX10_bestMove_63 : decode cX10_bestMove 63 = .ok (.if_icmp .lt 16, 3) := by decide +kernel
theorem dX10_bestMove_66 : decode cX10_bestMove 66 = .ok (.iload 7, 2) := by decide +kernel
theorem dX10_bestMove_68 : decode cX10_bestMove 68 = .ok (.iload 4, 2) := by decide +kernel
theorem dX10_bestMove_70 : decode cX10_bestMove 70 = .ok (.if_icmp .ne 17, 3) := by decide +kernel
theorem dX10_bestMove_73 : decode cX10_bestMove 73 = .ok (.iload 5, 2) := by decide +kernel
theorem dX10_bestMove_75 : decode cX10_bestMove 75 = .ok (.iconst (-1), 1) := by decide +kernel
theorem dX10_bestMove_76 : decode cX10_bestMove 76 = .ok (.if_icmp .ne 11, 3) := by decide +kernel
theorem dX10_bestMove_79 : decode cX10_bestMove 79 = .ok (.iload 7, 2) := by decide +kernel
theorem dX10_bestMove_81 : decode cX10_bestMove 81 = .ok (.istore 4, 2) := by decide +kernel
theorem dX10_bestMove_83 : decode cX10_bestMove 83 = .ok (.iload 6, 2) := by decide +kernel
theorem dX10_bestMove_85 : decode cX10_bestMove 85 = .ok (.istore 5, 2) := by decide +kernel
theorem dX10_bestMove_87 : decode cX10_bestMove 87 = .ok (.iinc 6 1, 3) := by decide +kernel
theorem dX10_bestMove_90 : decode cX10_bestMove 90 = .ok (.goto (-65), 3) := by decide +kernel
theorem dX10_bestMove_93 : decode cX10_bestMove 93 = .ok (.iload 5, 2) := by decide +kernel
theorem dX10_bestMove_95 : decode cX10_bestMove 95 = .ok (.ireturn, 1) := by decide +kernel
set_option maxRecDepth 100000 in
def f_X10_bestMove_87 (k25 : Nat → Nat → Int32 → Int32 → Int32 → dtM → Option (Int32 × dtM)) (l0 : Nat) (l1 : Nat) (l4 : Int32) (l5 : Int32) (l6 : Int32) (μ : dtM) : Option (Int32 × dtM) :=
  k25 l0 l1 l4 l5 (l6 + 1) μ
set_option maxRecDepth 100000 in
def f_X10_bestMove_79 (k25 : Nat → Nat → Int32 → Int32 → Int32 → dtM → Option (Int32 × dtM)) (l0 : Nat) (l1 : Nat) (l6 : Int32) (l7 : Int32) (μ : dtM) : Option (Int32 × dtM) :=
  f_X10_bestMove_87 k25 l0 l1 l7 l6 l6 μ
set_option maxRecDepth 100000 in
def f_X10_bestMove_25 : Nat → Nat → Nat → Int32 → Int32 → Int32 → dtM → Option (Int32 × dtM)
  | 0, _, _, _, _, _, _ => none
  | n + 1, l0, l1, l4, l5, l6, μ =>
    (opGI 3 1 μ l1).bind fun x1 => if x1 ≤ l6 then (some (l5, μ)) else ((opRv 3 μ l1).bind fun _ => opCall (f_X3_isOpen l1 l6 μ) fun x9 μ7 => if x9 = 0 then (f_X10_bestMove_87 (f_X10_bestMove_25 n) l0 l1 l4 l5 l6 μ7) else ((opGR 10 0 μ7 l0).bind fun x13 => (opGI 3 5 μ7 l1).bind fun x15 => (opLI 1 μ7 x13 (x15 ^^^ ((1 : Int32) <<< (l6 &&& 31)))).bind fun x17 => if x17 < l4 then (f_X10_bestMove_79 (f_X10_bestMove_25 n) l0 l1 l6 x17 μ7) else (if x17 = l4 then (if l5 = (-1 : Int32) then (f_X10_bestMove_79 (f_X10_bestMove_25 n) l0 l1 l6 x17 μ7) else (f_X10_bestMove_87 (f_X10_bestMove_25 n) l0 l1 l4 l5 l6 μ7)) else (f_X10_bestMove_87 (f_X10_bestMove_25 n) l0 l1 l4 l5 l6 μ7))))
set_option maxRecDepth 100000 in
def f_X10_bestMove (p0 : Nat) (p1 : Nat) (p2 : Int32) (p3 : Int32) (μ : dtM) : Option (Int32 × dtM) :=
  (opRv 10 μ p0).bind fun _ => (f_X10_playBack p0 p1 p2 p3 (1 : Int32) μ).bind fun μ2 => (opGR 10 0 μ2 p0).bind fun x4 => (opGI 3 5 μ2 p1).bind fun x6 => (opLI 1 μ2 x4 x6).bind fun x8 => f_X10_bestMove_25 dtFuel p0 p1 x8 (-1 : Int32) (0 : Int32) μ2
set_option maxRecDepth 100000 in
theorem c_X10_bestMove_87 {r : Int32} {F : dtM} (k25 : Nat → Nat → Int32 → Int32 → Int32 → dtM → Option (Int32 × dtM)) (hk25 : ∀ (l0 : Nat) (l1 : Nat) (l4 : Int32) (l5 : Int32) (l6 : Int32) (μ : dtM), k25 l0 l1 l4 l5 l6 μ = some (r, F) → dtW yX10_bestMove cX10_bestMove 8 (some .int) 5 (some (.int r)) F 25 [some (.ref l0), some (.ref l1), none, none, some (.int l4), some (.int l5), some (.int l6)] [] μ) (l0 : Nat) (l1 : Nat) (l4 : Int32) (l5 : Int32) (l6 : Int32) (μ : dtM) (h : f_X10_bestMove_87 k25 l0 l1 l4 l5 l6 μ = some (r, F)) : dtW yX10_bestMove cX10_bestMove 8 (some .int) 5 (some (.int r)) F 87 [some (.ref l0), some (.ref l1), none, none, some (.int l4), some (.int l5), some (.int l6)] [] μ := by
  rw [f_X10_bestMove_87] at h
  refine dr_iinc l6 (l6 + 1) [some (.ref l0), some (.ref l1), none, none, some (.int l4), some (.int l5), some (.int (l6 + 1))] dX10_bestMove_87 rfl rfl rfl rfl rfl ?_
  refine dr_goto 25 dX10_bestMove_90 (by decide) ?_
  exact hk25 l0 l1 l4 l5 (l6 + 1) μ h
set_option maxRecDepth 100000 in
theorem c_X10_bestMove_79 {r : Int32} {F : dtM} (k25 : Nat → Nat → Int32 → Int32 → Int32 → dtM → Option (Int32 × dtM)) (hk25 : ∀ (l0 : Nat) (l1 : Nat) (l4 : Int32) (l5 : Int32) (l6 : Int32) (μ : dtM), k25 l0 l1 l4 l5 l6 μ = some (r, F) → dtW yX10_bestMove cX10_bestMove 8 (some .int) 5 (some (.int r)) F 25 [some (.ref l0), some (.ref l1), none, none, some (.int l4), some (.int l5), some (.int l6)] [] μ) (l0 : Nat) (l1 : Nat) (l6 : Int32) (l7 : Int32) (μ : dtM) (h : f_X10_bestMove_79 k25 l0 l1 l6 l7 μ = some (r, F)) : dtW yX10_bestMove cX10_bestMove 8 (some .int) 5 (some (.int r)) F 79 [some (.ref l0), some (.ref l1), none, none, none, none, some (.int l6), some (.int l7)] [] μ := by
  rw [f_X10_bestMove_79] at h
  refine dr_iload l7 dX10_bestMove_79 rfl ?_
  refine dr_istore [some (.ref l0), some (.ref l1), none, none, some (.int l7), none, some (.int l6), some (.int l7)] dX10_bestMove_81 rfl rfl rfl ?_
  refine dr_iload l6 dX10_bestMove_83 rfl ?_
  refine dr_istore [some (.ref l0), some (.ref l1), none, none, some (.int l7), some (.int l6), some (.int l6), some (.int l7)] dX10_bestMove_85 rfl rfl rfl ?_
  refine dr_mask [true, true, false, false, true, true, true] [some (.ref l0), some (.ref l1), none, none, some (.int l7), some (.int l6), some (.int l6)] rfl ?_
  exact c_X10_bestMove_87 k25 hk25 l0 l1 l7 l6 l6 μ h
set_option maxRecDepth 100000 in
theorem c_X10_bestMove_25 {r : Int32} {F : dtM} : ∀ (n : Nat) (l0 : Nat) (l1 : Nat) (l4 : Int32) (l5 : Int32) (l6 : Int32) (μ : dtM), f_X10_bestMove_25 n l0 l1 l4 l5 l6 μ = some (r, F) → dtW yX10_bestMove cX10_bestMove 8 (some .int) 5 (some (.int r)) F 25 [some (.ref l0), some (.ref l1), none, none, some (.int l4), some (.int l5), some (.int l6)] [] μ := by
  intro n
  induction n with
  | zero => intro l0 l1 l4 l5 l6 μ h; cases h
  | succ n ih =>
    intro l0 l1 l4 l5 l6 μ h
    have h := (show f_X10_bestMove_25 (n + 1) l0 l1 l4 l5 l6 μ = some _ from h)
    rw [f_X10_bestMove_25] at h
    refine dr_iload l6 dX10_bestMove_25 rfl ?_
    refine dr_aload_n l1 dX10_bestMove_27 rfl ?_
    obtain ⟨x1, e2, h⟩ := dtBind h
    refine dr_getI x1 dX10_bestMove_28 fl_RX10_15 e2 ?_
    obtain ⟨ht4, hf5⟩ := dtIte h
    refine dr_icmp_ge 93 dX10_bestMove_31 (by decide) (fun hc3 => ?_) (fun hc3 => ?_)
    · have h := ht4 hc3
      refine dr_iload l5 dX10_bestMove_93 rfl ?_
      cases h
      exact dr_ireturn dX10_bestMove_95 rfl
    · have h := hf5 hc3
      refine dr_aload_n l1 dX10_bestMove_34 rfl ?_
      refine dr_iload l6 dX10_bestMove_35 rfl ?_
      obtain ⟨_, hb6, h⟩ := dtBind h
      obtain ⟨x9, μ7, e8, h⟩ := dtCall h
      refine dr_callV_i (S0 := []) [.int l6] x9 μ7 dX10_bestMove_37 (c_X3_isOpen l1 l6 μ e8) mf_X3_isOpen wt_845 wt_846 wt_1240 rfl (dtRv hb6) (by decide) rfl (Nat.le_of_ble_eq_true rfl) (Nat.le_of_ble_eq_true rfl) rfl ?_
      obtain ⟨ht11, hf12⟩ := dtIte h
      refine dr_if_eq 87 dX10_bestMove_40 (by decide) (fun hc10 => ?_) (fun hc10 => ?_)
      · have h := ht11 hc10
        exact c_X10_bestMove_87 (f_X10_bestMove_25 n) ih l0 l1 l4 l5 l6 μ7 h
      · have h := hf12 hc10
        refine dr_aload_n l0 dX10_bestMove_43 rfl ?_
        obtain ⟨x13, e14, h⟩ := dtBind h
        refine dr_getR x13 dX10_bestMove_44 fl_RX10_9 e14 ?_
        refine dr_aload_n l1 dX10_bestMove_47 rfl ?_
        obtain ⟨x15, e16, h⟩ := dtBind h
        refine dr_getI x15 dX10_bestMove_48 fl_RX10_33 e16 ?_
        refine dr_iconst (1 : Int32) dX10_bestMove_51 (by decide) ?_
        refine dr_iload l6 dX10_bestMove_52 rfl ?_
        refine dr_ishl dX10_bestMove_54 ?_
        refine dr_ixor dX10_bestMove_55 ?_
        obtain ⟨x17, e18, h⟩ := dtBind h
        refine dr_iaload x17 dX10_bestMove_56 e18 ?_
        refine dr_istore [some (.ref l0), some (.ref l1), none, none, some (.int l4), some (.int l5), some (.int l6), some (.int x17)] dX10_bestMove_57 rfl rfl rfl ?_
        refine dr_iload x17 dX10_bestMove_59 rfl ?_
        refine dr_iload l4 dX10_bestMove_61 rfl ?_
        obtain ⟨ht20, hf21⟩ := dtIte h
        refine dr_icmp_lt 79 dX10_bestMove_63 (by decide) (fun hc19 => ?_) (fun hc19 => ?_)
        · have h := ht20 hc19
          refine dr_mask [true, true, false, false, false, false, true, true] [some (.ref l0), some (.ref l1), none, none, none, none, some (.int l6), some (.int x17)] rfl ?_
          exact c_X10_bestMove_79 (f_X10_bestMove_25 n) ih l0 l1 l6 x17 μ7 h
        · have h := hf21 hc19
          refine dr_iload x17 dX10_bestMove_66 rfl ?_
          refine dr_iload l4 dX10_bestMove_68 rfl ?_
          obtain ⟨ht23, hf24⟩ := dtIte h
          refine dr_icmp_ne 87 dX10_bestMove_70 (by decide) (fun hc22 => ?_) (fun hc22 => ?_)
          · have h := hf24 hc22
            refine dr_mask [true, true, false, false, true, true, true] [some (.ref l0), some (.ref l1), none, none, some (.int l4), some (.int l5), some (.int l6)] rfl ?_
            exact c_X10_bestMove_87 (f_X10_bestMove_25 n) ih l0 l1 l4 l5 l6 μ7 h
          · have h := ht23 hc22
            refine dr_iload l5 dX10_bestMove_73 rfl ?_
            refine dr_iconst (-1 : Int32) dX10_bestMove_75 (by decide) ?_
            obtain ⟨ht26, hf27⟩ := dtIte h
            refine dr_icmp_ne 87 dX10_bestMove_76 (by decide) (fun hc25 => ?_) (fun hc25 => ?_)
            · have h := hf27 hc25
              refine dr_mask [true, true, false, false, true, true, true] [some (.ref l0), some (.ref l1), none, none, some (.int l4), some (.int l5), some (.int l6)] rfl ?_
              exact c_X10_bestMove_87 (f_X10_bestMove_25 n) ih l0 l1 l4 l5 l6 μ7 h
            · have h := ht26 hc25
              refine dr_mask [true, true, false, false, false, false, true, true] [some (.ref l0), some (.ref l1), none, none, none, none, some (.int l6), some (.int x17)] rfl ?_
              exact c_X10_bestMove_79 (f_X10_bestMove_25 n) ih l0 l1 l6 x17 μ7 h
set_option maxRecDepth 100000 in
theorem c_X10_bestMove {r : Int32} {F : dtM} (p0 : Nat) (p1 : Nat) (p2 : Int32) (p3 : Int32) (μ : dtM) (h : f_X10_bestMove p0 p1 p2 p3 μ = some (r, F)) : dtMet yX10_bestMove cX10_bestMove 8 (some .int) 5 [.ref p0, .ref p1, .int p2, .int p3] μ (some (.int r)) F := by
  refine dtMet.of (by decide +kernel) (Nat.le_of_ble_eq_true rfl) (show dtW yX10_bestMove cX10_bestMove 8 (some .int) 5 (some (.int r)) F 0 [some (.ref p0), some (.ref p1), some (.int p2), some (.int p3)] [] μ from ?_)
  rw [f_X10_bestMove] at h
  refine dr_aload_n p0 dX10_bestMove_0 rfl ?_
  refine dr_aload_n p1 dX10_bestMove_1 rfl ?_
  refine dr_iload_n p2 dX10_bestMove_2 rfl ?_
  refine dr_iload_n p3 dX10_bestMove_3 rfl ?_
  refine dr_iconst (1 : Int32) dX10_bestMove_4 (by decide) ?_
  obtain ⟨_, hb1, h⟩ := dtBind h
  obtain ⟨μ2, e3, h⟩ := dtBind h
  refine dr_callV_v (S0 := []) [.ref p1, .int p2, .int p3, .int (1 : Int32)] μ2 dX10_bestMove_5 (c_X10_playBack p0 p1 p2 p3 (1 : Int32) μ e3) mf_X10_playBack wt_1220 ws_42 wt_1218 rfl (dtRv hb1) (by decide) rfl (Nat.le_of_ble_eq_true rfl) (Nat.le_of_ble_eq_true rfl) rfl ?_
  refine dr_aload_n p0 dX10_bestMove_8 rfl ?_
  obtain ⟨x4, e5, h⟩ := dtBind h
  refine dr_getR x4 dX10_bestMove_9 fl_RX10_9 e5 ?_
  refine dr_aload_n p1 dX10_bestMove_12 rfl ?_
  obtain ⟨x6, e7, h⟩ := dtBind h
  refine dr_getI x6 dX10_bestMove_13 fl_RX10_33 e7 ?_
  obtain ⟨x8, e9, h⟩ := dtBind h
  refine dr_iaload x8 dX10_bestMove_16 e9 ?_
  refine dr_istore [some (.ref p0), some (.ref p1), some (.int p2), some (.int p3), some (.int x8)] dX10_bestMove_17 rfl rfl rfl ?_
  refine dr_iconst (-1 : Int32) dX10_bestMove_19 (by decide) ?_
  refine dr_istore [some (.ref p0), some (.ref p1), some (.int p2), some (.int p3), some (.int x8), some (.int (-1 : Int32))] dX10_bestMove_20 rfl rfl rfl ?_
  refine dr_iconst (0 : Int32) dX10_bestMove_22 (by decide) ?_
  refine dr_istore [some (.ref p0), some (.ref p1), some (.int p2), some (.int p3), some (.int x8), some (.int (-1 : Int32)), some (.int (0 : Int32))] dX10_bestMove_23 rfl rfl rfl ?_
  refine dr_mask [true, true, false, false, true, true, true] [some (.ref p0), some (.ref p1), none, none, some (.int x8), some (.int (-1 : Int32)), some (.int (0 : Int32))] rfl ?_
  exact c_X10_bestMove_25 dtFuel p0 p1 x8 (-1 : Int32) (0 : Int32) μ2 h
/-! X11_init -/
theorem dX11_init_0 : decode cX11_init 0 = .ok (.aload_n 0, 1) := by decide +kernel
theorem dX11_init_1 : decode cX11_init 1 = .ok (.invokespecial 1, 3) := by decide +kernel
theorem dX11_init_4 : decode cX11_init 4 = .ok (.aload_n 0, 1) := by decide +kernel
theorem dX11_init_5 : decode cX11_init 5 = .ok (.iconst 0, 1) := by decide +kernel
theorem dX11_init_6 : decode cX11_init 6 = .ok (.putfield 7, 3) := by decide +kernel
theorem dX11_init_9 : decode cX11_init 9 = .ok (.aload_n 0, 1) := by decide +kernel
theorem dX11_init_10 : decode cX11_init 10 = .ok (.lconst 0, 1) := by decide +kernel
theorem dX11_init_11 : decode cX11_init 11 = .ok (.putfield 13, 3) := by decide +kernel
theorem dX11_init_14 : decode cX11_init 14 = .ok (.aload_n 0, 1) := by decide +kernel
theorem dX11_init_15 : decode cX11_init 15 = .ok (.lconst 1, 1) := by decide +kernel
theorem dX11_init_16 : decode cX11_init 16 = .ok (.putfield 17, 3) := by decide +kernel
theorem dX11_init_19 : decode cX11_init 19 = .ok (.aload_n 0, 1) := by decide +kernel
theorem dX11_init_20 : decode cX11_init 20 = .ok (.iconst 4, 1) := by decide +kernel
theorem dX11_init_21 : decode cX11_init 21 = .ok (.anewarray 20, 3) := by decide +kernel
theorem dX11_init_24 : decode cX11_init 24 = .ok (.putfield 22, 3) := by decide +kernel
theorem dX11_init_27 : decode cX11_init 27 = .ok (.iconst 0, 1) := by decide +kernel
theorem dX11_init_28 : decode cX11_init 28 = .ok (.istore_n 1, 1) := by decide +kernel
theorem dX11_init_29 : decode cX11_init 29 = .ok (.iload_n 1, 1) := by decide +kernel
theorem dX11_init_30 : decode cX11_init 30 = .ok (.iconst 4, 1) := by decide +kernel
theorem dX11_init_31 : decode cX11_init 31 = .ok (.if_icmp .ge 22, 3) := by decide +kernel
theorem dX11_init_34 : decode cX11_init 34 = .ok (.aload_n 0, 1) := by decide +kernel
theorem dX11_init_35 : decode cX11_init 35 = .ok (.getfield 22, 3) := by decide +kernel
theorem dX11_init_38 : decode cX11_init 38 = .ok (.iload_n 1, 1) := by decide +kernel
theorem dX11_init_39 : decode cX11_init 39 = .ok (.new 20, 3) := by decide +kernel
theorem dX11_init_42 : decode cX11_init 42 = .ok (.dup, 1) := by decide +kernel
theorem dX11_init_43 : decode cX11_init 43 = .ok (.invokespecial 26, 3) := by decide +kernel
theorem dX11_init_46 : decode cX11_init 46 = .ok (.aastore, 1) := by decide +kernel
theorem dX11_init_47 : decode cX11_init 47 = .ok (.iinc 1 1, 3) := by decide +kernel
theorem dX11_init_50 : decode cX11_init 50 = .ok (.goto (-21), 3) := by decide +kernel
theorem dX11_init_53 : decode cX11_init 53 = .ok (.aload_n 0, 1) := by decide +kernel
theorem dX11_init_54 : decode cX11_init 54 = .ok (.new 27, 3) := by decide +kernel
theorem dX11_init_57 : decode cX11_init 57 = .ok (.dup, 1) := by decide +kernel
theorem dX11_init_58 : decode cX11_init 58 = .ok (.invokespecial 29, 3) := by decide +kernel
theorem dX11_init_61 : decode cX11_init 61 = .ok (.putfield 30, 3) := by decide +kernel
theorem dX11_init_64 : decode cX11_init 64 = .ok (.aload_n 0, 1) := by decide +kernel
theorem dX11_init_65 : decode cX11_init 65 = .ok (.new 34, 3) := by decide +kernel
theorem dX11_init_68 : decode cX11_init 68 = .ok (.dup, 1) := by decide +kernel
theorem dX11_init_69 : decode cX11_init 69 = .ok (.invokespecial 36, 3) := by decide +kernel
theorem dX11_init_72 : decode cX11_init 72 = .ok (.putfield 37, 3) := by decide +kernel
theorem dX11_init_75 : decode cX11_init 75 = .ok (.aload_n 0, 1) := by decide +kernel
theorem dX11_init_76 : decode cX11_init 76 = .ok (.new 34, 3) := by decide +kernel
theorem dX11_init_79 : decode cX11_init 79 = .ok (.dup, 1) := by decide +kernel
theorem dX11_init_80 : decode cX11_init 80 = .ok (.invokespecial 36, 3) := by decide +kernel
theorem dX11_init_83 : decode cX11_init 83 = .ok (.putfield 41, 3) := by decide +kernel
theorem dX11_init_86 : decode cX11_init 86 = .ok (.aload_n 0, 1) := by decide +kernel
theorem dX11_init_87 : decode cX11_init 87 = .ok (.new 44, 3) := by decide +kernel
theorem dX11_init_90 : decode cX11_init 90 = .ok (.dup, 1) := by decide +kernel
theorem dX11_init_91 : decode cX11_init 91 = .ok (.invokespecial 46, 3) := by decide +kernel
theorem dX11_init_94 : decode cX11_init 94 = .ok (.putfield 47, 3) := by decide +kernel
theorem dX11_init_97 : decode cX11_init 97 = .ok (.aload_n 0, 1) := by decide +kernel
theorem dX11_init_98 : decode cX11_init 98 = .ok (.new 44, 3) := by decide +kernel
theorem dX11_init_101 : decode cX11_init 101 = .ok (.dup, 1) := by decide +kernel
theorem dX11_init_102 : decode cX11_init 102 = .ok (.invokespecial 46, 3) := by decide +kernel
theorem dX11_init_105 : decode cX11_init 105 = .ok (.putfield 51, 3) := by decide +kernel
theorem dX11_init_108 : decode cX11_init 108 = .ok (.aload_n 0, 1) := by decide +kernel
theorem dX11_init_109 : decode cX11_init 109 = .ok (.iconst 3, 1) := by decide +kernel
theorem dX11_init_110 : decode cX11_init 110 = .ok (.anewarray 34, 3) := by decide +kernel
theorem dX11_init_113 : decode cX11_init 113 = .ok (.putfield 54, 3) := by decide +kernel
theorem dX11_init_116 : decode cX11_init 116 = .ok (.aload_n 0, 1) := by decide +kernel
theorem dX11_init_117 : decode cX11_init 117 = .ok (.iconst 3, 1) := by decide +kernel
theorem dX11_init_118 : decode cX11_init 118 = .ok (.anewarray 44, 3) := by decide +kernel
theorem dX11_init_121 : decode cX11_init 121 = .ok (.putfield 58, 3) := by decide +kernel
theorem dX11_init_124 : decode cX11_init 124 = .ok (.iconst 0, 1) := by decide +kernel
theorem dX11_init_125 : decode cX11_init 125 = .ok (.istore_n 1, 1) := by decide +kernel
theorem dX11_init_126 : decode cX11_init 126 = .ok (.iload_n 1, 1) := by decide +kernel
theorem dX11_init_127 : decode cX11_init 127 = .ok (.iconst 3, 1) := by decide +kernel
theorem dX11_init_128 : decode cX11_init 128 = .ok (.if_icmp .ge 35, 3) := by decide +kernel
theorem dX11_init_131 : decode cX11_init 131 = .ok (.aload_n 0, 1) := by decide +kernel
theorem dX11_init_132 : decode cX11_init 132 = .ok (.getfield 54, 3) := by decide +kernel
theorem dX11_init_135 : decode cX11_init 135 = .ok (.iload_n 1, 1) := by decide +kernel
theorem dX11_init_136 : decode cX11_init 136 = .ok (.new 34, 3) := by decide +kernel
theorem dX11_init_139 : decode cX11_init 139 = .ok (.dup, 1) := by decide +kernel
theorem dX11_init_140 : decode cX11_init 140 = .ok (.invokespecial 36, 3) := by decide +kernel
theorem dX11_init_143 : decode cX11_init 143 = .ok (.aastore, 1) := by decide +kernel
theorem dX11_init_144 : decode cX11_init 144 = .ok (.aload_n 0, 1) := by decide +kernel
theorem dX11_init_145 : decode cX11_init 145 = .ok (.getfield 58, 3) := by decide +kernel
theorem dX11_init_148 : decode cX11_init 148 = .ok (.iload_n 1, 1) := by decide +kernel
theorem dX11_init_149 : decode cX11_init 149 = .ok (.new 44, 3) := by decide +kernel
theorem dX11_init_152 : decode cX11_init 152 = .ok (.dup, 1) := by decide +kernel
theorem dX11_init_153 : decode cX11_init 153 = .ok (.invokespecial 46, 3) := by decide +kernel
theorem dX11_init_156 : decode cX11_init 156 = .ok (.aastore, 1) := by decide +kernel
theorem dX11_init_157 : decode cX11_init 157 = .ok (.iinc 1 1, 3) := by decide +kernel
theorem dX11_init_160 : decode cX11_init 160 = .ok (.goto (-34), 3) := by decide +kernel
theorem dX11_init_163 : decode cX11_init 163 = .ok (.aload_n 0, 1) := by decide +kernel
theorem dX11_init_164 : decode cX11_init 164 = .ok (.iconst 0, 1) := by decide +kernel
theorem dX11_init_165 : decode cX11_init 165 = .ok (.putfield 62, 3) := by decide +kernel
theorem dX11_init_168 : decode cX11_init 168 = .ok (.aload_n 0, 1) := by decide +kernel
theorem dX11_init_169 : decode cX11_init 169 = .ok (.new 65, 3) := by decide +kernel
theorem dX11_init_172 : decode cX11_init 172 = .ok (.dup, 1) := by decide +kernel
theorem dX11_init_173 : decode cX11_init 173 = .ok (.invokespecial 67, 3) := by decide +kernel
theorem dX11_init_176 : decode cX11_init 176 = .ok (.putfield 68, 3) := by decide +kernel
theorem dX11_init_179 : decode cX11_init 179 = .ok (.aload_n 0, 1) := by decide +kernel
theorem dX11_init_180 : decode cX11_init 180 = .ok (.new 72, 3) := by decide +kernel
theorem dX11_init_183 : decode cX11_init 183 = .ok (.dup, 1) := by decide +kernel
theorem dX11_init_184 : decode cX11_init 184 = .ok (.invokespecial 74, 3) := by decide +kernel
theorem dX11_init_187 : decode cX11_init 187 = .ok (.putfield 75, 3) := by decide +kernel
theorem dX11_init_190 : decode cX11_init 190 = .ok (.aload_n 0, 1) := by decide +kernel
theorem dX11_init_191 : decode cX11_init 191 = .ok (.new 79, 3) := by decide +kernel
theorem dX11_init_194 : decode cX11_init 194 = .ok (.dup, 1) := by decide +kernel
theorem dX11_init_195 : decode cX11_init 195 = .ok (.invokespecial 81, 3) := by decide +kernel
theorem dX11_init_198 : decode cX11_init 198 = .ok (.putfield 82, 3) := by decide +kernel
theorem dX11_init_201 : decode cX11_init 201 = .ok (.aload_n 0, 1) := by decide +kernel
theorem dX11_init_202 : decode cX11_init 202 = .ok (.new 86, 3) := by decide +kernel
theorem dX11_init_205 : decode cX11_init 205 = .ok (.dup, 1) := by decide +kernel
theorem dX11_init_206 : decode cX11_init 206 = .ok (.invokespecial 88, 3) := by decide +kernel
theorem dX11_init_209 : decode cX11_init 209 = .ok (.putfield 89, 3) := by decide +kernel
theorem dX11_init_212 : decode cX11_init 212 = .ok (.aload_n 0, 1) := by decide +kernel
theorem dX11_init_213 : decode cX11_init 213 = .ok (.new 93, 3) := by decide +kernel
theorem dX11_init_216 : decode cX11_init 216 = .ok (.dup, 1) := by decide +kernel
theorem dX11_init_217 : decode cX11_init 217 = .ok (.invokespecial 95, 3) := by decide +kernel
theorem dX11_init_220 : decode cX11_init 220 = .ok (.putfield 96, 3) := by decide +kernel
theorem dX11_init_223 : decode cX11_init 223 = .ok (.aload_n 0, 1) := by decide +kernel
theorem dX11_init_224 : decode cX11_init 224 = .ok (.new 100, 3) := by decide +kernel
theorem dX11_init_227 : decode cX11_init 227 = .ok (.dup, 1) := by decide +kernel
theorem dX11_init_228 : decode cX11_init 228 = .ok (.invokespecial 102, 3) := by decide +kernel
theorem dX11_init_231 : decode cX11_init 231 = .ok (.putfield 103, 3) := by decide +kernel
theorem dX11_init_234 : decode cX11_init 234 = .ok (.aload_n 0, 1) := by decide +kernel
theorem dX11_init_235 : decode cX11_init 235 = .ok (.iconst 5, 1) := by decide +kernel
theorem dX11_init_236 : decode cX11_init 236 = .ok (.newarray .int, 2) := by decide +kernel
theorem dX11_init_238 : decode cX11_init 238 = .ok (.putfield 107, 3) := by decide +kernel
theorem dX11_init_241 : decode cX11_init 241 = .ok (.aload_n 0, 1) := by decide +kernel
theorem dX11_init_242 : decode cX11_init 242 = .ok (.getfield 107, 3) := by decide +kernel
theorem dX11_init_245 : decode cX11_init 245 = .ok (.iconst 0, 1) := by decide +kernel
theorem dX11_init_246 : decode cX11_init 246 = .ok (.iconst (-1), 1) := by decide +kernel
theorem dX11_init_247 : decode cX11_init 247 = .ok (.iastore, 1) := by decide +kernel
theorem dX11_init_248 : decode cX11_init 248 = .ok (.return_, 1) := by decide +kernel
set_option maxRecDepth 100000 in
def f_X11_init_126 : Nat → Nat → Int32 → dtM → Option dtM
  | 0, _, _, _ => none
  | n + 1, l0, l1, μ =>
    if (3 : Int32) ≤ l1 then ((opPI 11 11 μ l0 (0 : Int32)).bind fun μ4 => opCall (opNew 4 μ4) fun q6 μ7 => (opLt q6).bind fun _ => (f_X4_init q6 μ7).bind fun μ10 => (opPR 11 12 μ10 l0 q6).bind fun μ12 => opCall (opNew 1 μ12) fun q14 μ15 => (opLt q14).bind fun _ => (f_X1_init q14 μ15).bind fun μ18 => (opPR 11 13 μ18 l0 q14).bind fun μ20 => opCall (opNew 2 μ20) fun q22 μ23 => (opLt q22).bind fun _ => (f_X2_init q22 μ23).bind fun μ26 => (opPR 11 14 μ26 l0 q22).bind fun μ28 => opCall (opNew 5 μ28) fun q30 μ31 => (opLt q30).bind fun _ => (f_X5_init q30 μ31).bind fun μ34 => (opPR 11 15 μ34 l0 q30).bind fun μ36 => opCall (opNew 10 μ36) fun q38 μ39 => (opLt q38).bind fun _ => (f_X10_init q38 μ39).bind fun μ42 => (opPR 11 16 μ42 l0 q38).bind fun μ44 => opCall (opNew 6 μ44) fun q46 μ47 => (opLt q46).bind fun _ => (f_X6_init q46 μ47).bind fun μ50 => (opPR 11 17 μ50 l0 q46).bind fun μ52 => opCall (opNA 1 μ52 (5 : Int32)) fun q54 μ55 => (opPR 11 18 μ55 l0 q54).bind fun μ57 => (opGR 11 18 μ57 l0).bind fun x59 => (opSI μ57 x59 (0 : Int32) (-1 : Int32)).bind fun μ61 => some μ61) else ((opGR 11 9 μ l0).bind fun x63 => opCall (opNew 3 μ) fun q65 μ66 => (opLt q65).bind fun _ => (f_X3_init q65 μ66).bind fun μ69 => (opSR 5 3 μ69 x63 l1 q65).bind fun μ71 => (opGR 11 10 μ71 l0).bind fun x73 => opCall (opNew 0 μ71) fun q75 μ76 => (opLt q75).bind fun _ => (f_X0_init q75 μ76).bind fun μ79 => (opSR 6 0 μ79 x73 l1 q75).bind fun μ81 => f_X11_init_126 n l0 (l1 + 1) μ81)
set_option maxRecDepth 100000 in
def f_X11_init_29 : Nat → Nat → Int32 → dtM → Option dtM
  | 0, _, _, _ => none
  | n + 1, l0, l1, μ =>
    if (4 : Int32) ≤ l1 then (opCall (opNew 7 μ) fun q4 μ5 => (opLt q4).bind fun _ => (f_X7_init q4 μ5).bind fun μ8 => (opPR 11 4 μ8 l0 q4).bind fun μ10 => opCall (opNew 3 μ10) fun q12 μ13 => (opLt q12).bind fun _ => (f_X3_init q12 μ13).bind fun μ16 => (opPR 11 5 μ16 l0 q12).bind fun μ18 => opCall (opNew 3 μ18) fun q20 μ21 => (opLt q20).bind fun _ => (f_X3_init q20 μ21).bind fun μ24 => (opPR 11 6 μ24 l0 q20).bind fun μ26 => opCall (opNew 0 μ26) fun q28 μ29 => (opLt q28).bind fun _ => (f_X0_init q28 μ29).bind fun μ32 => (opPR 11 7 μ32 l0 q28).bind fun μ34 => opCall (opNew 0 μ34) fun q36 μ37 => (opLt q36).bind fun _ => (f_X0_init q36 μ37).bind fun μ40 => (opPR 11 8 μ40 l0 q36).bind fun μ42 => opCall (opNA 5 μ42 (3 : Int32)) fun q44 μ45 => (opPR 11 9 μ45 l0 q44).bind fun μ47 => opCall (opNA 6 μ47 (3 : Int32)) fun q49 μ50 => (opPR 11 10 μ50 l0 q49).bind fun μ52 => f_X11_init_126 dtFuel l0 (0 : Int32) μ52) else ((opGR 11 3 μ l0).bind fun x54 => opCall (opNew 9 μ) fun q56 μ57 => (opLt q56).bind fun _ => (f_X9_init q56 μ57).bind fun μ60 => (opSR 4 9 μ60 x54 l1 q56).bind fun μ62 => f_X11_init_29 n l0 (l1 + 1) μ62)
set_option maxRecDepth 100000 in
def f_X11_init (p0 : Nat) (μ : dtM) : Option dtM :=
  (opLt p0).bind fun _ => (opPI 11 0 μ p0 (0 : Int32)).bind fun μ2 => (opPJ 11 1 μ2 p0 (0 : Int64)).bind fun μ4 => (opPJ 11 2 μ4 p0 (1 : Int64)).bind fun μ6 => opCall (opNA 4 μ6 (4 : Int32)) fun q8 μ9 => (opPR 11 3 μ9 p0 q8).bind fun μ11 => f_X11_init_29 dtFuel p0 (0 : Int32) μ11
set_option maxRecDepth 100000 in
theorem c_X11_init_126 {F : dtM} : ∀ (n : Nat) (l0 : Nat) (l1 : Int32) (μ : dtM), f_X11_init_126 n l0 l1 μ = some F → dtW yX11_init cX11_init 2 (none) 3 (none) F 126 [some (.ref l0), some (.int l1)] [] μ := by
  intro n
  induction n with
  | zero => intro l0 l1 μ h; cases h
  | succ n ih =>
    intro l0 l1 μ h
    have h := (show f_X11_init_126 (n + 1) l0 l1 μ = some _ from h)
    rw [f_X11_init_126] at h
    refine dr_iload_n l1 dX11_init_126 rfl ?_
    refine dr_iconst (3 : Int32) dX11_init_127 (by decide) ?_
    obtain ⟨ht2, hf3⟩ := dtIte h
    refine dr_icmp_ge 163 dX11_init_128 (by decide) (fun hc1 => ?_) (fun hc1 => ?_)
    · have h := ht2 hc1
      refine dr_aload_n l0 dX11_init_163 rfl ?_
      refine dr_iconst (0 : Int32) dX11_init_164 (by decide) ?_
      obtain ⟨μ4, e5, h⟩ := dtBind h
      refine dr_putI μ4 dX11_init_165 fl_RX11_62 rfl e5 ?_
      refine dr_aload_n l0 dX11_init_168 rfl ?_
      obtain ⟨q6, μ7, e8, h⟩ := dtCall h
      refine dr_new (ci := 4) q6 μ7 dX11_init_169 wt_246 wt_247 wt_6 (by decide) e8 ?_
      refine dr_dup dX11_init_172 rfl ?_
      obtain ⟨_, hb9, h⟩ := dtBind h
      obtain ⟨μ10, e11, h⟩ := dtBind h
      refine dr_callIN (S0 := [.ref q6, .ref l0]) μ10 [] dX11_init_173 (c_X4_init q6 μ7 e11) mf_X4_init rfl wt_249 wn_248 rfl (dtLt hb9) (Nat.le_of_ble_eq_true rfl) rfl rfl ?_
      obtain ⟨μ12, e13, h⟩ := dtBind h
      refine dr_putRF μ12 dX11_init_176 fl_RX11_68 rfl rfl rfl e13 ?_
      refine dr_aload_n l0 dX11_init_179 rfl ?_
      obtain ⟨q14, μ15, e16, h⟩ := dtCall h
      refine dr_new (ci := 1) q14 μ15 dX11_init_180 wt_305 wt_306 wt_8 (by decide) e16 ?_
      refine dr_dup dX11_init_183 rfl ?_
      obtain ⟨_, hb17, h⟩ := dtBind h
      obtain ⟨μ18, e19, h⟩ := dtBind h
      refine dr_callIN (S0 := [.ref q14, .ref l0]) μ18 [] dX11_init_184 (c_X1_init q14 μ15 e19) mf_X1_init rfl wt_308 wn_307 rfl (dtLt hb17) (Nat.le_of_ble_eq_true rfl) rfl rfl ?_
      obtain ⟨μ20, e21, h⟩ := dtBind h
      refine dr_putRF μ20 dX11_init_187 fl_RX11_75 rfl rfl rfl e21 ?_
      refine dr_aload_n l0 dX11_init_190 rfl ?_
      obtain ⟨q22, μ23, e24, h⟩ := dtCall h
      refine dr_new (ci := 2) q22 μ23 dX11_init_191 wt_324 wt_325 wt_9 (by decide) e24 ?_
      refine dr_dup dX11_init_194 rfl ?_
      obtain ⟨_, hb25, h⟩ := dtBind h
      obtain ⟨μ26, e27, h⟩ := dtBind h
      refine dr_callIN (S0 := [.ref q22, .ref l0]) μ26 [] dX11_init_195 (c_X2_init q22 μ23 e27) mf_X2_init rfl wt_327 wn_326 rfl (dtLt hb25) (Nat.le_of_ble_eq_true rfl) rfl rfl ?_
      obtain ⟨μ28, e29, h⟩ := dtBind h
      refine dr_putRF μ28 dX11_init_198 fl_RX11_82 rfl rfl rfl e29 ?_
      refine dr_aload_n l0 dX11_init_201 rfl ?_
      obtain ⟨q30, μ31, e32, h⟩ := dtCall h
      refine dr_new (ci := 5) q30 μ31 dX11_init_202 wt_334 wt_335 wt_10 (by decide) e32 ?_
      refine dr_dup dX11_init_205 rfl ?_
      obtain ⟨_, hb33, h⟩ := dtBind h
      obtain ⟨μ34, e35, h⟩ := dtBind h
      refine dr_callIN (S0 := [.ref q30, .ref l0]) μ34 [] dX11_init_206 (c_X5_init q30 μ31 e35) mf_X5_init rfl wt_337 wn_336 rfl (dtLt hb33) (Nat.le_of_ble_eq_true rfl) rfl rfl ?_
      obtain ⟨μ36, e37, h⟩ := dtBind h
      refine dr_putRF μ36 dX11_init_209 fl_RX11_89 rfl rfl rfl e37 ?_
      refine dr_aload_n l0 dX11_init_212 rfl ?_
      obtain ⟨q38, μ39, e40, h⟩ := dtCall h
      refine dr_new (ci := 10) q38 μ39 dX11_init_213 wt_353 wt_354 wt_11 (by decide) e40 ?_
      refine dr_dup dX11_init_216 rfl ?_
      obtain ⟨_, hb41, h⟩ := dtBind h
      obtain ⟨μ42, e43, h⟩ := dtBind h
      refine dr_callIN (S0 := [.ref q38, .ref l0]) μ42 [] dX11_init_217 (c_X10_init q38 μ39 e43) mf_X10_init rfl wt_356 wn_355 rfl (dtLt hb41) (Nat.le_of_ble_eq_true rfl) rfl rfl ?_
      obtain ⟨μ44, e45, h⟩ := dtBind h
      refine dr_putRF μ44 dX11_init_220 fl_RX11_96 rfl rfl rfl e45 ?_
      refine dr_aload_n l0 dX11_init_223 rfl ?_
      obtain ⟨q46, μ47, e48, h⟩ := dtCall h
      refine dr_new (ci := 6) q46 μ47 dX11_init_224 wt_363 wt_364 wt_12 (by decide) e48 ?_
      refine dr_dup dX11_init_227 rfl ?_
      obtain ⟨_, hb49, h⟩ := dtBind h
      obtain ⟨μ50, e51, h⟩ := dtBind h
      refine dr_callIN (S0 := [.ref q46, .ref l0]) μ50 [] dX11_init_228 (c_X6_init q46 μ47 e51) mf_X6_init rfl wt_366 wn_365 rfl (dtLt hb49) (Nat.le_of_ble_eq_true rfl) rfl rfl ?_
      obtain ⟨μ52, e53, h⟩ := dtBind h
      refine dr_putRF μ52 dX11_init_231 fl_RX11_103 rfl rfl rfl e53 ?_
      refine dr_aload_n l0 dX11_init_234 rfl ?_
      refine dr_iconst (5 : Int32) dX11_init_235 (by decide) ?_
      obtain ⟨q54, μ55, e56, h⟩ := dtCall h
      refine dr_newarray_i q54 μ55 dX11_init_236 wt_192 e56 ?_
      obtain ⟨μ57, e58, h⟩ := dtBind h
      refine dr_putRF μ57 dX11_init_238 fl_RX11_107 rfl rfl rfl e58 ?_
      refine dr_aload_n l0 dX11_init_241 rfl ?_
      obtain ⟨x59, e60, h⟩ := dtBind h
      refine dr_getR x59 dX11_init_242 fl_RX11_107 e60 ?_
      refine dr_iconst (0 : Int32) dX11_init_245 (by decide) ?_
      refine dr_iconst (-1 : Int32) dX11_init_246 (by decide) ?_
      obtain ⟨μ61, e62, h⟩ := dtBind h
      refine dr_iastore μ61 dX11_init_247 e62 ?_
      cases h
      exact dr_return dX11_init_248
    · have h := hf3 hc1
      refine dr_aload_n l0 dX11_init_131 rfl ?_
      obtain ⟨x63, e64, h⟩ := dtBind h
      refine dr_getR x63 dX11_init_132 fl_RX11_54 e64 ?_
      refine dr_iload_n l1 dX11_init_135 rfl ?_
      obtain ⟨q65, μ66, e67, h⟩ := dtCall h
      refine dr_new (ci := 3) q65 μ66 dX11_init_136 wt_78 wt_79 wt_4 (by decide) e67 ?_
      refine dr_dup dX11_init_139 rfl ?_
      obtain ⟨_, hb68, h⟩ := dtBind h
      obtain ⟨μ69, e70, h⟩ := dtBind h
      refine dr_callIN (S0 := [.ref q65, .int l1, .ref x63]) μ69 [] dX11_init_140 (c_X3_init q65 μ66 e70) mf_X3_init rfl wt_81 wn_80 rfl (dtLt hb68) (Nat.le_of_ble_eq_true rfl) rfl rfl ?_
      obtain ⟨μ71, e72, h⟩ := dtBind h
      refine dr_aastore5 μ71 dX11_init_143 e72 ?_
      refine dr_aload_n l0 dX11_init_144 rfl ?_
      obtain ⟨x73, e74, h⟩ := dtBind h
      refine dr_getR x73 dX11_init_145 fl_RX11_58 e74 ?_
      refine dr_iload_n l1 dX11_init_148 rfl ?_
      obtain ⟨q75, μ76, e77, h⟩ := dtCall h
      refine dr_new (ci := 0) q75 μ76 dX11_init_149 wt_193 wt_194 wt_5 (by decide) e77 ?_
      refine dr_dup dX11_init_152 rfl ?_
      obtain ⟨_, hb78, h⟩ := dtBind h
      obtain ⟨μ79, e80, h⟩ := dtBind h
      refine dr_callIN (S0 := [.ref q75, .int l1, .ref x73]) μ79 [] dX11_init_153 (c_X0_init q75 μ76 e80) mf_X0_init rfl wt_196 wn_195 rfl (dtLt hb78) (Nat.le_of_ble_eq_true rfl) rfl rfl ?_
      obtain ⟨μ81, e82, h⟩ := dtBind h
      refine dr_aastore6 μ81 dX11_init_156 e82 ?_
      refine dr_iinc l1 (l1 + 1) [some (.ref l0), some (.int (l1 + 1))] dX11_init_157 rfl rfl rfl rfl rfl ?_
      refine dr_goto 126 dX11_init_160 (by decide) ?_
      exact ih l0 (l1 + 1) μ81 h
set_option maxRecDepth 100000 in
theorem c_X11_init_29 {F : dtM} : ∀ (n : Nat) (l0 : Nat) (l1 : Int32) (μ : dtM), f_X11_init_29 n l0 l1 μ = some F → dtW yX11_init cX11_init 2 (none) 3 (none) F 29 [some (.ref l0), some (.int l1)] [] μ := by
  intro n
  induction n with
  | zero => intro l0 l1 μ h; cases h
  | succ n ih =>
    intro l0 l1 μ h
    have h := (show f_X11_init_29 (n + 1) l0 l1 μ = some _ from h)
    rw [f_X11_init_29] at h
    refine dr_iload_n l1 dX11_init_29 rfl ?_
    refine dr_iconst (4 : Int32) dX11_init_30 (by decide) ?_
    obtain ⟨ht2, hf3⟩ := dtIte h
    refine dr_icmp_ge 53 dX11_init_31 (by decide) (fun hc1 => ?_) (fun hc1 => ?_)
    · have h := ht2 hc1
      refine dr_aload_n l0 dX11_init_53 rfl ?_
      obtain ⟨q4, μ5, e6, h⟩ := dtCall h
      refine dr_new (ci := 7) q4 μ5 dX11_init_54 wt_54 wt_55 wt_3 (by decide) e6 ?_
      refine dr_dup dX11_init_57 rfl ?_
      obtain ⟨_, hb7, h⟩ := dtBind h
      obtain ⟨μ8, e9, h⟩ := dtBind h
      refine dr_callIN (S0 := [.ref q4, .ref l0]) μ8 [] dX11_init_58 (c_X7_init q4 μ5 e9) mf_X7_init rfl wt_57 wn_56 rfl (dtLt hb7) (Nat.le_of_ble_eq_true rfl) rfl rfl ?_
      obtain ⟨μ10, e11, h⟩ := dtBind h
      refine dr_putRF μ10 dX11_init_61 fl_RX11_30 rfl rfl rfl e11 ?_
      refine dr_aload_n l0 dX11_init_64 rfl ?_
      obtain ⟨q12, μ13, e14, h⟩ := dtCall h
      refine dr_new (ci := 3) q12 μ13 dX11_init_65 wt_78 wt_79 wt_4 (by decide) e14 ?_
      refine dr_dup dX11_init_68 rfl ?_
      obtain ⟨_, hb15, h⟩ := dtBind h
      obtain ⟨μ16, e17, h⟩ := dtBind h
      refine dr_callIN (S0 := [.ref q12, .ref l0]) μ16 [] dX11_init_69 (c_X3_init q12 μ13 e17) mf_X3_init rfl wt_81 wn_80 rfl (dtLt hb15) (Nat.le_of_ble_eq_true rfl) rfl rfl ?_
      obtain ⟨μ18, e19, h⟩ := dtBind h
      refine dr_putR μ18 dX11_init_72 fl_RX11_37 rfl e19 ?_
      refine dr_aload_n l0 dX11_init_75 rfl ?_
      obtain ⟨q20, μ21, e22, h⟩ := dtCall h
      refine dr_new (ci := 3) q20 μ21 dX11_init_76 wt_78 wt_79 wt_4 (by decide) e22 ?_
      refine dr_dup dX11_init_79 rfl ?_
      obtain ⟨_, hb23, h⟩ := dtBind h
      obtain ⟨μ24, e25, h⟩ := dtBind h
      refine dr_callIN (S0 := [.ref q20, .ref l0]) μ24 [] dX11_init_80 (c_X3_init q20 μ21 e25) mf_X3_init rfl wt_81 wn_80 rfl (dtLt hb23) (Nat.le_of_ble_eq_true rfl) rfl rfl ?_
      obtain ⟨μ26, e27, h⟩ := dtBind h
      refine dr_putR μ26 dX11_init_83 fl_RX11_41 rfl e27 ?_
      refine dr_aload_n l0 dX11_init_86 rfl ?_
      obtain ⟨q28, μ29, e30, h⟩ := dtCall h
      refine dr_new (ci := 0) q28 μ29 dX11_init_87 wt_193 wt_194 wt_5 (by decide) e30 ?_
      refine dr_dup dX11_init_90 rfl ?_
      obtain ⟨_, hb31, h⟩ := dtBind h
      obtain ⟨μ32, e33, h⟩ := dtBind h
      refine dr_callIN (S0 := [.ref q28, .ref l0]) μ32 [] dX11_init_91 (c_X0_init q28 μ29 e33) mf_X0_init rfl wt_196 wn_195 rfl (dtLt hb31) (Nat.le_of_ble_eq_true rfl) rfl rfl ?_
      obtain ⟨μ34, e35, h⟩ := dtBind h
      refine dr_putR μ34 dX11_init_94 fl_RX11_47 rfl e35 ?_
      refine dr_aload_n l0 dX11_init_97 rfl ?_
      obtain ⟨q36, μ37, e38, h⟩ := dtCall h
      refine dr_new (ci := 0) q36 μ37 dX11_init_98 wt_193 wt_194 wt_5 (by decide) e38 ?_
      refine dr_dup dX11_init_101 rfl ?_
      obtain ⟨_, hb39, h⟩ := dtBind h
      obtain ⟨μ40, e41, h⟩ := dtBind h
      refine dr_callIN (S0 := [.ref q36, .ref l0]) μ40 [] dX11_init_102 (c_X0_init q36 μ37 e41) mf_X0_init rfl wt_196 wn_195 rfl (dtLt hb39) (Nat.le_of_ble_eq_true rfl) rfl rfl ?_
      obtain ⟨μ42, e43, h⟩ := dtBind h
      refine dr_putR μ42 dX11_init_105 fl_RX11_51 rfl e43 ?_
      refine dr_aload_n l0 dX11_init_108 rfl ?_
      refine dr_iconst (3 : Int32) dX11_init_109 (by decide) ?_
      obtain ⟨q44, μ45, e46, h⟩ := dtCall h
      refine dr_anewarray5 q44 μ45 dX11_init_110 wt_78 e46 ?_
      obtain ⟨μ47, e48, h⟩ := dtBind h
      refine dr_putRF μ47 dX11_init_113 fl_RX11_54 rfl rfl rfl e48 ?_
      refine dr_aload_n l0 dX11_init_116 rfl ?_
      refine dr_iconst (3 : Int32) dX11_init_117 (by decide) ?_
      obtain ⟨q49, μ50, e51, h⟩ := dtCall h
      refine dr_anewarray6 q49 μ50 dX11_init_118 wt_193 e51 ?_
      obtain ⟨μ52, e53, h⟩ := dtBind h
      refine dr_putRF μ52 dX11_init_121 fl_RX11_58 rfl rfl rfl e53 ?_
      refine dr_iconst (0 : Int32) dX11_init_124 (by decide) ?_
      refine dr_istore_n 1 [some (.ref l0), some (.int (0 : Int32))] dX11_init_125 rfl rfl rfl rfl ?_
      exact c_X11_init_126 dtFuel l0 (0 : Int32) μ52 h
    · have h := hf3 hc1
      refine dr_aload_n l0 dX11_init_34 rfl ?_
      obtain ⟨x54, e55, h⟩ := dtBind h
      refine dr_getR x54 dX11_init_35 fl_RX11_22 e55 ?_
      refine dr_iload_n l1 dX11_init_38 rfl ?_
      obtain ⟨q56, μ57, e58, h⟩ := dtCall h
      refine dr_new (ci := 9) q56 μ57 dX11_init_39 wt_29 wt_31 wt_2 (by decide) e58 ?_
      refine dr_dup dX11_init_42 rfl ?_
      obtain ⟨_, hb59, h⟩ := dtBind h
      obtain ⟨μ60, e61, h⟩ := dtBind h
      refine dr_callIN (S0 := [.ref q56, .int l1, .ref x54]) μ60 [] dX11_init_43 (c_X9_init q56 μ57 e61) mf_X9_init rfl wt_33 wn_32 rfl (dtLt hb59) (Nat.le_of_ble_eq_true rfl) rfl rfl ?_
      obtain ⟨μ62, e63, h⟩ := dtBind h
      refine dr_aastore4 μ62 dX11_init_46 e63 ?_
      refine dr_iinc l1 (l1 + 1) [some (.ref l0), some (.int (l1 + 1))] dX11_init_47 rfl rfl rfl rfl rfl ?_
      refine dr_goto 29 dX11_init_50 (by decide) ?_
      exact ih l0 (l1 + 1) μ62 h
set_option maxRecDepth 100000 in
theorem c_X11_init {F : dtM} (p0 : Nat) (μ : dtM) (h : f_X11_init p0 μ = some F) : dtMet yX11_init cX11_init 2 (none) 3 [.ref p0] μ (none) F := by
  refine dtMet.of (by decide +kernel) (Nat.le_of_ble_eq_true rfl) (show dtW yX11_init cX11_init 2 (none) 3 (none) F 0 [some (.ref p0)] [] μ from ?_)
  rw [f_X11_init] at h
  refine dr_aload_n p0 dX11_init_0 rfl ?_
  obtain ⟨_, hb1, h⟩ := dtBind h
  refine dr_objInit dX11_init_1 wt_26 wt_27 wt_28 (dtLt hb1) (Nat.le_of_ble_eq_true rfl) rfl ?_
  refine dr_aload_n p0 dX11_init_4 rfl ?_
  refine dr_iconst (0 : Int32) dX11_init_5 (by decide) ?_
  obtain ⟨μ2, e3, h⟩ := dtBind h
  refine dr_putI μ2 dX11_init_6 fl_RX11_7 rfl e3 ?_
  refine dr_aload_n p0 dX11_init_9 rfl ?_
  refine dr_lconst (0 : Int64) dX11_init_10 (by decide) ?_
  obtain ⟨μ4, e5, h⟩ := dtBind h
  refine dr_putJ μ4 dX11_init_11 fl_RX11_13 rfl e5 ?_
  refine dr_aload_n p0 dX11_init_14 rfl ?_
  refine dr_lconst (1 : Int64) dX11_init_15 (by decide) ?_
  obtain ⟨μ6, e7, h⟩ := dtBind h
  refine dr_putJ μ6 dX11_init_16 fl_RX11_17 rfl e7 ?_
  refine dr_aload_n p0 dX11_init_19 rfl ?_
  refine dr_iconst (4 : Int32) dX11_init_20 (by decide) ?_
  obtain ⟨q8, μ9, e10, h⟩ := dtCall h
  refine dr_anewarray4 q8 μ9 dX11_init_21 wt_29 e10 ?_
  obtain ⟨μ11, e12, h⟩ := dtBind h
  refine dr_putRF μ11 dX11_init_24 fl_RX11_22 rfl rfl rfl e12 ?_
  refine dr_iconst (0 : Int32) dX11_init_27 (by decide) ?_
  refine dr_istore_n 1 [some (.ref p0), some (.int (0 : Int32))] dX11_init_28 rfl rfl rfl rfl ?_
  exact c_X11_init_29 dtFuel p0 (0 : Int32) μ11 h
/-! X11_status -/
theorem dX11_status_0 : decode cX11_status 0 = .ok (.aload_n 0, 1) := by decide +kernel
theorem dX11_status_1 : decode cX11_status 1 = .ok (.getfield 7, 3) := by decide +kernel
theorem dX11_status_4 : decode cX11_status 4 = .ok (.ireturn, 1) := by decide +kernel
set_option maxRecDepth 100000 in
def f_X11_status (p0 : Nat) (μ : dtM) : Option (Int32 × dtM) :=
  (opGI 11 0 μ p0).bind fun x1 => some (x1, μ)
set_option maxRecDepth 100000 in
theorem c_X11_status {r : Int32} {F : dtM} (p0 : Nat) (μ : dtM) (h : f_X11_status p0 μ = some (r, F)) : dtMet yX11_status cX11_status 1 (some .int) 1 [.ref p0] μ (some (.int r)) F := by
  refine dtMet.of (by decide +kernel) (Nat.le_of_ble_eq_true rfl) (show dtW yX11_status cX11_status 1 (some .int) 1 (some (.int r)) F 0 [some (.ref p0)] [] μ from ?_)
  rw [f_X11_status] at h
  refine dr_aload_n p0 dX11_status_0 rfl ?_
  obtain ⟨x1, e2, h⟩ := dtBind h
  refine dr_getI x1 dX11_status_1 fl_RX11_7 e2 ?_
  cases h
  exact dr_ireturn dX11_status_4 rfl
/-! X11_top -/
theorem dX11_top_0 : decode cX11_top 0 = .ok (.aload_n 0, 1) := by decide +kernel
theorem dX11_top_1 : decode cX11_top 1 = .ok (.getfield 13, 3) := by decide +kernel
theorem dX11_top_4 : decode cX11_top 4 = .ok (.lreturn, 1) := by decide +kernel
set_option maxRecDepth 100000 in
def f_X11_top (p0 : Nat) (μ : dtM) : Option (Int64 × dtM) :=
  (opGJ 11 1 μ p0).bind fun x1 => some (x1, μ)
set_option maxRecDepth 100000 in
theorem c_X11_top {r : Int64} {F : dtM} (p0 : Nat) (μ : dtM) (h : f_X11_top p0 μ = some (r, F)) : dtMet yX11_top cX11_top 1 (some .long) 1 [.ref p0] μ (some (.long r)) F := by
  refine dtMet.of (by decide +kernel) (Nat.le_of_ble_eq_true rfl) (show dtW yX11_top cX11_top 1 (some .long) 1 (some (.long r)) F 0 [some (.ref p0)] [] μ from ?_)
  rw [f_X11_top] at h
  refine dr_aload_n p0 dX11_top_0 rfl ?_
  obtain ⟨x1, e2, h⟩ := dtBind h
  refine dr_getJ x1 dX11_top_1 fl_RX11_13 e2 ?_
  cases h
  exact dr_lreturn dX11_top_4
/-! X11_bottom -/
theorem dX11_bottom_0 : decode cX11_bottom 0 = .ok (.aload_n 0, 1) := by decide +kernel
theorem dX11_bottom_1 : decode cX11_bottom 1 = .ok (.getfield 17, 3) := by decide +kernel
theorem dX11_bottom_4 : decode cX11_bottom 4 = .ok (.lreturn, 1) := by decide +kernel
set_option maxRecDepth 100000 in
def f_X11_bottom (p0 : Nat) (μ : dtM) : Option (Int64 × dtM) :=
  (opGJ 11 2 μ p0).bind fun x1 => some (x1, μ)
set_option maxRecDepth 100000 in
theorem c_X11_bottom {r : Int64} {F : dtM} (p0 : Nat) (μ : dtM) (h : f_X11_bottom p0 μ = some (r, F)) : dtMet yX11_bottom cX11_bottom 1 (some .long) 1 [.ref p0] μ (some (.long r)) F := by
  refine dtMet.of (by decide +kernel) (Nat.le_of_ble_eq_true rfl) (show dtW yX11_bottom cX11_bottom 1 (some .long) 1 (some (.long r)) F 0 [some (.ref p0)] [] μ from ?_)
  rw [f_X11_bottom] at h
  refine dr_aload_n p0 dX11_bottom_0 rfl ?_
  obtain ⟨x1, e2, h⟩ := dtBind h
  refine dr_getJ x1 dX11_bottom_1 fl_RX11_17 e2 ?_
  cases h
  exact dr_lreturn dX11_bottom_4
/-! X11_agree -/
theorem dX11_agree_0 : decode cX11_agree 0 = .ok (.aload_n 0, 1) := by decide +kernel
theorem dX11_agree_1 : decode cX11_agree 1 = .ok (.iconst 0, 1) := by decide +kernel
theorem dX11_agree_2 : decode cX11_agree 2 = .ok (.putfield 7, 3) := by decide +kernel
theorem dX11_agree_5 : decode cX11_agree 5 = .ok (.iconst 1, 1) := by decide +kernel
theorem dX11_agree_6 : decode cX11_agree 6 = .ok (.ireturn, 1) := by decide +kernel
set_option maxRecDepth 100000 in
def f_X11_agree (p0 : Nat) (μ : dtM) : Option (Int32 × dtM) :=
  (opPI 11 0 μ p0 (0 : Int32)).bind fun μ1 => opRet (1 : Int32) μ1
set_option maxRecDepth 100000 in
theorem c_X11_agree {r : Int32} {F : dtM} (p0 : Nat) (μ : dtM) (h : f_X11_agree p0 μ = some (r, F)) : dtMet yX11_agree cX11_agree 1 (some .boolean) 1 [.ref p0] μ (some (.int r)) F := by
  refine dtMet.of (by decide +kernel) (Nat.le_of_ble_eq_true rfl) (show dtW yX11_agree cX11_agree 1 (some .boolean) 1 (some (.int r)) F 0 [some (.ref p0)] [] μ from ?_)
  rw [f_X11_agree] at h
  refine dr_aload_n p0 dX11_agree_0 rfl ?_
  refine dr_iconst (0 : Int32) dX11_agree_1 (by decide) ?_
  obtain ⟨μ1, e2, h⟩ := dtBind h
  refine dr_putI μ1 dX11_agree_2 fl_RX11_7 rfl e2 ?_
  refine dr_iconst (1 : Int32) dX11_agree_5 (by decide) ?_
  obtain ⟨hz, rfl, rfl⟩ := dtRet h
  exact dr_ireturn dX11_agree_6 (dtNz hz)
/-! X11_isTray -/
theorem dX11_isTray_0 : decode cX11_isTray 0 = .ok (.iload_n 0, 1) := by decide +kernel
theorem dX11_isTray_1 : decode cX11_isTray 1 = .ok (.iconst 0, 1) := by decide +kernel
theorem dX11_isTray_2 : decode cX11_isTray 2 = .ok (.iconst 3, 1) := by decide +kernel
theorem dX11_isTray_3 : decode cX11_isTray 3 = .ok (.invokestatic 115, 3) := by decide +kernel
theorem dX11_isTray_6 : decode cX11_isTray 6 = .ok (.ireturn, 1) := by decide +kernel
set_option maxRecDepth 100000 in
def f_X11_isTray (p0 : Int32) (μ : dtM) : Option (Int32 × dtM) :=
  opCall (f_X11_within p0 (0 : Int32) (3 : Int32) μ) fun x3 μ1 => opRet x3 μ1
set_option maxRecDepth 100000 in
theorem c_X11_isTray {r : Int32} {F : dtM} (p0 : Int32) (μ : dtM) (h : f_X11_isTray p0 μ = some (r, F)) : dtMet yX11_isTray cX11_isTray 1 (some .boolean) 2 [.int p0] μ (some (.int r)) F := by
  refine dtMet.of (by decide +kernel) (Nat.le_of_ble_eq_true rfl) (show dtW yX11_isTray cX11_isTray 1 (some .boolean) 2 (some (.int r)) F 0 [some (.int p0)] [] μ from ?_)
  rw [f_X11_isTray] at h
  refine dr_iload_n p0 dX11_isTray_0 rfl ?_
  refine dr_iconst (0 : Int32) dX11_isTray_1 (by decide) ?_
  refine dr_iconst (3 : Int32) dX11_isTray_2 (by decide) ?_
  obtain ⟨x3, μ1, e2, h⟩ := dtCall h
  refine dr_callS_i (S0 := []) [.int p0, .int (0 : Int32), .int (3 : Int32)] x3 μ1 dX11_isTray_3 (c_X11_within p0 (0 : Int32) (3 : Int32) μ e2) mf_X11_within wt_478 wt_477 rfl (Nat.le_of_ble_eq_true rfl) (Nat.le_of_ble_eq_true rfl) rfl ?_
  obtain ⟨hz, rfl, rfl⟩ := dtRet h
  exact dr_ireturn dX11_isTray_6 (dtNz hz)
/-! X11_refuse -/
theorem dX11_refuse_0 : decode cX11_refuse 0 = .ok (.aload_n 0, 1) := by decide +kernel
theorem dX11_refuse_1 : decode cX11_refuse 1 = .ok (.iload_n 1, 1) := by decide +kernel
theorem dX11_refuse_2 : decode cX11_refuse 2 = .ok (.putfield 7, 3) := by decide +kernel
theorem dX11_refuse_5 : decode cX11_refuse 5 = .ok (.iconst 0, 1) := by decide +kernel
theorem dX11_refuse_6 : decode cX11_refuse 6 = .ok (.ireturn, 1) := by decide +kernel
set_option maxRecDepth 100000 in
def f_X11_refuse (p0 : Nat) (p1 : Int32) (μ : dtM) : Option (Int32 × dtM) :=
  (opPI 11 0 μ p0 p1).bind fun μ1 => opRet (0 : Int32) μ1
set_option maxRecDepth 100000 in
theorem c_X11_refuse {r : Int32} {F : dtM} (p0 : Nat) (p1 : Int32) (μ : dtM) (h : f_X11_refuse p0 p1 μ = some (r, F)) : dtMet yX11_refuse cX11_refuse 2 (some .boolean) 1 [.ref p0, .int p1] μ (some (.int r)) F := by
  refine dtMet.of (by decide +kernel) (Nat.le_of_ble_eq_true rfl) (show dtW yX11_refuse cX11_refuse 2 (some .boolean) 1 (some (.int r)) F 0 [some (.ref p0), some (.int p1)] [] μ from ?_)
  rw [f_X11_refuse] at h
  refine dr_aload_n p0 dX11_refuse_0 rfl ?_
  refine dr_iload_n p1 dX11_refuse_1 rfl ?_
  obtain ⟨μ1, e2, h⟩ := dtBind h
  refine dr_putI μ1 dX11_refuse_2 fl_RX11_7 rfl e2 ?_
  refine dr_iconst (0 : Int32) dX11_refuse_5 (by decide) ?_
  obtain ⟨hz, rfl, rfl⟩ := dtRet h
  exact dr_ireturn dX11_refuse_6 (dtNz hz)
/-! X11_tray -/
theorem dX11_tray_0 : decode cX11_tray 0 = .ok (.iload_n 1, 1) := by decide +kernel
theorem dX11_tray_1 : decode cX11_tray 1 = .ok (.invokestatic 111, 3) := by decide +kernel
theorem dX11_tray_4 : decode cX11_tray 4 = .ok (.ifCond .eq 22, 3) := by decide +kernel
theorem dX11_tray_7 : decode cX11_tray 7 = .ok (.iload_n 2, 1) := by decide +kernel
theorem dX11_tray_8 : decode cX11_tray 8 = .ok (.iconst 0, 1) := by decide +kernel
theorem dX11_tray_9 : decode cX11_tray 9 = .ok (.iconst 3, 1) := by decide +kernel
theorem dX11_tray_10 : decode cX11_tray 10 = .ok (.invokestatic 115, 3) := by decide +kernel
theorem dX11_tray_13 : decode cX11_tray 13 = .ok (.ifCond .eq 13, 3) := by decide +kernel
theorem dX11_tray_16 : decode cX11_tray 16 = .ok (.iload_n 3, 1) := by decide +kernel
theorem dX11_tray_17 : decode cX11_tray 17 = .ok (.iconst 0, 1) := by decide +kernel
theorem dX11_tray_18 : decode cX11_tray 18 = .ok (.bipush 60, 2) := by decide +kernel
theorem dX11_tray_20 : decode cX11_tray 20 = .ok (.invokestatic 115, 3) := by decide +kernel
theorem dX11_tray_23 : decode cX11_tray 23 = .ok (.ifCond .ne 9, 3) := by decide +kernel
theorem dX11_tray_26 : decode cX11_tray 26 = .ok (.aload_n 0, 1) := by decide +kernel
theorem dX11_tray_27 : decode cX11_tray 27 = .ok (.iconst 1, 1) := by decide +kernel
theorem dX11_tray_28 : decode cX11_tray 28 = .ok (.invokevirtual 119, 3) := by decide +kernel
theorem dX11_tray_31 : decode cX11_tray 31 = .ok (.ireturn, 1) := by decide +kernel
theorem dX11_tray_32 : decode cX11_tray 32 = .ok (.aload_n 0, 1) := by decide +kernel
theorem dX11_tray_33 : decode cX11_tray 33 = .ok (.getfield 22, 3) := by decide +kernel
theorem dX11_tray_36 : decode cX11_tray 36 = .ok (.iload_n 1, 1) := by decide +kernel
theorem dX11_tray_37 : decode cX11_tray 37 = .ok (.aaload, 1) := by decide +kernel
theorem dX11_tray_38 : decode cX11_tray 38 = .ok (.iload_n 2, 1) := by decide +kernel
theorem dX11_tray_39 : decode cX11_tray 39 = .ok (.iload_n 3, 1) := by decide +kernel
theorem dX11_tray_40 : decode cX11_tray 40 = .ok (.invokevirtual 122, 3) := by decide +kernel
theorem dX11_tray_43 : decode cX11_tray 43 = .ok (.aload_n 0, 1) := by decide +kernel
theorem dX11_tray_44 : decode cX11_tray 44 = .ok (.invokevirtual 126, 3) := by decide +kernel
theorem dX11_tray_47 : decode cX11_tray 47 = .ok (.ireturn, 1) := by decide +kernel
set_option maxRecDepth 100000 in
def f_X11_tray_26 (l0 : Nat) (μ : dtM) : Option (Int32 × dtM) :=
  (opRv 11 μ l0).bind fun _ => opCall (f_X11_refuse l0 (1 : Int32) μ) fun x4 μ2 => opRet x4 μ2
set_option maxRecDepth 100000 in
def f_X11_tray (p0 : Nat) (p1 : Int32) (p2 : Int32) (p3 : Int32) (μ : dtM) : Option (Int32 × dtM) :=
  opCall (f_X11_isTray p1 μ) fun x3 μ1 => if x3 = 0 then (f_X11_tray_26 p0 μ1) else (opCall (f_X11_within p2 (0 : Int32) (3 : Int32) μ1) fun x9 μ7 => if x9 = 0 then (f_X11_tray_26 p0 μ7) else (opCall (f_X11_within p3 (0 : Int32) (60 : Int32) μ7) fun x15 μ13 => if x15 = 0 then (f_X11_tray_26 p0 μ13) else ((opGR 11 3 μ13 p0).bind fun x19 => (opLR 4 μ13 x19 p1).bind fun x21 => (opRv 9 μ13 x21).bind fun _ => (f_X9_layOut x21 p2 p3 μ13).bind fun μ24 => (opRv 11 μ24 p0).bind fun _ => opCall (f_X11_agree p0 μ24) fun x29 μ27 => opRet x29 μ27)))
set_option maxRecDepth 100000 in
theorem c_X11_tray_26 {r : Int32} {F : dtM} (l0 : Nat) (μ : dtM) (h : f_X11_tray_26 l0 μ = some (r, F)) : dtW yX11_tray cX11_tray 4 (some .boolean) 3 (some (.int r)) F 26 [some (.ref l0)] [] μ := by
  rw [f_X11_tray_26] at h
  refine dr_aload_n l0 dX11_tray_26 rfl ?_
  refine dr_iconst (1 : Int32) dX11_tray_27 (by decide) ?_
  obtain ⟨_, hb1, h⟩ := dtBind h
  obtain ⟨x4, μ2, e3, h⟩ := dtCall h
  refine dr_callV_i (S0 := []) [.int (1 : Int32)] x4 μ2 dX11_tray_28 (c_X11_refuse l0 (1 : Int32) μ e3) mf_X11_refuse wt_482 ws_0 wt_480 rfl (dtRv hb1) (by decide) rfl (Nat.le_of_ble_eq_true rfl) (Nat.le_of_ble_eq_true rfl) rfl ?_
  obtain ⟨hz, rfl, rfl⟩ := dtRet h
  exact dr_ireturn dX11_tray_31 (dtNz hz)
set_option maxRecDepth 100000 in
theorem c_X11_tray {r : Int32} {F : dtM} (p0 : Nat) (p1 : Int32) (p2 : Int32) (p3 : Int32) (μ : dtM) (h : f_X11_tray p0 p1 p2 p3 μ = some (r, F)) : dtMet yX11_tray cX11_tray 4 (some .boolean) 3 [.ref p0, .int p1, .int p2, .int p3] μ (some (.int r)) F := by
  refine dtMet.of (by decide +kernel) (Nat.le_of_ble_eq_true rfl) (show dtW yX11_tray cX11_tray 4 (some .boolean) 3 (some (.int r)) F 0 [some (.ref p0), some (.int p1), some (.int p2), some (.int p3)] [] μ from ?_)
  rw [f_X11_tray] at h
  refine dr_iload_n p1 dX11_tray_0 rfl ?_
  obtain ⟨x3, μ1, e2, h⟩ := dtCall h
  refine dr_callS_i (S0 := []) [.int p1] x3 μ1 dX11_tray_1 (c_X11_isTray p1 μ e2) mf_X11_isTray wt_475 wt_474 rfl (Nat.le_of_ble_eq_true rfl) (Nat.le_of_ble_eq_true rfl) rfl ?_
  obtain ⟨ht5, hf6⟩ := dtIte h
  refine dr_if_eq 26 dX11_tray_4 (by decide) (fun hc4 => ?_) (fun hc4 => ?_)
  · have h := ht5 hc4
    refine dr_mask [true] [some (.ref p0)] rfl ?_
    exact c_X11_tray_26 p0 μ1 h
  · have h := hf6 hc4
    refine dr_iload_n p2 dX11_tray_7 rfl ?_
    refine dr_iconst (0 : Int32) dX11_tray_8 (by decide) ?_
    refine dr_iconst (3 : Int32) dX11_tray_9 (by decide) ?_
    obtain ⟨x9, μ7, e8, h⟩ := dtCall h
    refine dr_callS_i (S0 := []) [.int p2, .int (0 : Int32), .int (3 : Int32)] x9 μ7 dX11_tray_10 (c_X11_within p2 (0 : Int32) (3 : Int32) μ1 e8) mf_X11_within wt_478 wt_477 rfl (Nat.le_of_ble_eq_true rfl) (Nat.le_of_ble_eq_true rfl) rfl ?_
    obtain ⟨ht11, hf12⟩ := dtIte h
    refine dr_if_eq 26 dX11_tray_13 (by decide) (fun hc10 => ?_) (fun hc10 => ?_)
    · have h := ht11 hc10
      refine dr_mask [true] [some (.ref p0)] rfl ?_
      exact c_X11_tray_26 p0 μ7 h
    · have h := hf12 hc10
      refine dr_iload_n p3 dX11_tray_16 rfl ?_
      refine dr_iconst (0 : Int32) dX11_tray_17 (by decide) ?_
      refine dr_bipush (60 : Int32) dX11_tray_18 (by decide) ?_
      obtain ⟨x15, μ13, e14, h⟩ := dtCall h
      refine dr_callS_i (S0 := []) [.int p3, .int (0 : Int32), .int (60 : Int32)] x15 μ13 dX11_tray_20 (c_X11_within p3 (0 : Int32) (60 : Int32) μ7 e14) mf_X11_within wt_478 wt_477 rfl (Nat.le_of_ble_eq_true rfl) (Nat.le_of_ble_eq_true rfl) rfl ?_
      obtain ⟨ht17, hf18⟩ := dtIte h
      refine dr_if_ne 32 dX11_tray_23 (by decide) (fun hc16 => ?_) (fun hc16 => ?_)
      · have h := hf18 hc16
        refine dr_aload_n p0 dX11_tray_32 rfl ?_
        obtain ⟨x19, e20, h⟩ := dtBind h
        refine dr_getR x19 dX11_tray_33 fl_RX11_22 e20 ?_
        refine dr_iload_n p1 dX11_tray_36 rfl ?_
        obtain ⟨x21, e22, h⟩ := dtBind h
        refine dr_aaload4 x21 dX11_tray_37 e22 ?_
        refine dr_iload_n p2 dX11_tray_38 rfl ?_
        refine dr_iload_n p3 dX11_tray_39 rfl ?_
        obtain ⟨_, hb23, h⟩ := dtBind h
        obtain ⟨μ24, e25, h⟩ := dtBind h
        refine dr_callV_v (S0 := []) [.int p2, .int p3] μ24 dX11_tray_40 (c_X9_layOut x21 p2 p3 μ13 e25) mf_X9_layOut wt_485 wt_486 wt_484 rfl (dtRv hb23) (by decide) rfl (Nat.le_of_ble_eq_true rfl) (Nat.le_of_ble_eq_true rfl) rfl ?_
        refine dr_aload_n p0 dX11_tray_43 rfl ?_
        obtain ⟨_, hb26, h⟩ := dtBind h
        obtain ⟨x29, μ27, e28, h⟩ := dtCall h
        refine dr_callV_i (S0 := []) [] x29 μ27 dX11_tray_44 (c_X11_agree p0 μ24 e28) mf_X11_agree wt_490 ws_1 wt_488 rfl (dtRv hb26) (by decide) rfl (Nat.le_of_ble_eq_true rfl) (Nat.le_of_ble_eq_true rfl) rfl ?_
        obtain ⟨hz, rfl, rfl⟩ := dtRet h
        exact dr_ireturn dX11_tray_47 (dtNz hz)
      · have h := ht17 hc16
        refine dr_mask [true] [some (.ref p0)] rfl ?_
        exact c_X11_tray_26 p0 μ13 h
/-! X11_placeStatus -/
theorem dX11_placeStatus_0 : decode cX11_placeStatus 0 = .ok (.iload_n 1, 1) := by decide +kernel
theorem dX11_placeStatus_1 : decode cX11_placeStatus 1 = .ok (.invokestatic 111, 3) := by decide +kernel
theorem dX11_placeStatus_4 : decode cX11_placeStatus 4 = .ok (.ifCond .ne 5, 3) := by decide +kernel
theorem dX11_placeStatus_7 : decode cX11_placeStatus 7 = .ok (.iconst 1, 1) := by decide +kernel
theorem dX11_placeStatus_8 : decode cX11_placeStatus 8 = .ok (.ireturn, 1) := by decide +kernel
theorem dX11_placeStatus_9 : decode cX11_placeStatus 9 = .ok (.aload_n 0, 1) := by decide +kernel
theorem dX11_placeStatus_10 : decode cX11_placeStatus 10 = .ok (.getfield 22, 3) := by decide +kernel
theorem dX11_placeStatus_13 : decode cX11_placeStatus 13 = .ok (.iload_n 1, 1) := by decide +kernel
theorem dX11_placeStatus_14 : decode cX11_placeStatus 14 = .ok (.aaload, 1) := by decide +kernel
theorem dX11_placeStatus_15 : decode cX11_placeStatus 15 = .ok (.getfield 146, 3) := by decide +kernel
theorem dX11_placeStatus_18 : decode cX11_placeStatus 18 = .ok (.ifCond .ne 5, 3) := by decide +kernel
theorem dX11_placeStatus_21 : decode cX11_placeStatus 21 = .ok (.iconst 2, 1) := by decide +kernel
theorem dX11_placeStatus_22 : decode cX11_placeStatus 22 = .ok (.ireturn, 1) := by decide +kernel
theorem dX11_placeStatus_23 : decode cX11_placeStatus 23 = .ok (.iload_n 2, 1) := by decide +kernel
theorem dX11_placeStatus_24 : decode cX11_placeStatus 24 = .ok (.iconst 0, 1) := by decide +kernel
theorem dX11_placeStatus_25 : decode cX11_placeStatus 25 = .ok (.aload_n 0, 1) := by decide +kernel
theorem dX11_placeStatus_26 : decode cX11_placeStatus 26 = .ok (.getfield 22, 3) := by decide +kernel
theorem dX11_placeStatus_29 : decode cX11_placeStatus 29 = .ok (.iload_n 1, 1) := by decide +kernel
theorem dX11_placeStatus_30 : decode cX11_placeStatus 30 = .ok (.aaload, 1) := by decide +kernel
theorem dX11_placeStatus_31 : decode cX11_placeStatus 31 = .ok (.getfield 435, 3) := by decide +kernel
theorem dX11_placeStatus_34 : decode cX11_placeStatus 34 = .ok (.iconst 1, 1) := by decide +kernel
theorem dX11_placeStatus_35 : decode cX11_placeStatus 35 = .ok (.isub, 1) := by decide +kernel
theorem dX11_placeStatus_36 : decode cX11_placeStatus 36 = .ok (.invokestatic 115, 3) := by decide +kernel
theorem dX11_placeStatus_39 : decode cX11_placeStatus 39 = .ok (.ifCond .eq 7, 3) := by decide +kernel
theorem dX11_placeStatus_42 : decode cX11_placeStatus 42 = .ok (.iconst 0, 1) := by decide +kernel
theorem dX11_placeStatus_43 : decode cX11_placeStatus 43 = .ok (.goto 4, 3) := by decide +kernel
theorem dX11_placeStatus_46 : decode cX11_placeStatus 46 = .ok (.iconst 3, 1) := by decide +kernel
theorem dX11_placeStatus_47 : decode cX11_placeStatus 47 = .ok (.ireturn, 1) := by decide +kernel
set_option maxRecDepth 100000 in
def f_X11_placeStatus_47 (s0 : Int32) (μ : dtM) : Option (Int32 × dtM) :=
  some (s0, μ)
set_option maxRecDepth 100000 in
def f_X11_placeStatus (p0 : Nat) (p1 : Int32) (p2 : Int32) (μ : dtM) : Option (Int32 × dtM) :=
  opCall (f_X11_isTray p1 μ) fun x3 μ1 => if x3 = 0 then (some ((1 : Int32), μ1)) else ((opGR 11 3 μ1 p0).bind fun x7 => (opLR 4 μ1 x7 p1).bind fun x9 => (opGI 9 0 μ1 x9).bind fun x11 => if x11 = 0 then (some ((2 : Int32), μ1)) else ((opGR 11 3 μ1 p0).bind fun x16 => (opLR 4 μ1 x16 p1).bind fun x18 => (opGI 9 2 μ1 x18).bind fun x20 => opCall (f_X11_within p2 (0 : Int32) (x20 - (1 : Int32)) μ1) fun x24 μ22 => if x24 = 0 then (f_X11_placeStatus_47 (3 : Int32) μ22) else (f_X11_placeStatus_47 (0 : Int32) μ22)))
set_option maxRecDepth 100000 in
theorem c_X11_placeStatus_47 {r : Int32} {F : dtM} (s0 : Int32) (μ : dtM) (h : f_X11_placeStatus_47 s0 μ = some (r, F)) : dtW yX11_placeStatus cX11_placeStatus 3 (some .int) 3 (some (.int r)) F 47 [] [.int s0] μ := by
  rw [f_X11_placeStatus_47] at h
  cases h
  exact dr_ireturn dX11_placeStatus_47 rfl
set_option maxRecDepth 100000 in
theorem c_X11_placeStatus {r : Int32} {F : dtM} (p0 : Nat) (p1 : Int32) (p2 : Int32) (μ : dtM) (h : f_X11_placeStatus p0 p1 p2 μ = some (r, F)) : dtMet yX11_placeStatus cX11_placeStatus 3 (some .int) 3 [.ref p0, .int p1, .int p2] μ (some (.int r)) F := by
  refine dtMet.of (by decide +kernel) (Nat.le_of_ble_eq_true rfl) (show dtW yX11_placeStatus cX11_placeStatus 3 (some .int) 3 (some (.int r)) F 0 [some (.ref p0), some (.int p1), some (.int p2)] [] μ from ?_)
  rw [f_X11_placeStatus] at h
  refine dr_iload_n p1 dX11_placeStatus_0 rfl ?_
  obtain ⟨x3, μ1, e2, h⟩ := dtCall h
  refine dr_callS_i (S0 := []) [.int p1] x3 μ1 dX11_placeStatus_1 (c_X11_isTray p1 μ e2) mf_X11_isTray wt_475 wt_474 rfl (Nat.le_of_ble_eq_true rfl) (Nat.le_of_ble_eq_true rfl) rfl ?_
  obtain ⟨ht5, hf6⟩ := dtIte h
  refine dr_if_ne 9 dX11_placeStatus_4 (by decide) (fun hc4 => ?_) (fun hc4 => ?_)
  · have h := hf6 hc4
    refine dr_aload_n p0 dX11_placeStatus_9 rfl ?_
    obtain ⟨x7, e8, h⟩ := dtBind h
    refine dr_getR x7 dX11_placeStatus_10 fl_RX11_22 e8 ?_
    refine dr_iload_n p1 dX11_placeStatus_13 rfl ?_
    obtain ⟨x9, e10, h⟩ := dtBind h
    refine dr_aaload4 x9 dX11_placeStatus_14 e10 ?_
    obtain ⟨x11, e12, h⟩ := dtBind h
    refine dr_getZ x11 dX11_placeStatus_15 fl_RX11_146 e12 ?_
    obtain ⟨ht14, hf15⟩ := dtIte h
    refine dr_if_ne 23 dX11_placeStatus_18 (by decide) (fun hc13 => ?_) (fun hc13 => ?_)
    · have h := hf15 hc13
      refine dr_iload_n p2 dX11_placeStatus_23 rfl ?_
      refine dr_iconst (0 : Int32) dX11_placeStatus_24 (by decide) ?_
      refine dr_aload_n p0 dX11_placeStatus_25 rfl ?_
      obtain ⟨x16, e17, h⟩ := dtBind h
      refine dr_getR x16 dX11_placeStatus_26 fl_RX11_22 e17 ?_
      refine dr_iload_n p1 dX11_placeStatus_29 rfl ?_
      obtain ⟨x18, e19, h⟩ := dtBind h
      refine dr_aaload4 x18 dX11_placeStatus_30 e19 ?_
      obtain ⟨x20, e21, h⟩ := dtBind h
      refine dr_getI x20 dX11_placeStatus_31 fl_RX11_435 e21 ?_
      refine dr_iconst (1 : Int32) dX11_placeStatus_34 (by decide) ?_
      refine dr_isub dX11_placeStatus_35 ?_
      obtain ⟨x24, μ22, e23, h⟩ := dtCall h
      refine dr_callS_i (S0 := []) [.int p2, .int (0 : Int32), .int (x20 - (1 : Int32))] x24 μ22 dX11_placeStatus_36 (c_X11_within p2 (0 : Int32) (x20 - (1 : Int32)) μ1 e23) mf_X11_within wt_478 wt_477 rfl (Nat.le_of_ble_eq_true rfl) (Nat.le_of_ble_eq_true rfl) rfl ?_
      obtain ⟨ht26, hf27⟩ := dtIte h
      refine dr_if_eq 46 dX11_placeStatus_39 (by decide) (fun hc25 => ?_) (fun hc25 => ?_)
      · have h := ht26 hc25
        refine dr_iconst (3 : Int32) dX11_placeStatus_46 (by decide) ?_
        refine dr_mask [] [] rfl ?_
        exact c_X11_placeStatus_47 (3 : Int32) μ22 h
      · have h := hf27 hc25
        refine dr_iconst (0 : Int32) dX11_placeStatus_42 (by decide) ?_
        refine dr_goto 47 dX11_placeStatus_43 (by decide) ?_
        refine dr_mask [] [] rfl ?_
        exact c_X11_placeStatus_47 (0 : Int32) μ22 h
    · have h := ht14 hc13
      refine dr_iconst (2 : Int32) dX11_placeStatus_21 (by decide) ?_
      cases h
      exact dr_ireturn dX11_placeStatus_22 rfl
  · have h := ht5 hc4
    refine dr_iconst (1 : Int32) dX11_placeStatus_7 (by decide) ?_
    cases h
    exact dr_ireturn dX11_placeStatus_8 rfl
