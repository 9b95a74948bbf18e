/-! X1_readTest -/
theorem dX1_readTest_0 : decode cX1_readTest 0 = .ok (.aload_n 1, 1) := by decide +kernel
theorem dX1_readTest_1 : decode cX1_readTest 1 = .ok (.getfield 89, 3) := by decide +kernel
theorem dX1_readTest_4 : decode cX1_readTest 4 = .ok (.iload_n 3, 1) := by decide +kernel
theorem dX1_readTest_5 : decode cX1_readTest 5 = .ok (.iaload, 1) := by decide +kernel
theorem dX1_readTest_6 : decode cX1_readTest 6 = .ok (.bipush 19, 2) := by decide +kernel
theorem dX1_readTest_8 : decode cX1_readTest 8 = .ok (.if_icmp .eq 5, 3) := by decide +kernel
theorem dX1_readTest_11 : decode cX1_readTest 11 = .ok (.iconst 1, 1) := by decide +kernel
theorem dX1_readTest_12 : decode cX1_readTest 12 = .ok (.ireturn, 1) := by decide +kernel
theorem dX1_readTest_13 : decode cX1_readTest 13 = .ok (.aload_n 0, 1) := by decide +kernel
theorem dX1_readTest_14 : decode cX1_readTest 14 = .ok (.getfield 12, 3) := by decide +kernel
theorem dX1_readTest_17 : decode cX1_readTest 17 = .ok (.getfield 39, 3) := by decide +kernel
theorem dX1_readTest_20 : decode cX1_readTest 20 = .ok (.istore 4, 2) := by decide +kernel
theorem dX1_readTest_22 : decode cX1_readTest 22 = .ok (.aload_n 1, 1) := by decide +kernel
theorem dX1_readTest_23 : decode cX1_readTest 23 = .ok (.getfield 108, 3) := by decide +kernel
theorem dX1_readTest_26 : decode cX1_readTest 26 = .ok (.iload_n 3, 1) := by decide +kernel
theorem dX1_readTest_27 : decode cX1_readTest 27 = .ok (.iload 4, 2) := by decide +kernel
theorem dX1_readTest_29 : decode cX1_readTest 29 = .ok (.iastore, 1) := by decide +kernel
theorem dX1_readTest_30 : decode cX1_readTest 30 = .ok (.iload 4, 2) := by decide +kernel
theorem dX1_readTest_32 : decode cX1_readTest 32 = .ok (.bipush 12, 2) := by decide +kernel
theorem dX1_readTest_34 : decode cX1_readTest 34 = .ok (.if_icmp .eq 25, 3) := by decide +kernel
theorem dX1_readTest_37 : decode cX1_readTest 37 = .ok (.iload 4, 2) := by decide +kernel
theorem dX1_readTest_39 : decode cX1_readTest 39 = .ok (.iconst 4, 1) := by decide +kernel
theorem dX1_readTest_40 : decode cX1_readTest 40 = .ok (.if_icmp .eq 19, 3) := by decide +kernel
theorem dX1_readTest_43 : decode cX1_readTest 43 = .ok (.iload 4, 2) := by decide +kernel
theorem dX1_readTest_45 : decode cX1_readTest 45 = .ok (.bipush 20, 2) := by decide +kernel
theorem dX1_readTest_47 : decode cX1_readTest 47 = .ok (.if_icmp .eq 12, 3) := by decide +kernel
theorem dX1_readTest_50 : decode cX1_readTest 50 = .ok (.aload_n 0, 1) := by decide +kernel
theorem dX1_readTest_51 : decode cX1_readTest 51 = .ok (.getfield 12, 3) := by decide +kernel
theorem dX1_readTest_54 : decode cX1_readTest 54 = .ok (.iconst 2, 1) := by decide +kernel
theorem dX1_readTest_55 : decode cX1_readTest 55 = .ok (.invokevirtual 65, 3) := by decide +kernel
theorem dX1_readTest_58 : decode cX1_readTest 58 = .ok (.ireturn, 1) := by decide +kernel
theorem dX1_readTest_59 : decode cX1_readTest 59 = .ok (.aload_n 0, 1) := by decide +kernel
theorem dX1_readTest_60 : decode cX1_readTest 60 = .ok (.getfield 12, 3) := by decide +kernel
theorem dX1_readTest_63 : decode cX1_readTest 63 = .ok (.invokevirtual 76, 3) := by decide +kernel
theorem dX1_readTest_66 : decode cX1_readTest 66 = .ok (.iload 4, 2) := by decide +kernel
theorem dX1_readTest_68 : decode cX1_readTest 68 = .ok (.lookupswitch 68 #[(4, 54), (12, 28)], 28) := by decide +kernel
theorem dX1_readTest_96 : decode cX1_readTest 96 = .ok (.aload_n 0, 1) := by decide +kernel
theorem dX1_readTest_97 : decode cX1_readTest 97 = .ok (.aload_n 1, 1) := by decide +kernel
theorem dX1_readTest_98 : decode cX1_readTest 98 = .ok (.aload_n 2, 1) := by decide +kernel
theorem dX1_readTest_99 : decode cX1_readTest 99 = .ok (.iload_n 3, 1) := by decide +kernel
theorem dX1_readTest_100 : decode cX1_readTest 100 = .ok (.invokevirtual 92, 3) := by decide +kernel
theorem dX1_readTest_103 : decode cX1_readTest 103 = .ok (.ifCond .eq 17, 3) := by decide +kernel
theorem dX1_readTest_106 : decode cX1_readTest 106 = .ok (.aload_n 0, 1) := by decide +kernel
theorem dX1_readTest_107 : decode cX1_readTest 107 = .ok (.aload_n 1, 1) := by decide +kernel
theorem dX1_readTest_108 : decode cX1_readTest 108 = .ok (.aload_n 2, 1) := by decide +kernel
theorem dX1_readTest_109 : decode cX1_readTest 109 = .ok (.iload_n 3, 1) := by decide +kernel
theorem dX1_readTest_110 : decode cX1_readTest 110 = .ok (.invokevirtual 111, 3) := by decide +kernel
theorem dX1_readTest_113 : decode cX1_readTest 113 = .ok (.ifCond .eq 7, 3) := by decide +kernel
theorem dX1_readTest_116 : decode cX1_readTest 116 = .ok (.iconst 1, 1) := by decide +kernel
theorem dX1_readTest_117 : decode cX1_readTest 117 = .ok (.goto 4, 3) := by decide +kernel
theorem dX1_readTest_120 : decode cX1_readTest 120 = .ok (.iconst 0, 1) := by decide +kernel
theorem dX1_readTest_121 : decode cX1_readTest 121 = .ok (.ireturn, 1) := by decide +kernel
theorem dX1_readTest_122 : decode cX1_readTest 122 = .ok (.aload_n 0, 1) := by decide +kernel
theorem dX1_readTest_123 : decode cX1_readTest 123 = .ok (.aload_n 1, 1) := by decide +kernel
theorem dX1_readTest_124 : decode cX1_readTest 124 = .ok (.iload_n 3, 1) := by decide +kernel
theorem dX1_readTest_125 : decode cX1_readTest 125 = .ok (.iconst 0, 1) := by decide +kernel
theorem dX1_readTest_126 : decode cX1_readTest 126 = .ok (.aload_n 2, 1) := by decide +kernel
theorem dX1_readTest_127 : decode cX1_readTest 127 = .ok (.getfield 95, 3) := by decide +kernel
theorem dX1_readTest_130 : decode cX1_readTest 130 = .ok (.iconst 1, 1) := by decide +kernel
theorem dX1_readTest_131 : decode cX1_readTest 131 = .ok (.isub, 1) := by decide +kernel
theorem dX1_readTest_132 : decode cX1_readTest 132 = .ok (.invokevirtual 100, 3) := by decide +kernel
theorem dX1_readTest_135 : decode cX1_readTest 135 = .ok (.ireturn, 1) := by decide +kernel
theorem dX1_readTest_136 : decode cX1_readTest 136 = .ok (.aload_n 0, 1) := by decide +kernel
theorem dX1_readTest_137 : decode cX1_readTest 137 = .ok (.aload_n 1, 1) := by decide +kernel
theorem dX1_readTest_138 : decode cX1_readTest 138 = .ok (.aload_n 2, 1) := by decide +kernel
theorem dX1_readTest_139 : decode cX1_readTest 139 = .ok (.iload_n 3, 1) := by decide +kernel
theorem dX1_readTest_140 : decode cX1_readTest 140 = .ok (.invokevirtual 92, 3) := by decide +kernel
theorem dX1_readTest_143 : decode cX1_readTest 143 = .ok (.ifCond .eq 28, 3) := by decide +kernel
theorem dX1_readTest_146 : decode cX1_readTest 146 = .ok (.aload_n 0, 1) := by decide +kernel
theorem dX1_readTest_147 : decode cX1_readTest 147 = .ok (.aload_n 1, 1) := by decide +kernel
theorem dX1_readTest_148 : decode cX1_readTest 148 = .ok (.iload_n 3, 1) := by decide +kernel
theorem dX1_readTest_149 : decode cX1_readTest 149 = .ok (.invokevirtual 114, 3) := by decide +kernel
theorem dX1_readTest_152 : decode cX1_readTest 152 = .ok (.ifCond .eq 19, 3) := by decide +kernel
theorem dX1_readTest_155 : decode cX1_readTest 155 = .ok (.aload_n 0, 1) := by decide +kernel
theorem dX1_readTest_156 : decode cX1_readTest 156 = .ok (.aload_n 1, 1) := by decide +kernel
theorem dX1_readTest_157 : decode cX1_readTest 157 = .ok (.iload_n 3, 1) := by decide +kernel
theorem dX1_readTest_158 : decode cX1_readTest 158 = .ok (.iconst 0, 1) := by decide +kernel
theorem dX1_readTest_159 : decode cX1_readTest 159 = .ok (.bipush 8, 2) := by decide +kernel
theorem dX1_readTest_161 : decode cX1_readTest 161 = .ok (.invokevirtual 100, 3) := by decide +kernel
theorem dX1_readTest_164 : decode cX1_readTest 164 = .ok (.ifCond .eq 7, 3) := by decide +kernel
theorem dX1_readTest_167 : decode cX1_readTest 167 = .ok (.iconst 1, 1) := by decide +kernel
theorem dX1_readTest_168 : decode cX1_readTest 168 = .ok (.goto 4, 3) := by decide +kernel
theorem dX1_readTest_171 : decode cX1_readTest 171 = .ok (.iconst 0, 1) := by decide +kernel
theorem dX1_readTest_172 : decode cX1_readTest 172 = .ok (.ireturn, 1) := by decide +kernel
set_option maxRecDepth 100000 in
def f_X1_readTest_172 (s0 : Int32) (μ : dtM) : Option (Int32 × dtM) :=
  opRet s0 μ
set_option maxRecDepth 100000 in
def f_X1_readTest_171  (μ : dtM) : Option (Int32 × dtM) :=
  f_X1_readTest_172 (0 : Int32) μ
set_option maxRecDepth 100000 in
def f_X1_readTest_136 (l0 : Nat) (l1 : Nat) (l2 : Nat) (l3 : Int32) (μ : dtM) : Option (Int32 × dtM) :=
  (opRv 1 μ l0).bind fun _ => opCall (f_X1_readWho l0 l1 l2 l3 μ) fun x4 μ2 => if x4 = 0 then (f_X1_readTest_171 μ2) else ((opRv 1 μ2 l0).bind fun _ => opCall (f_X1_readCompares l0 l1 l3 μ2) fun x11 μ9 => if x11 = 0 then (f_X1_readTest_171 μ9) else ((opRv 1 μ9 l0).bind fun _ => opCall (f_X1_readWhat l0 l1 l3 (0 : Int32) (8 : Int32) μ9) fun x18 μ16 => if x18 = 0 then (f_X1_readTest_171 μ16) else (f_X1_readTest_172 (1 : Int32) μ16)))
set_option maxRecDepth 100000 in
def f_X1_readTest_122 (l0 : Nat) (l1 : Nat) (l2 : Nat) (l3 : Int32) (μ : dtM) : Option (Int32 × dtM) :=
  (opGI 3 1 μ l2).bind fun x1 => (opRv 1 μ l0).bind fun _ => opCall (f_X1_readWhat l0 l1 l3 (0 : Int32) (x1 - (1 : Int32)) μ) fun x6 μ4 => opRet x6 μ4
set_option maxRecDepth 100000 in
def f_X1_readTest_121 (s0 : Int32) (μ : dtM) : Option (Int32 × dtM) :=
  opRet s0 μ
set_option maxRecDepth 100000 in
def f_X1_readTest_120  (μ : dtM) : Option (Int32 × dtM) :=
  f_X1_readTest_121 (0 : Int32) μ
set_option maxRecDepth 100000 in
def f_X1_readTest_96 (l0 : Nat) (l1 : Nat) (l2 : Nat) (l3 : Int32) (μ : dtM) : Option (Int32 × dtM) :=
  (opRv 1 μ l0).bind fun _ => opCall (f_X1_readWho l0 l1 l2 l3 μ) fun x4 μ2 => if x4 = 0 then (f_X1_readTest_120 μ2) else ((opRv 1 μ2 l0).bind fun _ => opCall (f_X1_readRoomName l0 l1 l2 l3 μ2) fun x11 μ9 => if x11 = 0 then (f_X1_readTest_120 μ9) else (f_X1_readTest_121 (1 : Int32) μ9))
set_option maxRecDepth 100000 in
def f_X1_readTest_59 (l0 : Nat) (l1 : Nat) (l2 : Nat) (l3 : Int32) (l4 : Int32) (μ : dtM) : Option (Int32 × dtM) :=
  (opGR 1 0 μ l0).bind fun x1 => (opRv 8 μ x1).bind fun _ => (f_X8_advance x1 μ).bind fun μ4 => if l4 = 4 then (f_X1_readTest_122 l0 l1 l2 l3 μ4) else if l4 = 12 then (f_X1_readTest_96 l0 l1 l2 l3 μ4) else f_X1_readTest_136 l0 l1 l2 l3 μ4
set_option maxRecDepth 100000 in
def f_X1_readTest (p0 : Nat) (p1 : Nat) (p2 : Nat) (p3 : Int32) (μ : dtM) : Option (Int32 × dtM) :=
  (opGR 0 3 μ p1).bind fun x1 => (opLI 1 μ x1 p3).bind fun x3 => if x3 = (19 : Int32) then ((opGR 1 0 μ p0).bind fun x8 => (opGI 8 6 μ x8).bind fun x10 => (opGR 0 4 μ p1).bind fun x12 => (opSI μ x12 p3 x10).bind fun μ14 => if x10 = (12 : Int32) then (f_X1_readTest_59 p0 p1 p2 p3 x10 μ14) else (if x10 = (4 : Int32) then (f_X1_readTest_59 p0 p1 p2 p3 x10 μ14) else (if x10 = (20 : Int32) then (f_X1_readTest_59 p0 p1 p2 p3 x10 μ14) else ((opGR 1 0 μ14 p0).bind fun x25 => (opRv 8 μ14 x25).bind fun _ => opCall (f_X8_flaw x25 (2 : Int32) μ14) fun x30 μ28 => opRet x30 μ28)))) else (opRet (1 : Int32) μ)
set_option maxRecDepth 100000 in
theorem c_X1_readTest_172 {r : Int32} {F : dtM} (s0 : Int32) (μ : dtM) (h : f_X1_readTest_172 s0 μ = some (r, F)) : dtW yX1_readTest cX1_readTest 5 (some .boolean) 10 (some (.int r)) F 172 [] [.int s0] μ := by
  rw [f_X1_readTest_172] at h
  obtain ⟨hz, rfl, rfl⟩ := dtRet h
  exact dr_ireturn dX1_readTest_172 (dtNz hz)
set_option maxRecDepth 100000 in
theorem c_X1_readTest_171 {r : Int32} {F : dtM}  (μ : dtM) (h : f_X1_readTest_171  μ = some (r, F)) : dtW yX1_readTest cX1_readTest 5 (some .boolean) 10 (some (.int r)) F 171 [] [] μ := by
  rw [f_X1_readTest_171] at h
  refine dr_iconst (0 : Int32) dX1_readTest_171 (by decide) ?_
  exact c_X1_readTest_172 (0 : Int32) μ h
set_option maxRecDepth 100000 in
theorem c_X1_readTest_136 {r : Int32} {F : dtM} (l0 : Nat) (l1 : Nat) (l2 : Nat) (l3 : Int32) (μ : dtM) (h : f_X1_readTest_136 l0 l1 l2 l3 μ = some (r, F)) : dtW yX1_readTest cX1_readTest 5 (some .boolean) 10 (some (.int r)) F 136 [some (.ref l0), some (.ref l1), some (.ref l2), some (.int l3)] [] μ := by
  rw [f_X1_readTest_136] at h
  refine dr_aload_n l0 dX1_readTest_136 rfl ?_
  refine dr_aload_n l1 dX1_readTest_137 rfl ?_
  refine dr_aload_n l2 dX1_readTest_138 rfl ?_
  refine dr_iload_n l3 dX1_readTest_139 rfl ?_
  obtain ⟨_, hb1, h⟩ := dtBind h
  obtain ⟨x4, μ2, e3, h⟩ := dtCall h
  refine dr_callV_i (S0 := []) [.ref l1, .ref l2, .int l3] x4 μ2 dX1_readTest_140 (c_X1_readWho l0 l1 l2 l3 μ e3) mf_X1_readWho wt_802 ws_23 wt_800 rfl (dtRv hb1) (by decide) rfl (Nat.le_of_ble_eq_true rfl) (Nat.le_of_ble_eq_true rfl) rfl ?_
  obtain ⟨ht6, hf7⟩ := dtIte h
  refine dr_if_eq 171 dX1_readTest_143 (by decide) (fun hc5 => ?_) (fun hc5 => ?_)
  · have h := ht6 hc5
    refine dr_mask [] [] rfl ?_
    exact c_X1_readTest_171 μ2 h
  · have h := hf7 hc5
    refine dr_aload_n l0 dX1_readTest_146 rfl ?_
    refine dr_aload_n l1 dX1_readTest_147 rfl ?_
    refine dr_iload_n l3 dX1_readTest_148 rfl ?_
    obtain ⟨_, hb8, h⟩ := dtBind h
    obtain ⟨x11, μ9, e10, h⟩ := dtCall h
    refine dr_callV_i (S0 := []) [.ref l1, .int l3] x11 μ9 dX1_readTest_149 (c_X1_readCompares l0 l1 l3 μ2 e10) mf_X1_readCompares wt_816 ws_26 wt_814 rfl (dtRv hb8) (by decide) rfl (Nat.le_of_ble_eq_true rfl) (Nat.le_of_ble_eq_true rfl) rfl ?_
    obtain ⟨ht13, hf14⟩ := dtIte h
    refine dr_if_eq 171 dX1_readTest_152 (by decide) (fun hc12 => ?_) (fun hc12 => ?_)
    · have h := ht13 hc12
      refine dr_mask [] [] rfl ?_
      exact c_X1_readTest_171 μ9 h
    · have h := hf14 hc12
      refine dr_aload_n l0 dX1_readTest_155 rfl ?_
      refine dr_aload_n l1 dX1_readTest_156 rfl ?_
      refine dr_iload_n l3 dX1_readTest_157 rfl ?_
      refine dr_iconst (0 : Int32) dX1_readTest_158 (by decide) ?_
      refine dr_bipush (8 : Int32) dX1_readTest_159 (by decide) ?_
      obtain ⟨_, hb15, h⟩ := dtBind h
      obtain ⟨x18, μ16, e17, h⟩ := dtCall h
      refine dr_callV_i (S0 := []) [.ref l1, .int l3, .int (0 : Int32), .int (8 : Int32)] x18 μ16 dX1_readTest_161 (c_X1_readWhat l0 l1 l3 (0 : Int32) (8 : Int32) μ9 e17) mf_X1_readWhat wt_811 ws_25 wt_809 rfl (dtRv hb15) (by decide) rfl (Nat.le_of_ble_eq_true rfl) (Nat.le_of_ble_eq_true rfl) rfl ?_
      obtain ⟨ht20, hf21⟩ := dtIte h
      refine dr_if_eq 171 dX1_readTest_164 (by decide) (fun hc19 => ?_) (fun hc19 => ?_)
      · have h := ht20 hc19
        refine dr_mask [] [] rfl ?_
        exact c_X1_readTest_171 μ16 h
      · have h := hf21 hc19
        refine dr_iconst (1 : Int32) dX1_readTest_167 (by decide) ?_
        refine dr_goto 172 dX1_readTest_168 (by decide) ?_
        refine dr_mask [] [] rfl ?_
        exact c_X1_readTest_172 (1 : Int32) μ16 h
set_option maxRecDepth 100000 in
theorem c_X1_readTest_122 {r : Int32} {F : dtM} (l0 : Nat) (l1 : Nat) (l2 : Nat) (l3 : Int32) (μ : dtM) (h : f_X1_readTest_122 l0 l1 l2 l3 μ = some (r, F)) : dtW yX1_readTest cX1_readTest 5 (some .boolean) 10 (some (.int r)) F 122 [some (.ref l0), some (.ref l1), some (.ref l2), some (.int l3)] [] μ := by
  rw [f_X1_readTest_122] at h
  refine dr_aload_n l0 dX1_readTest_122 rfl ?_
  refine dr_aload_n l1 dX1_readTest_123 rfl ?_
  refine dr_iload_n l3 dX1_readTest_124 rfl ?_
  refine dr_iconst (0 : Int32) dX1_readTest_125 (by decide) ?_
  refine dr_aload_n l2 dX1_readTest_126 rfl ?_
  obtain ⟨x1, e2, h⟩ := dtBind h
  refine dr_getI x1 dX1_readTest_127 fl_RX1_95 e2 ?_
  refine dr_iconst (1 : Int32) dX1_readTest_130 (by decide) ?_
  refine dr_isub dX1_readTest_131 ?_
  obtain ⟨_, hb3, h⟩ := dtBind h
  obtain ⟨x6, μ4, e5, h⟩ := dtCall h
  refine dr_callV_i (S0 := []) [.ref l1, .int l3, .int (0 : Int32), .int (x1 - (1 : Int32))] x6 μ4 dX1_readTest_132 (c_X1_readWhat l0 l1 l3 (0 : Int32) (x1 - (1 : Int32)) μ e5) mf_X1_readWhat wt_811 ws_25 wt_809 rfl (dtRv hb3) (by decide) rfl (Nat.le_of_ble_eq_true rfl) (Nat.le_of_ble_eq_true rfl) rfl ?_
  obtain ⟨hz, rfl, rfl⟩ := dtRet h
  exact dr_ireturn dX1_readTest_135 (dtNz hz)
set_option maxRecDepth 100000 in
theorem c_X1_readTest_121 {r : Int32} {F : dtM} (s0 : Int32) (μ : dtM) (h : f_X1_readTest_121 s0 μ = some (r, F)) : dtW yX1_readTest cX1_readTest 5 (some .boolean) 10 (some (.int r)) F 121 [] [.int s0] μ := by
  rw [f_X1_readTest_121] at h
  obtain ⟨hz, rfl, rfl⟩ := dtRet h
  exact dr_ireturn dX1_readTest_121 (dtNz hz)
set_option maxRecDepth 100000 in
theorem c_X1_readTest_120 {r : Int32} {F : dtM}  (μ : dtM) (h : f_X1_readTest_120  μ = some (r, F)) : dtW yX1_readTest cX1_readTest 5 (some .boolean) 10 (some (.int r)) F 120 [] [] μ := by
  rw [f_X1_readTest_120] at h
  refine dr_iconst (0 : Int32) dX1_readTest_120 (by decide) ?_
  exact c_X1_readTest_121 (0 : Int32) μ h
set_option maxRecDepth 100000 in
theorem c_X1_readTest_96 {r : Int32} {F : dtM} (l0 : Nat) (l1 : Nat) (l2 : Nat) (l3 : Int32) (μ : dtM) (h : f_X1_readTest_96 l0 l1 l2 l3 μ = some (r, F)) : dtW yX1_readTest cX1_readTest 5 (some .boolean) 10 (some (.int r)) F 96 [some (.ref l0), some (.ref l1), some (.ref l2), some (.int l3)] [] μ := by
  rw [f_X1_readTest_96] at h
  refine dr_aload_n l0 dX1_readTest_96 rfl ?_
  refine dr_aload_n l1 dX1_readTest_97 rfl ?_
  refine dr_aload_n l2 dX1_readTest_98 rfl ?_
  refine dr_iload_n l3 dX1_readTest_99 rfl ?_
  obtain ⟨_, hb1, h⟩ := dtBind h
  obtain ⟨x4, μ2, e3, h⟩ := dtCall h
  refine dr_callV_i (S0 := []) [.ref l1, .ref l2, .int l3] x4 μ2 dX1_readTest_100 (c_X1_readWho l0 l1 l2 l3 μ e3) mf_X1_readWho wt_802 ws_23 wt_800 rfl (dtRv hb1) (by decide) rfl (Nat.le_of_ble_eq_true rfl) (Nat.le_of_ble_eq_true rfl) rfl ?_
  obtain ⟨ht6, hf7⟩ := dtIte h
  refine dr_if_eq 120 dX1_readTest_103 (by decide) (fun hc5 => ?_) (fun hc5 => ?_)
  · have h := ht6 hc5
    refine dr_mask [] [] rfl ?_
    exact c_X1_readTest_120 μ2 h
  · have h := hf7 hc5
    refine dr_aload_n l0 dX1_readTest_106 rfl ?_
    refine dr_aload_n l1 dX1_readTest_107 rfl ?_
    refine dr_aload_n l2 dX1_readTest_108 rfl ?_
    refine dr_iload_n l3 dX1_readTest_109 rfl ?_
    obtain ⟨_, hb8, h⟩ := dtBind h
    obtain ⟨x11, μ9, e10, h⟩ := dtCall h
    refine dr_callV_i (S0 := []) [.ref l1, .ref l2, .int l3] x11 μ9 dX1_readTest_110 (c_X1_readRoomName l0 l1 l2 l3 μ2 e10) mf_X1_readRoomName wt_807 ws_24 wt_805 rfl (dtRv hb8) (by decide) rfl (Nat.le_of_ble_eq_true rfl) (Nat.le_of_ble_eq_true rfl) rfl ?_
    obtain ⟨ht13, hf14⟩ := dtIte h
    refine dr_if_eq 120 dX1_readTest_113 (by decide) (fun hc12 => ?_) (fun hc12 => ?_)
    · have h := ht13 hc12
      refine dr_mask [] [] rfl ?_
      exact c_X1_readTest_120 μ9 h
    · have h := hf14 hc12
      refine dr_iconst (1 : Int32) dX1_readTest_116 (by decide) ?_
      refine dr_goto 121 dX1_readTest_117 (by decide) ?_
      refine dr_mask [] [] rfl ?_
      exact c_X1_readTest_121 (1 : Int32) μ9 h
set_option maxRecDepth 100000 in
theorem c_X1_readTest_59 {r : Int32} {F : dtM} (l0 : Nat) (l1 : Nat) (l2 : Nat) (l3 : Int32) (l4 : Int32) (μ : dtM) (h : f_X1_readTest_59 l0 l1 l2 l3 l4 μ = some (r, F)) : dtW yX1_readTest cX1_readTest 5 (some .boolean) 10 (some (.int r)) F 59 [some (.ref l0), some (.ref l1), some (.ref l2), some (.int l3), some (.int l4)] [] μ := by
  rw [f_X1_readTest_59] at h
  refine dr_aload_n l0 dX1_readTest_59 rfl ?_
  obtain ⟨x1, e2, h⟩ := dtBind h
  refine dr_getR x1 dX1_readTest_60 fl_RX1_12 e2 ?_
  obtain ⟨_, hb3, h⟩ := dtBind h
  obtain ⟨μ4, e5, h⟩ := dtBind h
  refine dr_callV_v (S0 := []) [] μ4 dX1_readTest_63 (c_X8_advance x1 μ e5) mf_X8_advance wt_551 wt_552 wt_786 rfl (dtRv hb3) (by decide) rfl (Nat.le_of_ble_eq_true rfl) (Nat.le_of_ble_eq_true rfl) rfl ?_
  refine dr_iload l4 dX1_readTest_66 rfl ?_
  obtain ⟨ht6, h⟩ := dtIte h
  refine Decidable.byCases (dec := inferInstance) (fun hc8 : l4 = 4 => ?_) (fun hc8 => ?_)
  · have h := ht6 hc8
    refine dr_lookup (off := 54) 122 dX1_readTest_68 (by decide) (by rw [hc8]; rfl) (by decide) ?_
    refine dr_mask [true, true, true, true] [some (.ref l0), some (.ref l1), some (.ref l2), some (.int l3)] rfl ?_
    exact c_X1_readTest_122 l0 l1 l2 l3 μ4 h
  have h := h hc8
  obtain ⟨ht9, h⟩ := dtIte h
  refine Decidable.byCases (dec := inferInstance) (fun hc11 : l4 = 12 => ?_) (fun hc11 => ?_)
  · have h := ht9 hc11
    refine dr_lookup (off := 28) 96 dX1_readTest_68 (by decide) (by rw [hc11]; rfl) (by decide) ?_
    refine dr_mask [true, true, true, true] [some (.ref l0), some (.ref l1), some (.ref l2), some (.int l3)] rfl ?_
    exact c_X1_readTest_96 l0 l1 l2 l3 μ4 h
  have h := h hc11
  have kd12 : dtW yX1_readTest cX1_readTest 5 (some .boolean) 10 (some (.int r)) F 136 [some (.ref l0), some (.ref l1), some (.ref l2), some (.int l3), some (.int l4)] [] μ4 := by
    refine dr_mask [true, true, true, true] [some (.ref l0), some (.ref l1), some (.ref l2), some (.int l3)] rfl ?_
    exact c_X1_readTest_136 l0 l1 l2 l3 μ4 h
  exact dr_lookup (off := 68) 136 dX1_readTest_68 (by decide) (by show Op.lookupswitch.offset [((4 : Int), (54 : Int)), ((12 : Int), (28 : Int))] (68) _ = _; rw [lv_osw hc8 (show (4 : Int32).toInt = (4 : Int) by decide), lv_osw hc11 (show (12 : Int32).toInt = (12 : Int) by decide)]; rfl) (by decide) kd12
set_option maxRecDepth 100000 in
theorem c_X1_readTest {r : Int32} {F : dtM} (p0 : Nat) (p1 : Nat) (p2 : Nat) (p3 : Int32) (μ : dtM) (h : f_X1_readTest p0 p1 p2 p3 μ = some (r, F)) : dtMet yX1_readTest cX1_readTest 5 (some .boolean) 10 [.ref p0, .ref p1, .ref p2, .int p3] μ (some (.int r)) F := by
  refine dtMet.of (by decide +kernel) (Nat.le_of_ble_eq_true rfl) (show dtW yX1_readTest cX1_readTest 5 (some .boolean) 10 (some (.int r)) F 0 [some (.ref p0), some (.ref p1), some (.ref p2), some (.int p3)] [] μ from ?_)
  rw [f_X1_readTest] at h
  refine dr_aload_n p1 dX1_readTest_0 rfl ?_
  obtain ⟨x1, e2, h⟩ := dtBind h
  refine dr_getR x1 dX1_readTest_1 fl_RX1_89 e2 ?_
  refine dr_iload_n p3 dX1_readTest_4 rfl ?_
  obtain ⟨x3, e4, h⟩ := dtBind h
  refine dr_iaload x3 dX1_readTest_5 e4 ?_
  refine dr_bipush (19 : Int32) dX1_readTest_6 (by decide) ?_
  obtain ⟨ht6, hf7⟩ := dtIte h
  refine dr_icmp_eq 13 dX1_readTest_8 (by decide) (fun hc5 => ?_) (fun hc5 => ?_)
  · have h := ht6 hc5
    refine dr_aload_n p0 dX1_readTest_13 rfl ?_
    obtain ⟨x8, e9, h⟩ := dtBind h
    refine dr_getR x8 dX1_readTest_14 fl_RX1_12 e9 ?_
    obtain ⟨x10, e11, h⟩ := dtBind h
    refine dr_getI x10 dX1_readTest_17 fl_RX1_39 e11 ?_
    refine dr_istore [some (.ref p0), some (.ref p1), some (.ref p2), some (.int p3), some (.int x10)] dX1_readTest_20 rfl rfl rfl ?_
    refine dr_aload_n p1 dX1_readTest_22 rfl ?_
    obtain ⟨x12, e13, h⟩ := dtBind h
    refine dr_getR x12 dX1_readTest_23 fl_RX1_108 e13 ?_
    refine dr_iload_n p3 dX1_readTest_26 rfl ?_
    refine dr_iload x10 dX1_readTest_27 rfl ?_
    obtain ⟨μ14, e15, h⟩ := dtBind h
    refine dr_iastore μ14 dX1_readTest_29 e15 ?_
    refine dr_iload x10 dX1_readTest_30 rfl ?_
    refine dr_bipush (12 : Int32) dX1_readTest_32 (by decide) ?_
    obtain ⟨ht17, hf18⟩ := dtIte h
    refine dr_icmp_eq 59 dX1_readTest_34 (by decide) (fun hc16 => ?_) (fun hc16 => ?_)
    · have h := ht17 hc16
      exact c_X1_readTest_59 p0 p1 p2 p3 x10 μ14 h
    · have h := hf18 hc16
      refine dr_iload x10 dX1_readTest_37 rfl ?_
      refine dr_iconst (4 : Int32) dX1_readTest_39 (by decide) ?_
      obtain ⟨ht20, hf21⟩ := dtIte h
      refine dr_icmp_eq 59 dX1_readTest_40 (by decide) (fun hc19 => ?_) (fun hc19 => ?_)
      · have h := ht20 hc19
        exact c_X1_readTest_59 p0 p1 p2 p3 x10 μ14 h
      · have h := hf21 hc19
        refine dr_iload x10 dX1_readTest_43 rfl ?_
        refine dr_bipush (20 : Int32) dX1_readTest_45 (by decide) ?_
        obtain ⟨ht23, hf24⟩ := dtIte h
        refine dr_icmp_eq 59 dX1_readTest_47 (by decide) (fun hc22 => ?_) (fun hc22 => ?_)
        · have h := ht23 hc22
          exact c_X1_readTest_59 p0 p1 p2 p3 x10 μ14 h
        · have h := hf24 hc22
          refine dr_aload_n p0 dX1_readTest_50 rfl ?_
          obtain ⟨x25, e26, h⟩ := dtBind h
          refine dr_getR x25 dX1_readTest_51 fl_RX1_12 e26 ?_
          refine dr_iconst (2 : Int32) dX1_readTest_54 (by decide) ?_
          obtain ⟨_, hb27, h⟩ := dtBind h
          obtain ⟨x30, μ28, e29, h⟩ := dtCall h
          refine dr_callV_i (S0 := []) [.int (2 : Int32)] x30 μ28 dX1_readTest_55 (c_X8_flaw x25 (2 : Int32) μ14 e29) mf_X8_flaw wt_629 wt_630 wt_781 rfl (dtRv hb27) (by decide) rfl (Nat.le_of_ble_eq_true rfl) (Nat.le_of_ble_eq_true rfl) rfl ?_
          obtain ⟨hz, rfl, rfl⟩ := dtRet h
          exact dr_ireturn dX1_readTest_58 (dtNz hz)
  · have h := hf7 hc5
    refine dr_iconst (1 : Int32) dX1_readTest_11 (by decide) ?_
    obtain ⟨hz, rfl, rfl⟩ := dtRet h
    exact dr_ireturn dX1_readTest_12 (dtNz hz)
/-! X8_begin -/
theorem dX8_begin_0 : decode cX8_begin 0 = .ok (.aload_n 0, 1) := by decide +kernel
theorem dX8_begin_1 : decode cX8_begin 1 = .ok (.aload_n 1, 1) := by decide +kernel
theorem dX8_begin_2 : decode cX8_begin 2 = .ok (.putfield 9, 3) := by decide +kernel
theorem dX8_begin_5 : decode cX8_begin 5 = .ok (.aload_n 0, 1) := by decide +kernel
theorem dX8_begin_6 : decode cX8_begin 6 = .ok (.iload_n 2, 1) := by decide +kernel
theorem dX8_begin_7 : decode cX8_begin 7 = .ok (.aload_n 1, 1) := by decide +kernel
theorem dX8_begin_8 : decode cX8_begin 8 = .ok (.arraylength, 1) := by decide +kernel
theorem dX8_begin_9 : decode cX8_begin 9 = .ok (.invokestatic 15, 3) := by decide +kernel
theorem dX8_begin_12 : decode cX8_begin 12 = .ok (.putfield 21, 3) := by decide +kernel
theorem dX8_begin_15 : decode cX8_begin 15 = .ok (.aload_n 0, 1) := by decide +kernel
theorem dX8_begin_16 : decode cX8_begin 16 = .ok (.iconst 0, 1) := by decide +kernel
theorem dX8_begin_17 : decode cX8_begin 17 = .ok (.putfield 25, 3) := by decide +kernel
theorem dX8_begin_20 : decode cX8_begin 20 = .ok (.aload_n 0, 1) := by decide +kernel
theorem dX8_begin_21 : decode cX8_begin 21 = .ok (.iconst 0, 1) := by decide +kernel
theorem dX8_begin_22 : decode cX8_begin 22 = .ok (.putfield 28, 3) := by decide +kernel
theorem dX8_begin_25 : decode cX8_begin 25 = .ok (.aload_n 0, 1) := by decide +kernel
theorem dX8_begin_26 : decode cX8_begin 26 = .ok (.iconst (-1), 1) := by decide +kernel
theorem dX8_begin_27 : decode cX8_begin 27 = .ok (.putfield 31, 3) := by decide +kernel
theorem dX8_begin_30 : decode cX8_begin 30 = .ok (.aload_n 0, 1) := by decide +kernel
theorem dX8_begin_31 : decode cX8_begin 31 = .ok (.invokevirtual 34, 3) := by decide +kernel
theorem dX8_begin_34 : decode cX8_begin 34 = .ok (.return_, 1) := by decide +kernel
set_option maxRecDepth 100000 in
def f_X8_begin (p0 : Nat) (p1 : Nat) (p2 : Int32) (μ : dtM) : Option dtM :=
  (opPR 8 0 μ p0 p1).bind fun μ1 => (opAL μ1 p1).bind fun x3 => (some (if x3 < p2 then x3 else p2)).bind fun x5 => (opPI 8 1 μ1 p0 x5).bind fun μ7 => (opPI 8 3 μ7 p0 (0 : Int32)).bind fun μ9 => (opPI 8 8 μ9 p0 (0 : Int32)).bind fun μ11 => (opPI 8 9 μ11 p0 (-1 : Int32)).bind fun μ13 => (opRv 8 μ13 p0).bind fun _ => (f_X8_advance p0 μ13).bind fun μ16 => some μ16
set_option maxRecDepth 100000 in
theorem c_X8_begin {F : dtM} (p0 : Nat) (p1 : Nat) (p2 : Int32) (μ : dtM) (h : f_X8_begin p0 p1 p2 μ = some F) : dtMet yX8_begin cX8_begin 3 (none) 8 [.ref p0, .ref p1, .int p2] μ (none) F := by
  refine dtMet.of (by decide +kernel) (Nat.le_of_ble_eq_true rfl) (show dtW yX8_begin cX8_begin 3 (none) 8 (none) F 0 [some (.ref p0), some (.ref p1), some (.int p2)] [] μ from ?_)
  rw [f_X8_begin] at h
  refine dr_aload_n p0 dX8_begin_0 rfl ?_
  refine dr_aload_n p1 dX8_begin_1 rfl ?_
  obtain ⟨μ1, e2, h⟩ := dtBind h
  refine dr_putR μ1 dX8_begin_2 fl_RX8_9 rfl e2 ?_
  refine dr_aload_n p0 dX8_begin_5 rfl ?_
  refine dr_iload_n p2 dX8_begin_6 rfl ?_
  refine dr_aload_n p1 dX8_begin_7 rfl ?_
  obtain ⟨x3, e4, h⟩ := dtBind h
  refine dr_arraylength x3 dX8_begin_8 e4 ?_
  refine dr_min dX8_begin_9 wt_547 wt_548 wt_15 wt_549 (Nat.le_of_ble_eq_true rfl) rfl ?_
  obtain ⟨x5, e6, h⟩ := dtBind h
  refine dr_nmi e6 ?_
  obtain ⟨μ7, e8, h⟩ := dtBind h
  refine dr_putI μ7 dX8_begin_12 fl_RX8_21 rfl e8 ?_
  refine dr_aload_n p0 dX8_begin_15 rfl ?_
  refine dr_iconst (0 : Int32) dX8_begin_16 (by decide) ?_
  obtain ⟨μ9, e10, h⟩ := dtBind h
  refine dr_putI μ9 dX8_begin_17 fl_RX8_25 rfl e10 ?_
  refine dr_aload_n p0 dX8_begin_20 rfl ?_
  refine dr_iconst (0 : Int32) dX8_begin_21 (by decide) ?_
  obtain ⟨μ11, e12, h⟩ := dtBind h
  refine dr_putI μ11 dX8_begin_22 fl_RX8_28 rfl e12 ?_
  refine dr_aload_n p0 dX8_begin_25 rfl ?_
  refine dr_iconst (-1 : Int32) dX8_begin_26 (by decide) ?_
  obtain ⟨μ13, e14, h⟩ := dtBind h
  refine dr_putI μ13 dX8_begin_27 fl_RX8_31 rfl e14 ?_
  refine dr_aload_n p0 dX8_begin_30 rfl ?_
  obtain ⟨_, hb15, h⟩ := dtBind h
  obtain ⟨μ16, e17, h⟩ := dtBind h
  refine dr_callV_v (S0 := []) [] μ16 dX8_begin_31 (c_X8_advance p0 μ13 e17) mf_X8_advance wt_551 wt_552 wt_550 rfl (dtRv hb15) (by decide) rfl (Nat.le_of_ble_eq_true rfl) (Nat.le_of_ble_eq_true rfl) rfl ?_
  cases h
  exact dr_return dX8_begin_34
/-! X8_isOver -/
theorem dX8_isOver_0 : decode cX8_isOver 0 = .ok (.aload_n 0, 1) := by decide +kernel
theorem dX8_isOver_1 : decode cX8_isOver 1 = .ok (.getfield 40, 3) := by decide +kernel
theorem dX8_isOver_4 : decode cX8_isOver 4 = .ok (.ifCond .ne 7, 3) := by decide +kernel
theorem dX8_isOver_7 : decode cX8_isOver 7 = .ok (.iconst 1, 1) := by decide +kernel
theorem dX8_isOver_8 : decode cX8_isOver 8 = .ok (.goto 4, 3) := by decide +kernel
theorem dX8_isOver_11 : decode cX8_isOver 11 = .ok (.iconst 0, 1) := by decide +kernel
theorem dX8_isOver_12 : decode cX8_isOver 12 = .ok (.ireturn, 1) := by decide +kernel
set_option maxRecDepth 100000 in
def f_X8_isOver_12 (s0 : Int32) (μ : dtM) : Option (Int32 × dtM) :=
  opRet s0 μ
set_option maxRecDepth 100000 in
def f_X8_isOver (p0 : Nat) (μ : dtM) : Option (Int32 × dtM) :=
  (opGI 8 4 μ p0).bind fun x1 => if x1 = 0 then (f_X8_isOver_12 (1 : Int32) μ) else (f_X8_isOver_12 (0 : Int32) μ)
set_option maxRecDepth 100000 in
theorem c_X8_isOver_12 {r : Int32} {F : dtM} (s0 : Int32) (μ : dtM) (h : f_X8_isOver_12 s0 μ = some (r, F)) : dtW yX8_isOver cX8_isOver 1 (some .boolean) 1 (some (.int r)) F 12 [] [.int s0] μ := by
  rw [f_X8_isOver_12] at h
  obtain ⟨hz, rfl, rfl⟩ := dtRet h
  exact dr_ireturn dX8_isOver_12 (dtNz hz)
set_option maxRecDepth 100000 in
theorem c_X8_isOver {r : Int32} {F : dtM} (p0 : Nat) (μ : dtM) (h : f_X8_isOver p0 μ = some (r, F)) : dtMet yX8_isOver cX8_isOver 1 (some .boolean) 1 [.ref p0] μ (some (.int r)) F := by
  refine dtMet.of (by decide +kernel) (Nat.le_of_ble_eq_true rfl) (show dtW yX8_isOver cX8_isOver 1 (some .boolean) 1 (some (.int r)) F 0 [some (.ref p0)] [] μ from ?_)
  rw [f_X8_isOver] at h
  refine dr_aload_n p0 dX8_isOver_0 rfl ?_
  obtain ⟨x1, e2, h⟩ := dtBind h
  refine dr_getI x1 dX8_isOver_1 fl_RX8_40 e2 ?_
  obtain ⟨ht4, hf5⟩ := dtIte h
  refine dr_if_ne 11 dX8_isOver_4 (by decide) (fun hc3 => ?_) (fun hc3 => ?_)
  · have h := hf5 hc3
    refine dr_iconst (0 : Int32) dX8_isOver_11 (by decide) ?_
    refine dr_mask [] [] rfl ?_
    exact c_X8_isOver_12 (0 : Int32) μ h
  · have h := ht4 hc3
    refine dr_iconst (1 : Int32) dX8_isOver_7 (by decide) ?_
    refine dr_goto 12 dX8_isOver_8 (by decide) ?_
    refine dr_mask [] [] rfl ?_
    exact c_X8_isOver_12 (1 : Int32) μ h
/-! X1_readInto -/
theorem dX1_readInto_0 : decode cX1_readInto 0 = .ok (.aload_n 1, 1) := by decide +kernel
theorem dX1_readInto_1 : decode cX1_readInto 1 = .ok (.invokevirtual 22, 3) := by decide +kernel
theorem dX1_readInto_4 : decode cX1_readInto 4 = .ok (.aload_n 0, 1) := by decide +kernel
theorem dX1_readInto_5 : decode cX1_readInto 5 = .ok (.iconst 0, 1) := by decide +kernel
theorem dX1_readInto_6 : decode cX1_readInto 6 = .ok (.putfield 27, 3) := by decide +kernel
theorem dX1_readInto_9 : decode cX1_readInto 9 = .ok (.aload_n 0, 1) := by decide +kernel
theorem dX1_readInto_10 : decode cX1_readInto 10 = .ok (.getfield 12, 3) := by decide +kernel
theorem dX1_readInto_13 : decode cX1_readInto 13 = .ok (.aload_n 3, 1) := by decide +kernel
theorem dX1_readInto_14 : decode cX1_readInto 14 = .ok (.iload 4, 2) := by decide +kernel
theorem dX1_readInto_16 : decode cX1_readInto 16 = .ok (.invokevirtual 31, 3) := by decide +kernel
theorem dX1_readInto_19 : decode cX1_readInto 19 = .ok (.iconst 1, 1) := by decide +kernel
theorem dX1_readInto_20 : decode cX1_readInto 20 = .ok (.istore 5, 2) := by decide +kernel
theorem dX1_readInto_22 : decode cX1_readInto 22 = .ok (.iconst 0, 1) := by decide +kernel
theorem dX1_readInto_23 : decode cX1_readInto 23 = .ok (.istore 6, 2) := by decide +kernel
theorem dX1_readInto_25 : decode cX1_readInto 25 = .ok (.iload 5, 2) := by decide +kernel
theorem dX1_readInto_27 : decode cX1_readInto 27 = .ok (.ifCond .eq 102, 3) := by decide +kernel
theorem dX1_readInto_30 : decode cX1_readInto 30 = .ok (.iload 6, 2) := by decide +kernel
theorem dX1_readInto_32 : decode cX1_readInto 32 = .ok (.iload 4, 2) := by decide +kernel
theorem dX1_readInto_34 : decode cX1_readInto 34 = .ok (.if_icmp .gt 95, 3) := by decide +kernel
theorem dX1_readInto_37 : decode cX1_readInto 37 = .ok (.aload_n 0, 1) := by decide +kernel
theorem dX1_readInto_38 : decode cX1_readInto 38 = .ok (.getfield 12, 3) := by decide +kernel
theorem dX1_readInto_41 : decode cX1_readInto 41 = .ok (.invokevirtual 35, 3) := by decide +kernel
theorem dX1_readInto_44 : decode cX1_readInto 44 = .ok (.ifCond .ne 85, 3) := by decide +kernel
theorem dX1_readInto_47 : decode cX1_readInto 47 = .ok (.aload_n 0, 1) := by decide +kernel
theorem dX1_readInto_48 : decode cX1_readInto 48 = .ok (.getfield 12, 3) := by decide +kernel
theorem dX1_readInto_51 : decode cX1_readInto 51 = .ok (.getfield 39, 3) := by decide +kernel
theorem dX1_readInto_54 : decode cX1_readInto 54 = .ok (.bipush 22, 2) := by decide +kernel
theorem dX1_readInto_56 : decode cX1_readInto 56 = .ok (.if_icmp .ne 13, 3) := by decide +kernel
theorem dX1_readInto_59 : decode cX1_readInto 59 = .ok (.aload_n 0, 1) := by decide +kernel
theorem dX1_readInto_60 : decode cX1_readInto 60 = .ok (.aload_n 1, 1) := by decide +kernel
theorem dX1_readInto_61 : decode cX1_readInto 61 = .ok (.invokevirtual 42, 3) := by decide +kernel
theorem dX1_readInto_64 : decode cX1_readInto 64 = .ok (.istore 5, 2) := by decide +kernel
theorem dX1_readInto_66 : decode cX1_readInto 66 = .ok (.goto 57, 3) := by decide +kernel
theorem dX1_readInto_69 : decode cX1_readInto 69 = .ok (.aload_n 0, 1) := by decide +kernel
theorem dX1_readInto_70 : decode cX1_readInto 70 = .ok (.aload_n 1, 1) := by decide +kernel
theorem dX1_readInto_71 : decode cX1_readInto 71 = .ok (.invokevirtual 46, 3) := by decide +kernel
theorem dX1_readInto_74 : decode cX1_readInto 74 = .ok (.istore 7, 2) := by decide +kernel
theorem dX1_readInto_76 : decode cX1_readInto 76 = .ok (.iload 7, 2) := by decide +kernel
theorem dX1_readInto_78 : decode cX1_readInto 78 = .ok (.iconst (-1), 1) := by decide +kernel
theorem dX1_readInto_79 : decode cX1_readInto 79 = .ok (.if_icmp .eq 41, 3) := by decide +kernel
theorem dX1_readInto_82 : decode cX1_readInto 82 = .ok (.aload_n 0, 1) := by decide +kernel
theorem dX1_readInto_83 : decode cX1_readInto 83 = .ok (.aload_n 1, 1) := by decide +kernel
theorem dX1_readInto_84 : decode cX1_readInto 84 = .ok (.aload_n 2, 1) := by decide +kernel
theorem dX1_readInto_85 : decode cX1_readInto 85 = .ok (.iload 7, 2) := by decide +kernel
theorem dX1_readInto_87 : decode cX1_readInto 87 = .ok (.invokevirtual 50, 3) := by decide +kernel
theorem dX1_readInto_90 : decode cX1_readInto 90 = .ok (.ifCond .eq 30, 3) := by decide +kernel
theorem dX1_readInto_93 : decode cX1_readInto 93 = .ok (.aload_n 0, 1) := by decide +kernel
theorem dX1_readInto_94 : decode cX1_readInto 94 = .ok (.aload_n 1, 1) := by decide +kernel
theorem dX1_readInto_95 : decode cX1_readInto 95 = .ok (.aload_n 2, 1) := by decide +kernel
theorem dX1_readInto_96 : decode cX1_readInto 96 = .ok (.iload 7, 2) := by decide +kernel
theorem dX1_readInto_98 : decode cX1_readInto 98 = .ok (.invokevirtual 54, 3) := by decide +kernel
theorem dX1_readInto_101 : decode cX1_readInto 101 = .ok (.ifCond .eq 19, 3) := by decide +kernel
theorem dX1_readInto_104 : decode cX1_readInto 104 = .ok (.aload_n 0, 1) := by decide +kernel
theorem dX1_readInto_105 : decode cX1_readInto 105 = .ok (.getfield 12, 3) := by decide +kernel
theorem dX1_readInto_108 : decode cX1_readInto 108 = .ok (.bipush 59, 2) := by decide +kernel
theorem dX1_readInto_110 : decode cX1_readInto 110 = .ok (.invokevirtual 57, 3) := by decide +kernel
theorem dX1_readInto_113 : decode cX1_readInto 113 = .ok (.ifCond .eq 7, 3) := by decide +kernel
theorem dX1_readInto_116 : decode cX1_readInto 116 = .ok (.iconst 1, 1) := by decide +kernel
theorem dX1_readInto_117 : decode cX1_readInto 117 = .ok (.goto 4, 3) := by decide +kernel
theorem dX1_readInto_120 : decode cX1_readInto 120 = .ok (.iconst 0, 1) := by decide +kernel
theorem dX1_readInto_121 : decode cX1_readInto 121 = .ok (.istore 5, 2) := by decide +kernel
theorem dX1_readInto_123 : decode cX1_readInto 123 = .ok (.iinc 6 1, 3) := by decide +kernel
theorem dX1_readInto_126 : decode cX1_readInto 126 = .ok (.goto (-101), 3) := by decide +kernel
theorem dX1_readInto_129 : decode cX1_readInto 129 = .ok (.aload_n 1, 1) := by decide +kernel
theorem dX1_readInto_130 : decode cX1_readInto 130 = .ok (.iload 5, 2) := by decide +kernel
theorem dX1_readInto_132 : decode cX1_readInto 132 = .ok (.putfield 61, 3) := by decide +kernel
theorem dX1_readInto_135 : decode cX1_readInto 135 = .ok (.iload 5, 2) := by decide +kernel
theorem dX1_readInto_137 : decode cX1_readInto 137 = .ok (.ifCond .eq 25, 3) := by decide +kernel
theorem dX1_readInto_140 : decode cX1_readInto 140 = .ok (.aload_n 0, 1) := by decide +kernel
theorem dX1_readInto_141 : decode cX1_readInto 141 = .ok (.getfield 27, 3) := by decide +kernel
theorem dX1_readInto_144 : decode cX1_readInto 144 = .ok (.ifCond .eq 14, 3) := by decide +kernel
theorem dX1_readInto_147 : decode cX1_readInto 147 = .ok (.aload_n 0, 1) := by decide +kernel
theorem dX1_readInto_148 : decode cX1_readInto 148 = .ok (.getfield 12, 3) := by decide +kernel
theorem dX1_readInto_151 : decode cX1_readInto 151 = .ok (.iconst 2, 1) := by decide +kernel
theorem dX1_readInto_152 : decode cX1_readInto 152 = .ok (.invokevirtual 65, 3) := by decide +kernel
theorem dX1_readInto_155 : decode cX1_readInto 155 = .ok (.ifCond .eq 7, 3) := by decide +kernel
theorem dX1_readInto_158 : decode cX1_readInto 158 = .ok (.iconst 1, 1) := by decide +kernel
theorem dX1_readInto_159 : decode cX1_readInto 159 = .ok (.goto 4, 3) := by decide +kernel
theorem dX1_readInto_162 : decode cX1_readInto 162 = .ok (.iconst 0, 1) := by decide +kernel
theorem dX1_readInto_163 : decode cX1_readInto 163 = .ok (.ireturn, 1) := by decide +kernel
set_option maxRecDepth 100000 in
def f_X1_readInto_163 (s0 : Int32) (μ : dtM) : Option (Int32 × dtM) :=
  opRet s0 μ
set_option maxRecDepth 100000 in
def f_X1_readInto_162  (μ : dtM) : Option (Int32 × dtM) :=
  f_X1_readInto_163 (0 : Int32) μ
set_option maxRecDepth 100000 in
def f_X1_readInto_158  (μ : dtM) : Option (Int32 × dtM) :=
  f_X1_readInto_163 (1 : Int32) μ
set_option maxRecDepth 100000 in
def f_X1_readInto_129 (l0 : Nat) (l1 : Nat) (l5 : Int32) (μ : dtM) : Option (Int32 × dtM) :=
  (opPZ 0 0 μ l1 l5).bind fun μ1 => if l5 = 0 then (f_X1_readInto_162 μ1) else ((opGI 1 2 μ1 l0).bind fun x6 => if x6 = 0 then (f_X1_readInto_158 μ1) else ((opGR 1 0 μ1 l0).bind fun x11 => (opRv 8 μ1 x11).bind fun _ => opCall (f_X8_flaw x11 (2 : Int32) μ1) fun x16 μ14 => if x16 = 0 then (f_X1_readInto_162 μ14) else (f_X1_readInto_158 μ14)))
set_option maxRecDepth 100000 in
def f_X1_readInto_123 (k25 : Nat → Nat → Nat → Int32 → Int32 → Int32 → dtM → Option (Int32 × dtM)) (l0 : Nat) (l1 : Nat) (l2 : Nat) (l4 : Int32) (l5 : Int32) (l6 : Int32) (μ : dtM) : Option (Int32 × dtM) :=
  k25 l0 l1 l2 l4 l5 (l6 + 1) μ
set_option maxRecDepth 100000 in
def f_X1_readInto_121 (k25 : Nat → Nat → Nat → Int32 → Int32 → Int32 → dtM → Option (Int32 × dtM)) (l0 : Nat) (l1 : Nat) (l2 : Nat) (l4 : Int32) (l6 : Int32) (s0 : Int32) (μ : dtM) : Option (Int32 × dtM) :=
  f_X1_readInto_123 k25 l0 l1 l2 l4 s0 l6 μ
set_option maxRecDepth 100000 in
def f_X1_readInto_120 (k25 : Nat → Nat → Nat → Int32 → Int32 → Int32 → dtM → Option (Int32 × dtM)) (l0 : Nat) (l1 : Nat) (l2 : Nat) (l4 : Int32) (l6 : Int32) (μ : dtM) : Option (Int32 × dtM) :=
  f_X1_readInto_121 k25 l0 l1 l2 l4 l6 (0 : Int32) μ
set_option maxRecDepth 100000 in
def f_X1_readInto_25 : Nat → Nat → Nat → Nat → Int32 → Int32 → Int32 → dtM → Option (Int32 × dtM)
  | 0, _, _, _, _, _, _, _ => none
  | n + 1, l0, l1, l2, l4, l5, l6, μ =>
    if l5 = 0 then (f_X1_readInto_129 l0 l1 l5 μ) else (if l4 < l6 then (f_X1_readInto_129 l0 l1 l5 μ) else ((opGR 1 0 μ l0).bind fun x7 => (opRv 8 μ x7).bind fun _ => opCall (f_X8_isOver x7 μ) fun x12 μ10 => if x12 = 0 then ((opGR 1 0 μ10 l0).bind fun x16 => (opGI 8 6 μ10 x16).bind fun x18 => if x18 = (22 : Int32) then ((opRv 1 μ10 l0).bind fun _ => opCall (f_X1_readEnd l0 l1 μ10) fun x56 μ54 => f_X1_readInto_123 (f_X1_readInto_25 n) l0 l1 l2 l4 x56 l6 μ54) else ((opRv 1 μ10 l0).bind fun _ => opCall (f_X1_beginStep l0 l1 μ10) fun x26 μ24 => if x26 = (-1 : Int32) then (f_X1_readInto_120 (f_X1_readInto_25 n) l0 l1 l2 l4 l6 μ24) else ((opRv 1 μ24 l0).bind fun _ => opCall (f_X1_readTest l0 l1 l2 x26 μ24) fun x33 μ31 => if x33 = 0 then (f_X1_readInto_120 (f_X1_readInto_25 n) l0 l1 l2 l4 l6 μ31) else ((opRv 1 μ31 l0).bind fun _ => opCall (f_X1_readRest l0 l1 l2 x26 μ31) fun x40 μ38 => if x40 = 0 then (f_X1_readInto_120 (f_X1_readInto_25 n) l0 l1 l2 l4 l6 μ38) else ((opGR 1 0 μ38 l0).bind fun x44 => (opRv 8 μ38 x44).bind fun _ => opCall (f_X8_passSign x44 (59 : Int32) μ38) fun x49 μ47 => if x49 = 0 then (f_X1_readInto_120 (f_X1_readInto_25 n) l0 l1 l2 l4 l6 μ47) else (f_X1_readInto_121 (f_X1_readInto_25 n) l0 l1 l2 l4 l6 (1 : Int32) μ47)))))) else (f_X1_readInto_129 l0 l1 l5 μ10)))
set_option maxRecDepth 100000 in
def f_X1_readInto (p0 : Nat) (p1 : Nat) (p2 : Nat) (p3 : Nat) (p4 : Int32) (μ : dtM) : Option (Int32 × dtM) :=
  (opRv 0 μ p1).bind fun _ => (f_X0_clear p1 μ).bind fun μ2 => (opPI 1 2 μ2 p0 (0 : Int32)).bind fun μ4 => (opGR 1 0 μ4 p0).bind fun x6 => (opRv 8 μ4 x6).bind fun _ => (f_X8_begin x6 p3 p4 μ4).bind fun μ9 => f_X1_readInto_25 dtFuel p0 p1 p2 p4 (1 : Int32) (0 : Int32) μ9
set_option maxRecDepth 100000 in
theorem c_X1_readInto_163 {r : Int32} {F : dtM} (s0 : Int32) (μ : dtM) (h : f_X1_readInto_163 s0 μ = some (r, F)) : dtW yX1_readInto cX1_readInto 8 (some .boolean) 11 (some (.int r)) F 163 [] [.int s0] μ := by
  rw [f_X1_readInto_163] at h
  obtain ⟨hz, rfl, rfl⟩ := dtRet h
  exact dr_ireturn dX1_readInto_163 (dtNz hz)
set_option maxRecDepth 100000 in
theorem c_X1_readInto_162 {r : Int32} {F : dtM}  (μ : dtM) (h : f_X1_readInto_162  μ = some (r, F)) : dtW yX1_readInto cX1_readInto 8 (some .boolean) 11 (some (.int r)) F 162 [] [] μ := by
  rw [f_X1_readInto_162] at h
  refine dr_iconst (0 : Int32) dX1_readInto_162 (by decide) ?_
  exact c_X1_readInto_163 (0 : Int32) μ h
set_option maxRecDepth 100000 in
theorem c_X1_readInto_158 {r : Int32} {F : dtM}  (μ : dtM) (h : f_X1_readInto_158  μ = some (r, F)) : dtW yX1_readInto cX1_readInto 8 (some .boolean) 11 (some (.int r)) F 158 [] [] μ := by
  rw [f_X1_readInto_158] at h
  refine dr_iconst (1 : Int32) dX1_readInto_158 (by decide) ?_
  refine dr_goto 163 dX1_readInto_159 (by decide) ?_
  exact c_X1_readInto_163 (1 : Int32) μ h
set_option maxRecDepth 100000 in
theorem c_X1_readInto_129 {r : Int32} {F : dtM} (l0 : Nat) (l1 : Nat) (l5 : Int32) (μ : dtM) (h : f_X1_readInto_129 l0 l1 l5 μ = some (r, F)) : dtW yX1_readInto cX1_readInto 8 (some .boolean) 11 (some (.int r)) F 129 [some (.ref l0), some (.ref l1), none, none, none, some (.int l5)] [] μ := by
  rw [f_X1_readInto_129] at h
  refine dr_aload_n l1 dX1_readInto_129 rfl ?_
  refine dr_iload l5 dX1_readInto_130 rfl ?_
  obtain ⟨μ1, e2, h⟩ := dtBind h
  refine dr_putZ μ1 dX1_readInto_132 fl_RX1_61 rfl e2 ?_
  refine dr_iload l5 dX1_readInto_135 rfl ?_
  obtain ⟨ht4, hf5⟩ := dtIte h
  refine dr_if_eq 162 dX1_readInto_137 (by decide) (fun hc3 => ?_) (fun hc3 => ?_)
  · have h := ht4 hc3
    refine dr_mask [] [] rfl ?_
    exact c_X1_readInto_162 μ1 h
  · have h := hf5 hc3
    refine dr_aload_n l0 dX1_readInto_140 rfl ?_
    obtain ⟨x6, e7, h⟩ := dtBind h
    refine dr_getI x6 dX1_readInto_141 fl_RX1_27 e7 ?_
    obtain ⟨ht9, hf10⟩ := dtIte h
    refine dr_if_eq 158 dX1_readInto_144 (by decide) (fun hc8 => ?_) (fun hc8 => ?_)
    · have h := ht9 hc8
      refine dr_mask [] [] rfl ?_
      exact c_X1_readInto_158 μ1 h
    · have h := hf10 hc8
      refine dr_aload_n l0 dX1_readInto_147 rfl ?_
      obtain ⟨x11, e12, h⟩ := dtBind h
      refine dr_getR x11 dX1_readInto_148 fl_RX1_12 e12 ?_
      refine dr_iconst (2 : Int32) dX1_readInto_151 (by decide) ?_
      obtain ⟨_, hb13, h⟩ := dtBind h
      obtain ⟨x16, μ14, e15, h⟩ := dtCall h
      refine dr_callV_i (S0 := []) [.int (2 : Int32)] x16 μ14 dX1_readInto_152 (c_X8_flaw x11 (2 : Int32) μ1 e15) mf_X8_flaw wt_629 wt_630 wt_781 rfl (dtRv hb13) (by decide) rfl (Nat.le_of_ble_eq_true rfl) (Nat.le_of_ble_eq_true rfl) rfl ?_
      obtain ⟨ht18, hf19⟩ := dtIte h
      refine dr_if_eq 162 dX1_readInto_155 (by decide) (fun hc17 => ?_) (fun hc17 => ?_)
      · have h := ht18 hc17
        refine dr_mask [] [] rfl ?_
        exact c_X1_readInto_162 μ14 h
      · have h := hf19 hc17
        refine dr_mask [] [] rfl ?_
        exact c_X1_readInto_158 μ14 h
set_option maxRecDepth 100000 in
theorem c_X1_readInto_123 {r : Int32} {F : dtM} (k25 : Nat → Nat → Nat → Int32 → Int32 → Int32 → dtM → Option (Int32 × dtM)) (hk25 : ∀ (l0 : Nat) (l1 : Nat) (l2 : Nat) (l4 : Int32) (l5 : Int32) (l6 : Int32) (μ : dtM), k25 l0 l1 l2 l4 l5 l6 μ = some (r, F) → dtW yX1_readInto cX1_readInto 8 (some .boolean) 11 (some (.int r)) F 25 [some (.ref l0), some (.ref l1), some (.ref l2), none, some (.int l4), some (.int l5), some (.int l6)] [] μ) (l0 : Nat) (l1 : Nat) (l2 : Nat) (l4 : Int32) (l5 : Int32) (l6 : Int32) (μ : dtM) (h : f_X1_readInto_123 k25 l0 l1 l2 l4 l5 l6 μ = some (r, F)) : dtW yX1_readInto cX1_readInto 8 (some .boolean) 11 (some (.int r)) F 123 [some (.ref l0), some (.ref l1), some (.ref l2), none, some (.int l4), some (.int l5), some (.int l6)] [] μ := by
  rw [f_X1_readInto_123] at h
  refine dr_iinc l6 (l6 + 1) [some (.ref l0), some (.ref l1), some (.ref l2), none, some (.int l4), some (.int l5), some (.int (l6 + 1))] dX1_readInto_123 rfl rfl rfl rfl rfl ?_
  refine dr_goto 25 dX1_readInto_126 (by decide) ?_
  exact hk25 l0 l1 l2 l4 l5 (l6 + 1) μ h
set_option maxRecDepth 100000 in
theorem c_X1_readInto_121 {r : Int32} {F : dtM} (k25 : Nat → Nat → Nat → Int32 → Int32 → Int32 → dtM → Option (Int32 × dtM)) (hk25 : ∀ (l0 : Nat) (l1 : Nat) (l2 : Nat) (l4 : Int32) (l5 : Int32) (l6 : Int32) (μ : dtM), k25 l0 l1 l2 l4 l5 l6 μ = some (r, F) → dtW yX1_readInto cX1_readInto 8 (some .boolean) 11 (some (.int r)) F 25 [some (.ref l0), some (.ref l1), some (.ref l2), none, some (.int l4), some (.int l5), some (.int l6)] [] μ) (l0 : Nat) (l1 : Nat) (l2 : Nat) (l4 : Int32) (l6 : Int32) (s0 : Int32) (μ : dtM) (h : f_X1_readInto_121 k25 l0 l1 l2 l4 l6 s0 μ = some (r, F)) : dtW yX1_readInto cX1_readInto 8 (some .boolean) 11 (some (.int r)) F 121 [some (.ref l0), some (.ref l1), some (.ref l2), none, some (.int l4), none, some (.int l6)] [.int s0] μ := by
  rw [f_X1_readInto_121] at h
  refine dr_istore [some (.ref l0), some (.ref l1), some (.ref l2), none, some (.int l4), some (.int s0), some (.int l6)] dX1_readInto_121 rfl rfl rfl ?_
  exact c_X1_readInto_123 k25 hk25 l0 l1 l2 l4 s0 l6 μ h
set_option maxRecDepth 100000 in
theorem c_X1_readInto_120 {r : Int32} {F : dtM} (k25 : Nat → Nat → Nat → Int32 → Int32 → Int32 → dtM → Option (Int32 × dtM)) (hk25 : ∀ (l0 : Nat) (l1 : Nat) (l2 : Nat) (l4 : Int32) (l5 : Int32) (l6 : Int32) (μ : dtM), k25 l0 l1 l2 l4 l5 l6 μ = some (r, F) → dtW yX1_readInto cX1_readInto 8 (some .boolean) 11 (some (.int r)) F 25 [some (.ref l0), some (.ref l1), some (.ref l2), none, some (.int l4), some (.int l5), some (.int l6)] [] μ) (l0 : Nat) (l1 : Nat) (l2 : Nat) (l4 : Int32) (l6 : Int32) (μ : dtM) (h : f_X1_readInto_120 k25 l0 l1 l2 l4 l6 μ = some (r, F)) : dtW yX1_readInto cX1_readInto 8 (some .boolean) 11 (some (.int r)) F 120 [some (.ref l0), some (.ref l1), some (.ref l2), none, some (.int l4), none, some (.int l6)] [] μ := by
  rw [f_X1_readInto_120] at h
  refine dr_iconst (0 : Int32) dX1_readInto_120 (by decide) ?_
  exact c_X1_readInto_121 k25 hk25 l0 l1 l2 l4 l6 (0 : Int32) μ h
set_option maxRecDepth 100000 in
theorem c_X1_readInto_25 {r : Int32} {F : dtM} : ∀ (n : Nat) (l0 : Nat) (l1 : Nat) (l2 : Nat) (l4 : Int32) (l5 : Int32) (l6 : Int32) (μ : dtM), f_X1_readInto_25 n l0 l1 l2 l4 l5 l6 μ = some (r, F) → dtW yX1_readInto cX1_readInto 8 (some .boolean) 11 (some (.int r)) F 25 [some (.ref l0), some (.ref l1), some (.ref l2), none, some (.int l4), some (.int l5), some (.int l6)] [] μ := by
  intro n
  induction n with
  | zero => intro l0 l1 l2 l4 l5 l6 μ h; cases h
  | succ n ih =>
    intro l0 l1 l2 l4 l5 l6 μ h
    have h := (show f_X1_readInto_25 (n + 1) l0 l1 l2 l4 l5 l6 μ = some _ from h)
    rw [f_X1_readInto_25] at h
    refine dr_iload l5 dX1_readInto_25 rfl ?_
    obtain ⟨ht2, hf3⟩ := dtIte h
    refine dr_if_eq 129 dX1_readInto_27 (by decide) (fun hc1 => ?_) (fun hc1 => ?_)
    · have h := ht2 hc1
      refine dr_mask [true, true, false, false, false, true] [some (.ref l0), some (.ref l1), none, none, none, some (.int l5)] rfl ?_
      exact c_X1_readInto_129 l0 l1 l5 μ h
    · have h := hf3 hc1
      refine dr_iload l6 dX1_readInto_30 rfl ?_
      refine dr_iload l4 dX1_readInto_32 rfl ?_
      obtain ⟨ht5, hf6⟩ := dtIte h
      refine dr_icmp_gt 129 dX1_readInto_34 (by decide) (fun hc4 => ?_) (fun hc4 => ?_)
      · have h := ht5 hc4
        refine dr_mask [true, true, false, false, false, true] [some (.ref l0), some (.ref l1), none, none, none, some (.int l5)] rfl ?_
        exact c_X1_readInto_129 l0 l1 l5 μ h
      · have h := hf6 hc4
        refine dr_aload_n l0 dX1_readInto_37 rfl ?_
        obtain ⟨x7, e8, h⟩ := dtBind h
        refine dr_getR x7 dX1_readInto_38 fl_RX1_12 e8 ?_
        obtain ⟨_, hb9, h⟩ := dtBind h
        obtain ⟨x12, μ10, e11, h⟩ := dtCall h
        refine dr_callV_i (S0 := []) [] x12 μ10 dX1_readInto_41 (c_X8_isOver x7 μ e11) mf_X8_isOver wt_621 wt_622 wt_776 rfl (dtRv hb9) (by decide) rfl (Nat.le_of_ble_eq_true rfl) (Nat.le_of_ble_eq_true rfl) rfl ?_
        obtain ⟨ht14, hf15⟩ := dtIte h
        refine dr_if_ne 129 dX1_readInto_44 (by decide) (fun hc13 => ?_) (fun hc13 => ?_)
        · have h := hf15 hc13
          refine dr_mask [true, true, false, false, false, true] [some (.ref l0), some (.ref l1), none, none, none, some (.int l5)] rfl ?_
          exact c_X1_readInto_129 l0 l1 l5 μ10 h
        · have h := ht14 hc13
          refine dr_aload_n l0 dX1_readInto_47 rfl ?_
          obtain ⟨x16, e17, h⟩ := dtBind h
          refine dr_getR x16 dX1_readInto_48 fl_RX1_12 e17 ?_
          obtain ⟨x18, e19, h⟩ := dtBind h
          refine dr_getI x18 dX1_readInto_51 fl_RX1_39 e19 ?_
          refine dr_bipush (22 : Int32) dX1_readInto_54 (by decide) ?_
          obtain ⟨ht21, hf22⟩ := dtIte h
          refine dr_icmp_ne 69 dX1_readInto_56 (by decide) (fun hc20 => ?_) (fun hc20 => ?_)
          · have h := hf22 hc20
            refine dr_aload_n l0 dX1_readInto_69 rfl ?_
            refine dr_aload_n l1 dX1_readInto_70 rfl ?_
            obtain ⟨_, hb23, h⟩ := dtBind h
            obtain ⟨x26, μ24, e25, h⟩ := dtCall h
            refine dr_callV_i (S0 := []) [.ref l1] x26 μ24 dX1_readInto_71 (c_X1_beginStep l0 l1 μ10 e25) mf_X1_beginStep wt_790 ws_21 wt_788 rfl (dtRv hb23) (by decide) rfl (Nat.le_of_ble_eq_true rfl) (Nat.le_of_ble_eq_true rfl) rfl ?_
            refine dr_istore [some (.ref l0), some (.ref l1), some (.ref l2), none, some (.int l4), some (.int l5), some (.int l6), some (.int x26)] dX1_readInto_74 rfl rfl rfl ?_
            refine dr_iload x26 dX1_readInto_76 rfl ?_
            refine dr_iconst (-1 : Int32) dX1_readInto_78 (by decide) ?_
            obtain ⟨ht28, hf29⟩ := dtIte h
            refine dr_icmp_eq 120 dX1_readInto_79 (by decide) (fun hc27 => ?_) (fun hc27 => ?_)
            · have h := ht28 hc27
              refine dr_mask [true, true, true, false, true, false, true] [some (.ref l0), some (.ref l1), some (.ref l2), none, some (.int l4), none, some (.int l6)] rfl ?_
              exact c_X1_readInto_120 (f_X1_readInto_25 n) ih l0 l1 l2 l4 l6 μ24 h
            · have h := hf29 hc27
              refine dr_aload_n l0 dX1_readInto_82 rfl ?_
              refine dr_aload_n l1 dX1_readInto_83 rfl ?_
              refine dr_aload_n l2 dX1_readInto_84 rfl ?_
              refine dr_iload x26 dX1_readInto_85 rfl ?_
              obtain ⟨_, hb30, h⟩ := dtBind h
              obtain ⟨x33, μ31, e32, h⟩ := dtCall h
              refine dr_callV_i (S0 := []) [.ref l1, .ref l2, .int x26] x33 μ31 dX1_readInto_87 (c_X1_readTest l0 l1 l2 x26 μ24 e32) mf_X1_readTest wt_798 ws_22 wt_796 rfl (dtRv hb30) (by decide) rfl (Nat.le_of_ble_eq_true rfl) (Nat.le_of_ble_eq_true rfl) rfl ?_
              obtain ⟨ht35, hf36⟩ := dtIte h
              refine dr_if_eq 120 dX1_readInto_90 (by decide) (fun hc34 => ?_) (fun hc34 => ?_)
              · have h := ht35 hc34
                refine dr_mask [true, true, true, false, true, false, true] [some (.ref l0), some (.ref l1), some (.ref l2), none, some (.int l4), none, some (.int l6)] rfl ?_
                exact c_X1_readInto_120 (f_X1_readInto_25 n) ih l0 l1 l2 l4 l6 μ31 h
              · have h := hf36 hc34
                refine dr_aload_n l0 dX1_readInto_93 rfl ?_
                refine dr_aload_n l1 dX1_readInto_94 rfl ?_
                refine dr_aload_n l2 dX1_readInto_95 rfl ?_
                refine dr_iload x26 dX1_readInto_96 rfl ?_
                obtain ⟨_, hb37, h⟩ := dtBind h
                obtain ⟨x40, μ38, e39, h⟩ := dtCall h
                refine dr_callV_i (S0 := []) [.ref l1, .ref l2, .int x26] x40 μ38 dX1_readInto_98 (c_X1_readRest l0 l1 l2 x26 μ31 e39) mf_X1_readRest wt_821 ws_27 wt_819 rfl (dtRv hb37) (by decide) rfl (Nat.le_of_ble_eq_true rfl) (Nat.le_of_ble_eq_true rfl) rfl ?_
                obtain ⟨ht42, hf43⟩ := dtIte h
                refine dr_if_eq 120 dX1_readInto_101 (by decide) (fun hc41 => ?_) (fun hc41 => ?_)
                · have h := ht42 hc41
                  refine dr_mask [true, true, true, false, true, false, true] [some (.ref l0), some (.ref l1), some (.ref l2), none, some (.int l4), none, some (.int l6)] rfl ?_
                  exact c_X1_readInto_120 (f_X1_readInto_25 n) ih l0 l1 l2 l4 l6 μ38 h
                · have h := hf43 hc41
                  refine dr_aload_n l0 dX1_readInto_104 rfl ?_
                  obtain ⟨x44, e45, h⟩ := dtBind h
                  refine dr_getR x44 dX1_readInto_105 fl_RX1_12 e45 ?_
                  refine dr_bipush (59 : Int32) dX1_readInto_108 (by decide) ?_
                  obtain ⟨_, hb46, h⟩ := dtBind h
                  obtain ⟨x49, μ47, e48, h⟩ := dtCall h
                  refine dr_callV_i (S0 := []) [.int (59 : Int32)] x49 μ47 dX1_readInto_110 (c_X8_passSign x44 (59 : Int32) μ38 e48) mf_X8_passSign wt_639 wt_640 wt_787 rfl (dtRv hb46) (by decide) rfl (Nat.le_of_ble_eq_true rfl) (Nat.le_of_ble_eq_true rfl) rfl ?_
                  obtain ⟨ht51, hf52⟩ := dtIte h
                  refine dr_if_eq 120 dX1_readInto_113 (by decide) (fun hc50 => ?_) (fun hc50 => ?_)
                  · have h := ht51 hc50
                    refine dr_mask [true, true, true, false, true, false, true] [some (.ref l0), some (.ref l1), some (.ref l2), none, some (.int l4), none, some (.int l6)] rfl ?_
                    exact c_X1_readInto_120 (f_X1_readInto_25 n) ih l0 l1 l2 l4 l6 μ47 h
                  · have h := hf52 hc50
                    refine dr_iconst (1 : Int32) dX1_readInto_116 (by decide) ?_
                    refine dr_goto 121 dX1_readInto_117 (by decide) ?_
                    refine dr_mask [true, true, true, false, true, false, true] [some (.ref l0), some (.ref l1), some (.ref l2), none, some (.int l4), none, some (.int l6)] rfl ?_
                    exact c_X1_readInto_121 (f_X1_readInto_25 n) ih l0 l1 l2 l4 l6 (1 : Int32) μ47 h
          · have h := ht21 hc20
            refine dr_aload_n l0 dX1_readInto_59 rfl ?_
            refine dr_aload_n l1 dX1_readInto_60 rfl ?_
            obtain ⟨_, hb53, h⟩ := dtBind h
            obtain ⟨x56, μ54, e55, h⟩ := dtCall h
            refine dr_callV_i (S0 := []) [.ref l1] x56 μ54 dX1_readInto_61 (c_X1_readEnd l0 l1 μ10 e55) mf_X1_readEnd wt_779 ws_20 wt_777 rfl (dtRv hb53) (by decide) rfl (Nat.le_of_ble_eq_true rfl) (Nat.le_of_ble_eq_true rfl) rfl ?_
            refine dr_istore [some (.ref l0), some (.ref l1), some (.ref l2), none, some (.int l4), some (.int x56), some (.int l6)] dX1_readInto_64 rfl rfl rfl ?_
            refine dr_goto 123 dX1_readInto_66 (by decide) ?_
            exact c_X1_readInto_123 (f_X1_readInto_25 n) ih l0 l1 l2 l4 x56 l6 μ54 h
set_option maxRecDepth 100000 in
theorem c_X1_readInto {r : Int32} {F : dtM} (p0 : Nat) (p1 : Nat) (p2 : Nat) (p3 : Nat) (p4 : Int32) (μ : dtM) (h : f_X1_readInto p0 p1 p2 p3 p4 μ = some (r, F)) : dtMet yX1_readInto cX1_readInto 8 (some .boolean) 11 [.ref p0, .ref p1, .ref p2, .ref p3, .int p4] μ (some (.int r)) F := by
  refine dtMet.of (by decide +kernel) (Nat.le_of_ble_eq_true rfl) (show dtW yX1_readInto cX1_readInto 8 (some .boolean) 11 (some (.int r)) F 0 [some (.ref p0), some (.ref p1), some (.ref p2), some (.ref p3), some (.int p4)] [] μ from ?_)
  rw [f_X1_readInto] at h
  refine dr_aload_n p1 dX1_readInto_0 rfl ?_
  obtain ⟨_, hb1, h⟩ := dtBind h
  obtain ⟨μ2, e3, h⟩ := dtBind h
  refine dr_callV_v (S0 := []) [] μ2 dX1_readInto_1 (c_X0_clear p1 μ e3) mf_X0_clear wt_759 wt_760 wt_774 rfl (dtRv hb1) (by decide) rfl (Nat.le_of_ble_eq_true rfl) (Nat.le_of_ble_eq_true rfl) rfl ?_
  refine dr_aload_n p0 dX1_readInto_4 rfl ?_
  refine dr_iconst (0 : Int32) dX1_readInto_5 (by decide) ?_
  obtain ⟨μ4, e5, h⟩ := dtBind h
  refine dr_putI μ4 dX1_readInto_6 fl_RX1_27 rfl e5 ?_
  refine dr_aload_n p0 dX1_readInto_9 rfl ?_
  obtain ⟨x6, e7, h⟩ := dtBind h
  refine dr_getR x6 dX1_readInto_10 fl_RX1_12 e7 ?_
  refine dr_aload_n p3 dX1_readInto_13 rfl ?_
  refine dr_iload p4 dX1_readInto_14 rfl ?_
  obtain ⟨_, hb8, h⟩ := dtBind h
  obtain ⟨μ9, e10, h⟩ := dtBind h
  refine dr_callV_v (S0 := []) [.ref p3, .int p4] μ9 dX1_readInto_16 (c_X8_begin x6 p3 p4 μ4 e10) mf_X8_begin wt_544 wt_545 wt_775 rfl (dtRv hb8) (by decide) rfl (Nat.le_of_ble_eq_true rfl) (Nat.le_of_ble_eq_true rfl) rfl ?_
  refine dr_iconst (1 : Int32) dX1_readInto_19 (by decide) ?_
  refine dr_istore [some (.ref p0), some (.ref p1), some (.ref p2), some (.ref p3), some (.int p4), some (.int (1 : Int32))] dX1_readInto_20 rfl rfl rfl ?_
  refine dr_iconst (0 : Int32) dX1_readInto_22 (by decide) ?_
  refine dr_istore [some (.ref p0), some (.ref p1), some (.ref p2), some (.ref p3), some (.int p4), some (.int (1 : Int32)), some (.int (0 : Int32))] dX1_readInto_23 rfl rfl rfl ?_
  refine dr_mask [true, true, true, false, true, true, true] [some (.ref p0), some (.ref p1), some (.ref p2), none, some (.int p4), some (.int (1 : Int32)), some (.int (0 : Int32))] rfl ?_
  exact c_X1_readInto_25 dtFuel p0 p1 p2 p4 (1 : Int32) (0 : Int32) μ9 h
/-! X2_init -/
theorem dX2_init_0 : decode cX2_init 0 = .ok (.aload_n 0, 1) := by decide +kernel
theorem dX2_init_1 : decode cX2_init 1 = .ok (.invokespecial 3, 3) := by decide +kernel
theorem dX2_init_4 : decode cX2_init 4 = .ok (.aload_n 0, 1) := by decide +kernel
theorem dX2_init_5 : decode cX2_init 5 = .ok (.bipush 7, 2) := by decide +kernel
theorem dX2_init_7 : decode cX2_init 7 = .ok (.newarray .int, 2) := by decide +kernel
theorem dX2_init_9 : decode cX2_init 9 = .ok (.putfield 9, 3) := by decide +kernel
theorem dX2_init_12 : decode cX2_init 12 = .ok (.return_, 1) := by decide +kernel
set_option maxRecDepth 100000 in
def f_X2_init (p0 : Nat) (μ : dtM) : Option dtM :=
  (opLt p0).bind fun _ => opCall (opNA 1 μ (7 : Int32)) fun q2 μ3 => (opPR 2 0 μ3 p0 q2).bind fun μ5 => some μ5
set_option maxRecDepth 100000 in
theorem c_X2_init {F : dtM} (p0 : Nat) (μ : dtM) (h : f_X2_init p0 μ = some F) : dtMet yX2_init cX2_init 1 (none) 1 [.ref p0] μ (none) F := by
  refine dtMet.of (by decide +kernel) (Nat.le_of_ble_eq_true rfl) (show dtW yX2_init cX2_init 1 (none) 1 (none) F 0 [some (.ref p0)] [] μ from ?_)
  rw [f_X2_init] at h
  refine dr_aload_n p0 dX2_init_0 rfl ?_
  obtain ⟨_, hb1, h⟩ := dtBind h
  refine dr_objInit dX2_init_1 wt_329 wt_27 wt_28 (dtLt hb1) (Nat.le_of_ble_eq_true rfl) rfl ?_
  refine dr_aload_n p0 dX2_init_4 rfl ?_
  refine dr_bipush (7 : Int32) dX2_init_5 (by decide) ?_
  obtain ⟨q2, μ3, e4, h⟩ := dtCall h
  refine dr_newarray_i q2 μ3 dX2_init_7 wt_192 e4 ?_
  obtain ⟨μ5, e6, h⟩ := dtBind h
  refine dr_putRF μ5 dX2_init_9 fl_RX2_9 rfl rfl rfl e6 ?_
  cases h
  exact dr_return dX2_init_12
/-! X2_spread -/
theorem dX2_spread_0 : decode cX2_spread 0 = .ok (.iconst 0, 1) := by decide +kernel
theorem dX2_spread_1 : decode cX2_spread 1 = .ok (.istore 5, 2) := by decide +kernel
theorem dX2_spread_3 : decode cX2_spread 3 = .ok (.iload 5, 2) := by decide +kernel
theorem dX2_spread_5 : decode cX2_spread 5 = .ok (.aload_n 0, 1) := by decide +kernel
theorem dX2_spread_6 : decode cX2_spread 6 = .ok (.getfield 9, 3) := by decide +kernel
theorem dX2_spread_9 : decode cX2_spread 9 = .ok (.arraylength, 1) := by decide +kernel
theorem dX2_spread_10 : decode cX2_spread 10 = .ok (.if_icmp .ge 31, 3) := by decide +kernel
theorem dX2_spread_13 : decode cX2_spread 13 = .ok (.aload_n 0, 1) := by decide +kernel
theorem dX2_spread_14 : decode cX2_spread 14 = .ok (.getfield 9, 3) := by decide +kernel
theorem dX2_spread_17 : decode cX2_spread 17 = .ok (.iload 5, 2) := by decide +kernel
theorem dX2_spread_19 : decode cX2_spread 19 = .ok (.iload_n 2, 1) := by decide +kernel
theorem dX2_spread_20 : decode cX2_spread 20 = .ok (.iconst 1, 1) := by decide +kernel
theorem dX2_spread_21 : decode cX2_spread 21 = .ok (.iload 5, 2) := by decide +kernel
theorem dX2_spread_23 : decode cX2_spread 23 = .ok (.ishl, 1) := by decide +kernel
theorem dX2_spread_24 : decode cX2_spread 24 = .ok (.iand, 1) := by decide +kernel
theorem dX2_spread_25 : decode cX2_spread 25 = .ok (.ifCond .eq 7, 3) := by decide +kernel
theorem dX2_spread_28 : decode cX2_spread 28 = .ok (.iconst 0, 1) := by decide +kernel
theorem dX2_spread_29 : decode cX2_spread 29 = .ok (.goto 5, 3) := by decide +kernel
theorem dX2_spread_32 : decode cX2_spread 32 = .ok (.ldc 19, 2) := by decide +kernel
theorem dX2_spread_34 : decode cX2_spread 34 = .ok (.iastore, 1) := by decide +kernel
theorem dX2_spread_35 : decode cX2_spread 35 = .ok (.iinc 5 1, 3) := by decide +kernel
theorem dX2_spread_38 : decode cX2_spread 38 = .ok (.goto (-35), 3) := by decide +kernel
theorem dX2_spread_41 : decode cX2_spread 41 = .ok (.iconst 1, 1) := by decide +kernel
theorem dX2_spread_42 : decode cX2_spread 42 = .ok (.istore 5, 2) := by decide +kernel
theorem dX2_spread_44 : decode cX2_spread 44 = .ok (.iconst 0, 1) := by decide +kernel
theorem dX2_spread_45 : decode cX2_spread 45 = .ok (.istore 6, 2) := by decide +kernel
theorem dX2_spread_47 : decode cX2_spread 47 = .ok (.iload 6, 2) := by decide +kernel
theorem dX2_spread_49 : decode cX2_spread 49 = .ok (.bipush 7, 2) := by decide +kernel
theorem dX2_spread_51 : decode cX2_spread 51 = .ok (.if_icmp .ge 186, 3) := by decide +kernel
theorem dX2_spread_54 : decode cX2_spread 54 = .ok (.iload 5, 2) := by decide +kernel
theorem dX2_spread_56 : decode cX2_spread 56 = .ok (.ifCond .eq 181, 3) := by decide +kernel
theorem dX2_spread_59 : decode cX2_spread 59 = .ok (.iconst 0, 1) := by decide +kernel
theorem dX2_spread_60 : decode cX2_spread 60 = .ok (.istore 5, 2) := by decide +kernel
theorem dX2_spread_62 : decode cX2_spread 62 = .ok (.iconst 0, 1) := by decide +kernel
theorem dX2_spread_63 : decode cX2_spread 63 = .ok (.istore 7, 2) := by decide +kernel
theorem dX2_spread_65 : decode cX2_spread 65 = .ok (.iload 7, 2) := by decide +kernel
theorem dX2_spread_67 : decode cX2_spread 67 = .ok (.aload_n 1, 1) := by decide +kernel
theorem dX2_spread_68 : decode cX2_spread 68 = .ok (.getfield 20, 3) := by decide +kernel
theorem dX2_spread_71 : decode cX2_spread 71 = .ok (.if_icmp .ge 160, 3) := by decide +kernel
theorem dX2_spread_74 : decode cX2_spread 74 = .ok (.aload_n 1, 1) := by decide +kernel
theorem dX2_spread_75 : decode cX2_spread 75 = .ok (.getfield 26, 3) := by decide +kernel
theorem dX2_spread_78 : decode cX2_spread 78 = .ok (.iconst 1, 1) := by decide +kernel
theorem dX2_spread_79 : decode cX2_spread 79 = .ok (.iload 7, 2) := by decide +kernel
theorem dX2_spread_81 : decode cX2_spread 81 = .ok (.ishl, 1) := by decide +kernel
theorem dX2_spread_82 : decode cX2_spread 82 = .ok (.iand, 1) := by decide +kernel
theorem dX2_spread_83 : decode cX2_spread 83 = .ok (.ifCond .eq 7, 3) := by decide +kernel
theorem dX2_spread_86 : decode cX2_spread 86 = .ok (.iconst 1, 1) := by decide +kernel
theorem dX2_spread_87 : decode cX2_spread 87 = .ok (.goto 4, 3) := by decide +kernel
theorem dX2_spread_90 : decode cX2_spread 90 = .ok (.iconst 0, 1) := by decide +kernel
theorem dX2_spread_91 : decode cX2_spread 91 = .ok (.istore 8, 2) := by decide +kernel
theorem dX2_spread_93 : decode cX2_spread 93 = .ok (.iload 8, 2) := by decide +kernel
theorem dX2_spread_95 : decode cX2_spread 95 = .ok (.ifCond .eq 7, 3) := by decide +kernel
theorem dX2_spread_98 : decode cX2_spread 98 = .ok (.iconst 1, 1) := by decide +kernel
theorem dX2_spread_99 : decode cX2_spread 99 = .ok (.goto 20, 3) := by decide +kernel
theorem dX2_spread_102 : decode cX2_spread 102 = .ok (.iconst 2, 1) := by decide +kernel
theorem dX2_spread_103 : decode cX2_spread 103 = .ok (.bipush 9, 2) := by decide +kernel
theorem dX2_spread_105 : decode cX2_spread 105 = .ok (.aload_n 1, 1) := by decide +kernel
theorem dX2_spread_106 : decode cX2_spread 106 = .ok (.getfield 29, 3) := by decide +kernel
theorem dX2_spread_109 : decode cX2_spread 109 = .ok (.iload 7, 2) := by decide +kernel
theorem dX2_spread_111 : decode cX2_spread 111 = .ok (.iaload, 1) := by decide +kernel
theorem dX2_spread_112 : decode cX2_spread 112 = .ok (.iload 4, 2) := by decide +kernel
theorem dX2_spread_114 : decode cX2_spread 114 = .ok (.iadd, 1) := by decide +kernel
theorem dX2_spread_115 : decode cX2_spread 115 = .ok (.invokestatic 32, 3) := by decide +kernel
theorem dX2_spread_118 : decode cX2_spread 118 = .ok (.iadd, 1) := by decide +kernel
theorem dX2_spread_119 : decode cX2_spread 119 = .ok (.istore 9, 2) := by decide +kernel
theorem dX2_spread_121 : decode cX2_spread 121 = .ok (.aload_n 1, 1) := by decide +kernel
theorem dX2_spread_122 : decode cX2_spread 122 = .ok (.getfield 38, 3) := by decide +kernel
theorem dX2_spread_125 : decode cX2_spread 125 = .ok (.iload 7, 2) := by decide +kernel
theorem dX2_spread_127 : decode cX2_spread 127 = .ok (.iaload, 1) := by decide +kernel
theorem dX2_spread_128 : decode cX2_spread 128 = .ok (.istore 10, 2) := by decide +kernel
theorem dX2_spread_130 : decode cX2_spread 130 = .ok (.aload_n 1, 1) := by decide +kernel
theorem dX2_spread_131 : decode cX2_spread 131 = .ok (.getfield 41, 3) := by decide +kernel
theorem dX2_spread_134 : decode cX2_spread 134 = .ok (.iload 7, 2) := by decide +kernel
theorem dX2_spread_136 : decode cX2_spread 136 = .ok (.iaload, 1) := by decide +kernel
theorem dX2_spread_137 : decode cX2_spread 137 = .ok (.istore 11, 2) := by decide +kernel
theorem dX2_spread_139 : decode cX2_spread 139 = .ok (.iload 7, 2) := by decide +kernel
theorem dX2_spread_141 : decode cX2_spread 141 = .ok (.iload_n 3, 1) := by decide +kernel
theorem dX2_spread_142 : decode cX2_spread 142 = .ok (.if_icmp .eq 83, 3) := by decide +kernel
theorem dX2_spread_145 : decode cX2_spread 145 = .ok (.aload_n 0, 1) := by decide +kernel
theorem dX2_spread_146 : decode cX2_spread 146 = .ok (.getfield 9, 3) := by decide +kernel
theorem dX2_spread_149 : decode cX2_spread 149 = .ok (.iload 10, 2) := by decide +kernel
theorem dX2_spread_151 : decode cX2_spread 151 = .ok (.iaload, 1) := by decide +kernel
theorem dX2_spread_152 : decode cX2_spread 152 = .ok (.aload_n 0, 1) := by decide +kernel
theorem dX2_spread_153 : decode cX2_spread 153 = .ok (.getfield 9, 3) := by decide +kernel
theorem dX2_spread_156 : decode cX2_spread 156 = .ok (.iload 11, 2) := by decide +kernel
theorem dX2_spread_158 : decode cX2_spread 158 = .ok (.iaload, 1) := by decide +kernel
theorem dX2_spread_159 : decode cX2_spread 159 = .ok (.isub, 1) := by decide +kernel
theorem dX2_spread_160 : decode cX2_spread 160 = .ok (.invokestatic 44, 3) := by decide +kernel
theorem dX2_spread_163 : decode cX2_spread 163 = .ok (.iload 9, 2) := by decide +kernel
theorem dX2_spread_165 : decode cX2_spread 165 = .ok (.if_icmp .le 60, 3) := by decide +kernel
theorem dX2_spread_168 : decode cX2_spread 168 = .ok (.aload_n 0, 1) := by decide +kernel
theorem dX2_spread_169 : decode cX2_spread 169 = .ok (.getfield 9, 3) := by decide +kernel
theorem dX2_spread_172 : decode cX2_spread 172 = .ok (.iload 10, 2) := by decide +kernel
theorem dX2_spread_174 : decode cX2_spread 174 = .ok (.aload_n 0, 1) := by decide +kernel
theorem dX2_spread_175 : decode cX2_spread 175 = .ok (.getfield 9, 3) := by decide +kernel
theorem dX2_spread_178 : decode cX2_spread 178 = .ok (.iload 10, 2) := by decide +kernel
theorem dX2_spread_180 : decode cX2_spread 180 = .ok (.iaload, 1) := by decide +kernel
theorem dX2_spread_181 : decode cX2_spread 181 = .ok (.aload_n 0, 1) := by decide +kernel
theorem dX2_spread_182 : decode cX2_spread 182 = .ok (.getfield 9, 3) := by decide +kernel
theorem dX2_spread_185 : decode cX2_spread 185 = .ok (.iload 11, 2) := by decide +kernel
theorem dX2_spread_187 : decode cX2_spread 187 = .ok (.iaload, 1) := by decide +kernel
theorem dX2_spread_188 : decode cX2_spread 188 = .ok (.iload 9, 2) := by decide +kernel
theorem dX2_spread_190 : decode cX2_spread 190 = .ok (.iadd, 1) := by decide +kernel
theorem dX2_spread_191 : decode cX2_spread 191 = .ok (.invokestatic 32, 3) := by decide +kernel
theorem dX2_spread_194 : decode cX2_spread 194 = .ok (.iastore, 1) := by decide +kernel
theorem dX2_spread_195 : decode cX2_spread 195 = .ok (.aload_n 0, 1) := by decide +kernel
theorem dX2_spread_196 : decode cX2_spread 196 = .ok (.getfield 9, 3) := by decide +kernel
theorem dX2_spread_199 : decode cX2_spread 199 = .ok (.iload 11, 2) := by decide +kernel
theorem dX2_spread_201 : decode cX2_spread 201 = .ok (.aload_n 0, 1) := by decide +kernel
theorem dX2_spread_202 : decode cX2_spread 202 = .ok (.getfield 9, 3) := by decide +kernel
theorem dX2_spread_205 : decode cX2_spread 205 = .ok (.iload 11, 2) := by decide +kernel
theorem dX2_spread_207 : decode cX2_spread 207 = .ok (.iaload, 1) := by decide +kernel
theorem dX2_spread_208 : decode cX2_spread 208 = .ok (.aload_n 0, 1) := by decide +kernel
theorem dX2_spread_209 : decode cX2_spread 209 = .ok (.getfield 9, 3) := by decide +kernel
theorem dX2_spread_212 : decode cX2_spread 212 = .ok (.iload 10, 2) := by decide +kernel
theorem dX2_spread_214 : decode cX2_spread 214 = .ok (.iaload, 1) := by decide +kernel
theorem dX2_spread_215 : decode cX2_spread 215 = .ok (.iload 9, 2) := by decide +kernel
theorem dX2_spread_217 : decode cX2_spread 217 = .ok (.iadd, 1) := by decide +kernel
theorem dX2_spread_218 : decode cX2_spread 218 = .ok (.invokestatic 32, 3) := by decide +kernel
theorem dX2_spread_221 : decode cX2_spread 221 = .ok (.iastore, 1) := by decide +kernel
theorem dX2_spread_222 : decode cX2_spread 222 = .ok (.iconst 1, 1) := by decide +kernel
theorem dX2_spread_223 : decode cX2_spread 223 = .ok (.istore 5, 2) := by decide +kernel
theorem dX2_spread_225 : decode cX2_spread 225 = .ok (.iinc 7 1, 3) := by decide +kernel
theorem dX2_spread_228 : decode cX2_spread 228 = .ok (.goto (-163), 3) := by decide +kernel
theorem dX2_spread_231 : decode cX2_spread 231 = .ok (.iinc 6 1, 3) := by decide +kernel
theorem dX2_spread_234 : decode cX2_spread 234 = .ok (.goto (-187), 3) := by decide +kernel
theorem dX2_spread_237 : decode cX2_spread 237 = .ok (.return_, 1) := by decide +kernel
set_option maxRecDepth 100000 in
def f_X2_spread_237  (μ : dtM) : Option dtM :=
  some μ
set_option maxRecDepth 100000 in
def f_X2_spread_225 (k47 : Nat → Nat → Int32 → Int32 → Int32 → Int32 → dtM → Option dtM) (k65 : Nat → Nat → Int32 → Int32 → Int32 → Int32 → Int32 → dtM → Option dtM) (l0 : Nat) (l1 : Nat) (l3 : Int32) (l4 : Int32) (l5 : Int32) (l6 : Int32) (l7 : Int32) (μ : dtM) : Option dtM :=
  k65 l0 l1 l3 l4 l5 l6 (l7 + 1) μ
set_option maxRecDepth 100000 in
def f_X2_spread_119 (k47 : Nat → Nat → Int32 → Int32 → Int32 → Int32 → dtM → Option dtM) (k65 : Nat → Nat → Int32 → Int32 → Int32 → Int32 → Int32 → dtM → Option dtM) (l0 : Nat) (l1 : Nat) (l3 : Int32) (l4 : Int32) (l5 : Int32) (l6 : Int32) (l7 : Int32) (s0 : Int32) (μ : dtM) : Option dtM :=
  (opGR 3 9 μ l1).bind fun x1 => (opLI 1 μ x1 l7).bind fun x3 => (opGR 3 10 μ l1).bind fun x5 => (opLI 1 μ x5 l7).bind fun x7 => if l7 = l3 then (f_X2_spread_225 k47 k65 l0 l1 l3 l4 l5 l6 l7 μ) else ((opGR 2 0 μ l0).bind fun x12 => (opLI 1 μ x12 x3).bind fun x14 => (opGR 2 0 μ l0).bind fun x16 => (opLI 1 μ x16 x7).bind fun x18 => (some (if 0 ≤ (x14 - x18) then (x14 - x18) else 0 - (x14 - x18))).bind fun x20 => if x20 ≤ s0 then (f_X2_spread_225 k47 k65 l0 l1 l3 l4 l5 l6 l7 μ) else ((opGR 2 0 μ l0).bind fun x25 => (opGR 2 0 μ l0).bind fun x27 => (opLI 1 μ x27 x3).bind fun x29 => (opGR 2 0 μ l0).bind fun x31 => (opLI 1 μ x31 x7).bind fun x33 => (some (if (x33 + s0) < x29 then (x33 + s0) else x29)).bind fun x35 => (opSI μ x25 x3 x35).bind fun μ37 => (opGR 2 0 μ37 l0).bind fun x39 => (opGR 2 0 μ37 l0).bind fun x41 => (opLI 1 μ37 x41 x7).bind fun x43 => (opGR 2 0 μ37 l0).bind fun x45 => (opLI 1 μ37 x45 x3).bind fun x47 => (some (if (x47 + s0) < x43 then (x47 + s0) else x43)).bind fun x49 => (opSI μ37 x39 x7 x49).bind fun μ51 => f_X2_spread_225 k47 k65 l0 l1 l3 l4 (1 : Int32) l6 l7 μ51))
set_option maxRecDepth 100000 in
def f_X2_spread_91 (k47 : Nat → Nat → Int32 → Int32 → Int32 → Int32 → dtM → Option dtM) (k65 : Nat → Nat → Int32 → Int32 → Int32 → Int32 → Int32 → dtM → Option dtM) (l0 : Nat) (l1 : Nat) (l3 : Int32) (l4 : Int32) (l5 : Int32) (l6 : Int32) (l7 : Int32) (s0 : Int32) (μ : dtM) : Option dtM :=
  if s0 = 0 then ((opGR 3 11 μ l1).bind fun x4 => (opLI 1 μ x4 l7).bind fun x6 => (some (if (x6 + l4) < (9 : Int32) then (x6 + l4) else (9 : Int32))).bind fun x8 => f_X2_spread_119 k47 k65 l0 l1 l3 l4 l5 l6 l7 ((2 : Int32) + x8) μ) else (f_X2_spread_119 k47 k65 l0 l1 l3 l4 l5 l6 l7 (1 : Int32) μ)
set_option maxRecDepth 100000 in
def f_X2_spread_65 (k47 : Nat → Nat → Int32 → Int32 → Int32 → Int32 → dtM → Option dtM) : Nat → Nat → Nat → Int32 → Int32 → Int32 → Int32 → Int32 → dtM → Option dtM
  | 0, _, _, _, _, _, _, _, _ => none
  | n + 1, l0, l1, l3, l4, l5, l6, l7, μ =>
    (opGI 3 1 μ l1).bind fun x1 => if x1 ≤ l7 then (k47 l0 l1 l3 l4 l5 (l6 + 1) μ) else ((opGI 3 5 μ l1).bind fun x6 => if (x6 &&& ((1 : Int32) <<< (l7 &&& 31))) = 0 then (f_X2_spread_91 k47 (f_X2_spread_65 k47 n) l0 l1 l3 l4 l5 l6 l7 (0 : Int32) μ) else (f_X2_spread_91 k47 (f_X2_spread_65 k47 n) l0 l1 l3 l4 l5 l6 l7 (1 : Int32) μ))
set_option maxRecDepth 100000 in
def f_X2_spread_47 : Nat → Nat → Nat → Int32 → Int32 → Int32 → Int32 → dtM → Option dtM
  | 0, _, _, _, _, _, _, _ => none
  | n + 1, l0, l1, l3, l4, l5, l6, μ =>
    if (7 : Int32) ≤ l6 then (f_X2_spread_237 μ) else (if l5 = 0 then (f_X2_spread_237 μ) else (f_X2_spread_65 (f_X2_spread_47 n) dtFuel l0 l1 l3 l4 (0 : Int32) l6 (0 : Int32) μ))
set_option maxRecDepth 100000 in
def f_X2_spread_34 (k3 : Nat → Nat → Int32 → Int32 → Int32 → Int32 → dtM → Option dtM) (l0 : Nat) (l1 : Nat) (l2 : Int32) (l3 : Int32) (l4 : Int32) (l5 : Int32) (s0 : Nat) (s1 : Int32) (s2 : Int32) (μ : dtM) : Option dtM :=
  (opSI μ s0 s1 s2).bind fun μ1 => k3 l0 l1 l2 l3 l4 (l5 + 1) μ1
set_option maxRecDepth 100000 in
def f_X2_spread_3 : Nat → Nat → Nat → Int32 → Int32 → Int32 → Int32 → dtM → Option dtM
  | 0, _, _, _, _, _, _, _ => none
  | n + 1, l0, l1, l2, l3, l4, l5, μ =>
    (opGR 2 0 μ l0).bind fun x1 => (opAL μ x1).bind fun x3 => if x3 ≤ l5 then (f_X2_spread_47 dtFuel l0 l1 l3 l4 (1 : Int32) (0 : Int32) μ) else ((opGR 2 0 μ l0).bind fun x8 => if (l2 &&& ((1 : Int32) <<< (l5 &&& 31))) = 0 then (f_X2_spread_34 (f_X2_spread_3 n) l0 l1 l2 l3 l4 l5 x8 l5 (1000000 : Int32) μ) else (f_X2_spread_34 (f_X2_spread_3 n) l0 l1 l2 l3 l4 l5 x8 l5 (0 : Int32) μ))
set_option maxRecDepth 100000 in
def f_X2_spread (p0 : Nat) (p1 : Nat) (p2 : Int32) (p3 : Int32) (p4 : Int32) (μ : dtM) : Option dtM :=
  f_X2_spread_3 dtFuel p0 p1 p2 p3 p4 (0 : Int32) μ
set_option maxRecDepth 100000 in
theorem c_X2_spread_237 {F : dtM}  (μ : dtM) (h : f_X2_spread_237  μ = some F) : dtW yX2_spread cX2_spread 12 (none) 1 (none) F 237 [] [] μ := by
  rw [f_X2_spread_237] at h
  cases h
  exact dr_return dX2_spread_237
set_option maxRecDepth 100000 in
theorem c_X2_spread_225 {F : dtM} (k47 : Nat → Nat → Int32 → Int32 → Int32 → Int32 → dtM → Option dtM) (k65 : Nat → Nat → Int32 → Int32 → Int32 → Int32 → Int32 → dtM → Option dtM) (hk47 : ∀ (l0 : Nat) (l1 : Nat) (l3 : Int32) (l4 : Int32) (l5 : Int32) (l6 : Int32) (μ : dtM), k47 l0 l1 l3 l4 l5 l6 μ = some F → dtW yX2_spread cX2_spread 12 (none) 1 (none) F 47 [some (.ref l0), some (.ref l1), none, some (.int l3), some (.int l4), some (.int l5), some (.int l6)] [] μ) (hk65 : ∀ (l0 : Nat) (l1 : Nat) (l3 : Int32) (l4 : Int32) (l5 : Int32) (l6 : Int32) (l7 : Int32) (μ : dtM), k65 l0 l1 l3 l4 l5 l6 l7 μ = some F → dtW yX2_spread cX2_spread 12 (none) 1 (none) F 65 [some (.ref l0), some (.ref l1), none, some (.int l3), some (.int l4), some (.int l5), some (.int l6), some (.int l7)] [] μ) (l0 : Nat) (l1 : Nat) (l3 : Int32) (l4 : Int32) (l5 : Int32) (l6 : Int32) (l7 : Int32) (μ : dtM) (h : f_X2_spread_225 k47 k65 l0 l1 l3 l4 l5 l6 l7 μ = some F) : dtW yX2_spread cX2_spread 12 (none) 1 (none) F 225 [some (.ref l0), some (.ref l1), none, some (.int l3), some (.int l4), some (.int l5), some (.int l6), some (.int l7)] [] μ := by
  rw [f_X2_spread_225] at h
  refine dr_iinc l7 (l7 + 1) [some (.ref l0), some (.ref l1), none, some (.int l3), some (.int l4), some (.int l5), some (.int l6), some (.int (l7 + 1))] dX2_spread_225 rfl rfl rfl rfl rfl ?_
  refine dr_goto 65 dX2_spread_228 (by decide) ?_
  exact hk65 l0 l1 l3 l4 l5 l6 (l7 + 1) μ h
set_option maxRecDepth 100000 in
theorem c_X2_spread_119 {F : dtM} (k47 : Nat → Nat → Int32 → Int32 → Int32 → Int32 → dtM → Option dtM) (k65 : Nat → Nat → Int32 → Int32 → Int32 → Int32 → Int32 → dtM → Option dtM) (hk47 : ∀ (l0 : Nat) (l1 : Nat) (l3 : Int32) (l4 : Int32) (l5 : Int32) (l6 : Int32) (μ : dtM), k47 l0 l1 l3 l4 l5 l6 μ = some F → dtW yX2_spread cX2_spread 12 (none) 1 (none) F 47 [some (.ref l0), some (.ref l1), none, some (.int l3), some (.int l4), some (.int l5), some (.int l6)] [] μ) (hk65 : ∀ (l0 : Nat) (l1 : Nat) (l3 : Int32) (l4 : Int32) (l5 : Int32) (l6 : Int32) (l7 : Int32) (μ : dtM), k65 l0 l1 l3 l4 l5 l6 l7 μ = some F → dtW yX2_spread cX2_spread 12 (none) 1 (none) F 65 [some (.ref l0), some (.ref l1), none, some (.int l3), some (.int l4), some (.int l5), some (.int l6), some (.int l7)] [] μ) (l0 : Nat) (l1 : Nat) (l3 : Int32) (l4 : Int32) (l5 : Int32) (l6 : Int32) (l7 : Int32) (s0 : Int32) (μ : dtM) (h : f_X2_spread_119 k47 k65 l0 l1 l3 l4 l5 l6 l7 s0 μ = some F) : dtW yX2_spread cX2_spread 12 (none) 1 (none) F 119 [some (.ref l0), some (.ref l1), none, some (.int l3), some (.int l4), some (.int l5), some (.int l6), some (.int l7)] [.int s0] μ := by
  rw [f_X2_spread_119] at h
  refine dr_istore [some (.ref l0), some (.ref l1), none, some (.int l3), some (.int l4), some (.int l5), some (.int l6), some (.int l7), none, some (.int s0)] dX2_spread_119 rfl rfl rfl ?_
  refine dr_aload_n l1 dX2_spread_121 rfl ?_
  obtain ⟨x1, e2, h⟩ := dtBind h
  refine dr_getR x1 dX2_spread_122 fl_RX2_38 e2 ?_
  refine dr_iload l7 dX2_spread_125 rfl ?_
  obtain ⟨x3, e4, h⟩ := dtBind h
  refine dr_iaload x3 dX2_spread_127 e4 ?_
  refine dr_istore [some (.ref l0), some (.ref l1), none, some (.int l3), some (.int l4), some (.int l5), some (.int l6), some (.int l7), none, some (.int s0), some (.int x3)] dX2_spread_128 rfl rfl rfl ?_
  refine dr_aload_n l1 dX2_spread_130 rfl ?_
  obtain ⟨x5, e6, h⟩ := dtBind h
  refine dr_getR x5 dX2_spread_131 fl_RX2_41 e6 ?_
  refine dr_iload l7 dX2_spread_134 rfl ?_
  obtain ⟨x7, e8, h⟩ := dtBind h
  refine dr_iaload x7 dX2_spread_136 e8 ?_
  refine dr_istore [some (.ref l0), some (.ref l1), none, some (.int l3), some (.int l4), some (.int l5), some (.int l6), some (.int l7), none, some (.int s0), some (.int x3), some (.int x7)] dX2_spread_137 rfl rfl rfl ?_
  refine dr_iload l7 dX2_spread_139 rfl ?_
  refine dr_iload_n l3 dX2_spread_141 rfl ?_
  obtain ⟨ht10, hf11⟩ := dtIte h
  refine dr_icmp_eq 225 dX2_spread_142 (by decide) (fun hc9 => ?_) (fun hc9 => ?_)
  · have h := ht10 hc9
    refine dr_mask [true, true, false, true, true, true, true, true] [some (.ref l0), some (.ref l1), none, some (.int l3), some (.int l4), some (.int l5), some (.int l6), some (.int l7)] rfl ?_
    exact c_X2_spread_225 k47 k65 hk47 hk65 l0 l1 l3 l4 l5 l6 l7 μ h
  · have h := hf11 hc9
    refine dr_aload_n l0 dX2_spread_145 rfl ?_
    obtain ⟨x12, e13, h⟩ := dtBind h
    refine dr_getR x12 dX2_spread_146 fl_RX2_9 e13 ?_
    refine dr_iload x3 dX2_spread_149 rfl ?_
    obtain ⟨x14, e15, h⟩ := dtBind h
    refine dr_iaload x14 dX2_spread_151 e15 ?_
    refine dr_aload_n l0 dX2_spread_152 rfl ?_
    obtain ⟨x16, e17, h⟩ := dtBind h
    refine dr_getR x16 dX2_spread_153 fl_RX2_9 e17 ?_
    refine dr_iload x7 dX2_spread_156 rfl ?_
    obtain ⟨x18, e19, h⟩ := dtBind h
    refine dr_iaload x18 dX2_spread_158 e19 ?_
    refine dr_isub dX2_spread_159 ?_
    refine dr_abs dX2_spread_160 wt_905 wt_906 wt_15 wt_907 (Nat.le_of_ble_eq_true rfl) rfl ?_
    obtain ⟨x20, e21, h⟩ := dtBind h
    refine dr_nmi e21 ?_
    refine dr_iload s0 dX2_spread_163 rfl ?_
    obtain ⟨ht23, hf24⟩ := dtIte h
    refine dr_icmp_le 225 dX2_spread_165 (by decide) (fun hc22 => ?_) (fun hc22 => ?_)
    · have h := ht23 hc22
      refine dr_mask [true, true, false, true, true, true, true, true] [some (.ref l0), some (.ref l1), none, some (.int l3), some (.int l4), some (.int l5), some (.int l6), some (.int l7)] rfl ?_
      exact c_X2_spread_225 k47 k65 hk47 hk65 l0 l1 l3 l4 l5 l6 l7 μ h
    · have h := hf24 hc22
      refine dr_aload_n l0 dX2_spread_168 rfl ?_
      obtain ⟨x25, e26, h⟩ := dtBind h
      refine dr_getR x25 dX2_spread_169 fl_RX2_9 e26 ?_
      refine dr_iload x3 dX2_spread_172 rfl ?_
      refine dr_aload_n l0 dX2_spread_174 rfl ?_
      obtain ⟨x27, e28, h⟩ := dtBind h
      refine dr_getR x27 dX2_spread_175 fl_RX2_9 e28 ?_
      refine dr_iload x3 dX2_spread_178 rfl ?_
      obtain ⟨x29, e30, h⟩ := dtBind h
      refine dr_iaload x29 dX2_spread_180 e30 ?_
      refine dr_aload_n l0 dX2_spread_181 rfl ?_
      obtain ⟨x31, e32, h⟩ := dtBind h
      refine dr_getR x31 dX2_spread_182 fl_RX2_9 e32 ?_
      refine dr_iload x7 dX2_spread_185 rfl ?_
      obtain ⟨x33, e34, h⟩ := dtBind h
      refine dr_iaload x33 dX2_spread_187 e34 ?_
      refine dr_iload s0 dX2_spread_188 rfl ?_
      refine dr_iadd dX2_spread_190 ?_
      refine dr_min dX2_spread_191 wt_904 wt_548 wt_15 wt_549 (Nat.le_of_ble_eq_true rfl) rfl ?_
      obtain ⟨x35, e36, h⟩ := dtBind h
      refine dr_nmi e36 ?_
      obtain ⟨μ37, e38, h⟩ := dtBind h
      refine dr_iastore μ37 dX2_spread_194 e38 ?_
      refine dr_aload_n l0 dX2_spread_195 rfl ?_
      obtain ⟨x39, e40, h⟩ := dtBind h
      refine dr_getR x39 dX2_spread_196 fl_RX2_9 e40 ?_
      refine dr_iload x7 dX2_spread_199 rfl ?_
      refine dr_aload_n l0 dX2_spread_201 rfl ?_
      obtain ⟨x41, e42, h⟩ := dtBind h
      refine dr_getR x41 dX2_spread_202 fl_RX2_9 e42 ?_
      refine dr_iload x7 dX2_spread_205 rfl ?_
      obtain ⟨x43, e44, h⟩ := dtBind h
      refine dr_iaload x43 dX2_spread_207 e44 ?_
      refine dr_aload_n l0 dX2_spread_208 rfl ?_
      obtain ⟨x45, e46, h⟩ := dtBind h
      refine dr_getR x45 dX2_spread_209 fl_RX2_9 e46 ?_
      refine dr_iload x3 dX2_spread_212 rfl ?_
      obtain ⟨x47, e48, h⟩ := dtBind h
      refine dr_iaload x47 dX2_spread_214 e48 ?_
      refine dr_iload s0 dX2_spread_215 rfl ?_
      refine dr_iadd dX2_spread_217 ?_
      refine dr_min dX2_spread_218 wt_904 wt_548 wt_15 wt_549 (Nat.le_of_ble_eq_true rfl) rfl ?_
      obtain ⟨x49, e50, h⟩ := dtBind h
      refine dr_nmi e50 ?_
      obtain ⟨μ51, e52, h⟩ := dtBind h
      refine dr_iastore μ51 dX2_spread_221 e52 ?_
      refine dr_iconst (1 : Int32) dX2_spread_222 (by decide) ?_
      refine dr_istore [some (.ref l0), some (.ref l1), none, some (.int l3), some (.int l4), some (.int (1 : Int32)), some (.int l6), some (.int l7), none, some (.int s0), some (.int x3), some (.int x7)] dX2_spread_223 rfl rfl rfl ?_
      refine dr_mask [true, true, false, true, true, true, true, true] [some (.ref l0), some (.ref l1), none, some (.int l3), some (.int l4), some (.int (1 : Int32)), some (.int l6), some (.int l7)] rfl ?_
      exact c_X2_spread_225 k47 k65 hk47 hk65 l0 l1 l3 l4 (1 : Int32) l6 l7 μ51 h
set_option maxRecDepth 100000 in
theorem c_X2_spread_91 {F : dtM} (k47 : Nat → Nat → Int32 → Int32 → Int32 → Int32 → dtM → Option dtM) (k65 : Nat → Nat → Int32 → Int32 → Int32 → Int32 → Int32 → dtM → Option dtM) (hk47 : ∀ (l0 : Nat) (l1 : Nat) (l3 : Int32) (l4 : Int32) (l5 : Int32) (l6 : Int32) (μ : dtM), k47 l0 l1 l3 l4 l5 l6 μ = some F → dtW yX2_spread cX2_spread 12 (none) 1 (none) F 47 [some (.ref l0), some (.ref l1), none, some (.int l3), some (.int l4), some (.int l5), some (.int l6)] [] μ) (hk65 : ∀ (l0 : Nat) (l1 : Nat) (l3 : Int32) (l4 : Int32) (l5 : Int32) (l6 : Int32) (l7 : Int32) (μ : dtM), k65 l0 l1 l3 l4 l5 l6 l7 μ = some F → dtW yX2_spread cX2_spread 12 (none) 1 (none) F 65 [some (.ref l0), some (.ref l1), none, some (.int l3), some (.int l4), some (.int l5), some (.int l6), some (.int l7)] [] μ) (l0 : Nat) (l1 : Nat) (l3 : Int32) (l4 : Int32) (l5 : Int32) (l6 : Int32) (l7 : Int32) (s0 : Int32) (μ : dtM) (h : f_X2_spread_91 k47 k65 l0 l1 l3 l4 l5 l6 l7 s0 μ = some F) : dtW yX2_spread cX2_spread 12 (none) 1 (none) F 91 [some (.ref l0), some (.ref l1), none, some (.int l3), some (.int l4), some (.int l5), some (.int l6), some (.int l7)] [.int s0] μ := by
  rw [f_X2_spread_91] at h
  refine dr_istore [some (.ref l0), some (.ref l1), none, some (.int l3), some (.int l4), some (.int l5), some (.int l6), some (.int l7), some (.int s0)] dX2_spread_91 rfl rfl rfl ?_
  refine dr_iload s0 dX2_spread_93 rfl ?_
  obtain ⟨ht2, hf3⟩ := dtIte h
  refine dr_if_eq 102 dX2_spread_95 (by decide) (fun hc1 => ?_) (fun hc1 => ?_)
  · have h := ht2 hc1
    refine dr_iconst (2 : Int32) dX2_spread_102 (by decide) ?_
    refine dr_bipush (9 : Int32) dX2_spread_103 (by decide) ?_
    refine dr_aload_n l1 dX2_spread_105 rfl ?_
    obtain ⟨x4, e5, h⟩ := dtBind h
    refine dr_getR x4 dX2_spread_106 fl_RX2_29 e5 ?_
    refine dr_iload l7 dX2_spread_109 rfl ?_
    obtain ⟨x6, e7, h⟩ := dtBind h
    refine dr_iaload x6 dX2_spread_111 e7 ?_
    refine dr_iload l4 dX2_spread_112 rfl ?_
    refine dr_iadd dX2_spread_114 ?_
    refine dr_min dX2_spread_115 wt_904 wt_548 wt_15 wt_549 (Nat.le_of_ble_eq_true rfl) rfl ?_
    obtain ⟨x8, e9, h⟩ := dtBind h
    refine dr_nmi e9 ?_
    refine dr_iadd dX2_spread_118 ?_
    refine dr_mask [true, true, false, true, true, true, true, true] [some (.ref l0), some (.ref l1), none, some (.int l3), some (.int l4), some (.int l5), some (.int l6), some (.int l7)] rfl ?_
    exact c_X2_spread_119 k47 k65 hk47 hk65 l0 l1 l3 l4 l5 l6 l7 ((2 : Int32) + x8) μ h
  · have h := hf3 hc1
    refine dr_iconst (1 : Int32) dX2_spread_98 (by decide) ?_
    refine dr_goto 119 dX2_spread_99 (by decide) ?_
    refine dr_mask [true, true, false, true, true, true, true, true] [some (.ref l0), some (.ref l1), none, some (.int l3), some (.int l4), some (.int l5), some (.int l6), some (.int l7)] rfl ?_
    exact c_X2_spread_119 k47 k65 hk47 hk65 l0 l1 l3 l4 l5 l6 l7 (1 : Int32) μ h
set_option maxRecDepth 100000 in
theorem c_X2_spread_65 {F : dtM} (k47 : Nat → Nat → Int32 → Int32 → Int32 → Int32 → dtM → Option dtM) (hk47 : ∀ (l0 : Nat) (l1 : Nat) (l3 : Int32) (l4 : Int32) (l5 : Int32) (l6 : Int32) (μ : dtM), k47 l0 l1 l3 l4 l5 l6 μ = some F → dtW yX2_spread cX2_spread 12 (none) 1 (none) F 47 [some (.ref l0), some (.ref l1), none, some (.int l3), some (.int l4), some (.int l5), some (.int l6)] [] μ) : ∀ (n : Nat) (l0 : Nat) (l1 : Nat) (l3 : Int32) (l4 : Int32) (l5 : Int32) (l6 : Int32) (l7 : Int32) (μ : dtM), f_X2_spread_65 k47 n l0 l1 l3 l4 l5 l6 l7 μ = some F → dtW yX2_spread cX2_spread 12 (none) 1 (none) F 65 [some (.ref l0), some (.ref l1), none, some (.int l3), some (.int l4), some (.int l5), some (.int l6), some (.int l7)] [] μ := by
  intro n
  induction n with
  | zero => intro l0 l1 l3 l4 l5 l6 l7 μ h; cases h
  | succ n ih =>
    intro l0 l1 l3 l4 l5 l6 l7 μ h
    have h := (show f_X2_spread_65 k47 (n + 1) l0 l1 l3 l4 l5 l6 l7 μ = some _ from h)
    rw [f_X2_spread_65] at h
    refine dr_iload l7 dX2_spread_65 rfl ?_
    refine dr_aload_n l1 dX2_spread_67 rfl ?_
    obtain ⟨x1, e2, h⟩ := dtBind h
    refine dr_getI x1 dX2_spread_68 fl_RX2_20 e2 ?_
    obtain ⟨ht4, hf5⟩ := dtIte h
    refine dr_icmp_ge 231 dX2_spread_71 (by decide) (fun hc3 => ?_) (fun hc3 => ?_)
    · have h := ht4 hc3
      refine dr_iinc l6 (l6 + 1) [some (.ref l0), some (.ref l1), none, some (.int l3), some (.int l4), some (.int l5), some (.int (l6 + 1)), some (.int l7)] dX2_spread_231 rfl rfl rfl rfl rfl ?_
      refine dr_goto 47 dX2_spread_234 (by decide) ?_
      refine dr_mask [true, true, false, true, true, true, true] [some (.ref l0), some (.ref l1), none, some (.int l3), some (.int l4), some (.int l5), some (.int (l6 + 1))] rfl ?_
      exact hk47 l0 l1 l3 l4 l5 (l6 + 1) μ h
    · have h := hf5 hc3
      refine dr_aload_n l1 dX2_spread_74 rfl ?_
      obtain ⟨x6, e7, h⟩ := dtBind h
      refine dr_getI x6 dX2_spread_75 fl_RX2_26 e7 ?_
      refine dr_iconst (1 : Int32) dX2_spread_78 (by decide) ?_
      refine dr_iload l7 dX2_spread_79 rfl ?_
      refine dr_ishl dX2_spread_81 ?_
      refine dr_iand dX2_spread_82 ?_
      obtain ⟨ht9, hf10⟩ := dtIte h
      refine dr_if_eq 90 dX2_spread_83 (by decide) (fun hc8 => ?_) (fun hc8 => ?_)
      · have h := ht9 hc8
        refine dr_iconst (0 : Int32) dX2_spread_90 (by decide) ?_
        exact c_X2_spread_91 k47 (f_X2_spread_65 k47 n) hk47 ih l0 l1 l3 l4 l5 l6 l7 (0 : Int32) μ h
      · have h := hf10 hc8
        refine dr_iconst (1 : Int32) dX2_spread_86 (by decide) ?_
        refine dr_goto 91 dX2_spread_87 (by decide) ?_
        exact c_X2_spread_91 k47 (f_X2_spread_65 k47 n) hk47 ih l0 l1 l3 l4 l5 l6 l7 (1 : Int32) μ h
set_option maxRecDepth 100000 in
theorem c_X2_spread_47 {F : dtM} : ∀ (n : Nat) (l0 : Nat) (l1 : Nat) (l3 : Int32) (l4 : Int32) (l5 : Int32) (l6 : Int32) (μ : dtM), f_X2_spread_47 n l0 l1 l3 l4 l5 l6 μ = some F → dtW yX2_spread cX2_spread 12 (none) 1 (none) F 47 [some (.ref l0), some (.ref l1), none, some (.int l3), some (.int l4), some (.int l5), some (.int l6)] [] μ := by
  intro n
  induction n with
  | zero => intro l0 l1 l3 l4 l5 l6 μ h; cases h
  | succ n ih =>
    intro l0 l1 l3 l4 l5 l6 μ h
    have h := (show f_X2_spread_47 (n + 1) l0 l1 l3 l4 l5 l6 μ = some _ from h)
    rw [f_X2_spread_47] at h
    refine dr_iload l6 dX2_spread_47 rfl ?_
    refine dr_bipush (7 : Int32) dX2_spread_49 (by decide) ?_
    obtain ⟨ht2, hf3⟩ := dtIte h
    refine dr_icmp_ge 237 dX2_spread_51 (by decide) (fun hc1 => ?_) (fun hc1 => ?_)
    · have h := ht2 hc1
      refine dr_mask [] [] rfl ?_
      exact c_X2_spread_237 μ h
    · have h := hf3 hc1
      refine dr_iload l5 dX2_spread_54 rfl ?_
      obtain ⟨ht5, hf6⟩ := dtIte h
      refine dr_if_eq 237 dX2_spread_56 (by decide) (fun hc4 => ?_) (fun hc4 => ?_)
      · have h := ht5 hc4
        refine dr_mask [] [] rfl ?_
        exact c_X2_spread_237 μ h
      · have h := hf6 hc4
        refine dr_iconst (0 : Int32) dX2_spread_59 (by decide) ?_
        refine dr_istore [some (.ref l0), some (.ref l1), none, some (.int l3), some (.int l4), some (.int (0 : Int32)), some (.int l6)] dX2_spread_60 rfl rfl rfl ?_
        refine dr_iconst (0 : Int32) dX2_spread_62 (by decide) ?_
        refine dr_istore [some (.ref l0), some (.ref l1), none, some (.int l3), some (.int l4), some (.int (0 : Int32)), some (.int l6), some (.int (0 : Int32))] dX2_spread_63 rfl rfl rfl ?_
        exact c_X2_spread_65 (f_X2_spread_47 n) ih dtFuel l0 l1 l3 l4 (0 : Int32) l6 (0 : Int32) μ h
set_option maxRecDepth 100000 in
theorem c_X2_spread_34 {F : dtM} (k3 : Nat → Nat → Int32 → Int32 → Int32 → Int32 → dtM → Option dtM) (hk3 : ∀ (l0 : Nat) (l1 : Nat) (l2 : Int32) (l3 : Int32) (l4 : Int32) (l5 : Int32) (μ : dtM), k3 l0 l1 l2 l3 l4 l5 μ = some F → dtW yX2_spread cX2_spread 12 (none) 1 (none) F 3 [some (.ref l0), some (.ref l1), some (.int l2), some (.int l3), some (.int l4), some (.int l5)] [] μ) (l0 : Nat) (l1 : Nat) (l2 : Int32) (l3 : Int32) (l4 : Int32) (l5 : Int32) (s0 : Nat) (s1 : Int32) (s2 : Int32) (μ : dtM) (h : f_X2_spread_34 k3 l0 l1 l2 l3 l4 l5 s0 s1 s2 μ = some F) : dtW yX2_spread cX2_spread 12 (none) 1 (none) F 34 [some (.ref l0), some (.ref l1), some (.int l2), some (.int l3), some (.int l4), some (.int l5)] [.int s2, .int s1, .ref s0] μ := by
  rw [f_X2_spread_34] at h
  obtain ⟨μ1, e2, h⟩ := dtBind h
  refine dr_iastore μ1 dX2_spread_34 e2 ?_
  refine dr_iinc l5 (l5 + 1) [some (.ref l0), some (.ref l1), some (.int l2), some (.int l3), some (.int l4), some (.int (l5 + 1))] dX2_spread_35 rfl rfl rfl rfl rfl ?_
  refine dr_goto 3 dX2_spread_38 (by decide) ?_
  exact hk3 l0 l1 l2 l3 l4 (l5 + 1) μ1 h
set_option maxRecDepth 100000 in
theorem c_X2_spread_3 {F : dtM} : ∀ (n : Nat) (l0 : Nat) (l1 : Nat) (l2 : Int32) (l3 : Int32) (l4 : Int32) (l5 : Int32) (μ : dtM), f_X2_spread_3 n l0 l1 l2 l3 l4 l5 μ = some F → dtW yX2_spread cX2_spread 12 (none) 1 (none) F 3 [some (.ref l0), some (.ref l1), some (.int l2), some (.int l3), some (.int l4), some (.int l5)] [] μ := by
  intro n
  induction n with
  | zero => intro l0 l1 l2 l3 l4 l5 μ h; cases h
  | succ n ih =>
    intro l0 l1 l2 l3 l4 l5 μ h
    have h := (show f_X2_spread_3 (n + 1) l0 l1 l2 l3 l4 l5 μ = some _ from h)
    rw [f_X2_spread_3] at h
    refine dr_iload l5 dX2_spread_3 rfl ?_
    refine dr_aload_n l0 dX2_spread_5 rfl ?_
    obtain ⟨x1, e2, h⟩ := dtBind h
    refine dr_getR x1 dX2_spread_6 fl_RX2_9 e2 ?_
    obtain ⟨x3, e4, h⟩ := dtBind h
    refine dr_arraylength x3 dX2_spread_9 e4 ?_
    obtain ⟨ht6, hf7⟩ := dtIte h
    refine dr_icmp_ge 41 dX2_spread_10 (by decide) (fun hc5 => ?_) (fun hc5 => ?_)
    · have h := ht6 hc5
      refine dr_iconst (1 : Int32) dX2_spread_41 (by decide) ?_
      refine dr_istore [some (.ref l0), some (.ref l1), some (.int l2), some (.int l3), some (.int l4), some (.int (1 : Int32))] dX2_spread_42 rfl rfl rfl ?_
      refine dr_iconst (0 : Int32) dX2_spread_44 (by decide) ?_
      refine dr_istore [some (.ref l0), some (.ref l1), some (.int l2), some (.int l3), some (.int l4), some (.int (1 : Int32)), some (.int (0 : Int32))] dX2_spread_45 rfl rfl rfl ?_
      refine dr_mask [true, true, false, true, true, true, true] [some (.ref l0), some (.ref l1), none, some (.int l3), some (.int l4), some (.int (1 : Int32)), some (.int (0 : Int32))] rfl ?_
      exact c_X2_spread_47 dtFuel l0 l1 l3 l4 (1 : Int32) (0 : Int32) μ h
    · have h := hf7 hc5
      refine dr_aload_n l0 dX2_spread_13 rfl ?_
      obtain ⟨x8, e9, h⟩ := dtBind h
      refine dr_getR x8 dX2_spread_14 fl_RX2_9 e9 ?_
      refine dr_iload l5 dX2_spread_17 rfl ?_
      refine dr_iload_n l2 dX2_spread_19 rfl ?_
      refine dr_iconst (1 : Int32) dX2_spread_20 (by decide) ?_
      refine dr_iload l5 dX2_spread_21 rfl ?_
      refine dr_ishl dX2_spread_23 ?_
      refine dr_iand dX2_spread_24 ?_
      obtain ⟨ht11, hf12⟩ := dtIte h
      refine dr_if_eq 32 dX2_spread_25 (by decide) (fun hc10 => ?_) (fun hc10 => ?_)
      · have h := ht11 hc10
        refine dr_ldc (1000000 : Int32) dX2_spread_32 wt_903 ?_
        exact c_X2_spread_34 (f_X2_spread_3 n) ih l0 l1 l2 l3 l4 l5 x8 l5 (1000000 : Int32) μ h
      · have h := hf12 hc10
        refine dr_iconst (0 : Int32) dX2_spread_28 (by decide) ?_
        refine dr_goto 34 dX2_spread_29 (by decide) ?_
        exact c_X2_spread_34 (f_X2_spread_3 n) ih l0 l1 l2 l3 l4 l5 x8 l5 (0 : Int32) μ h
set_option maxRecDepth 100000 in
theorem c_X2_spread {F : dtM} (p0 : Nat) (p1 : Nat) (p2 : Int32) (p3 : Int32) (p4 : Int32) (μ : dtM) (h : f_X2_spread p0 p1 p2 p3 p4 μ = some F) : dtMet yX2_spread cX2_spread 12 (none) 1 [.ref p0, .ref p1, .int p2, .int p3, .int p4] μ (none) F := by
  refine dtMet.of (by decide +kernel) (Nat.le_of_ble_eq_true rfl) (show dtW yX2_spread cX2_spread 12 (none) 1 (none) F 0 [some (.ref p0), some (.ref p1), some (.int p2), some (.int p3), some (.int p4)] [] μ from ?_)
  rw [f_X2_spread] at h
  refine dr_iconst (0 : Int32) dX2_spread_0 (by decide) ?_
  refine dr_istore [some (.ref p0), some (.ref p1), some (.int p2), some (.int p3), some (.int p4), some (.int (0 : Int32))] dX2_spread_1 rfl rfl rfl ?_
  exact c_X2_spread_3 dtFuel p0 p1 p2 p3 p4 (0 : Int32) μ h
/-! X2_lossBetween -/
theorem dX2_lossBetween_0 : decode cX2_lossBetween 0 = .ok (.aload_n 0, 1) := by decide +kernel
theorem dX2_lossBetween_1 : decode cX2_lossBetween 1 = .ok (.aload_n 1, 1) := by decide +kernel
theorem dX2_lossBetween_2 : decode cX2_lossBetween 2 = .ok (.iconst 1, 1) := by decide +kernel
theorem dX2_lossBetween_3 : decode cX2_lossBetween 3 = .ok (.iload_n 2, 1) := by decide +kernel
theorem dX2_lossBetween_4 : decode cX2_lossBetween 4 = .ok (.ishl, 1) := by decide +kernel
theorem dX2_lossBetween_5 : decode cX2_lossBetween 5 = .ok (.iconst (-1), 1) := by decide +kernel
theorem dX2_lossBetween_6 : decode cX2_lossBetween 6 = .ok (.iconst 0, 1) := by decide +kernel
theorem dX2_lossBetween_7 : decode cX2_lossBetween 7 = .ok (.invokevirtual 15, 3) := by decide +kernel
theorem dX2_lossBetween_10 : decode cX2_lossBetween 10 = .ok (.aload_n 0, 1) := by decide +kernel
theorem dX2_lossBetween_11 : decode cX2_lossBetween 11 = .ok (.getfield 9, 3) := by decide +kernel
theorem dX2_lossBetween_14 : decode cX2_lossBetween 14 = .ok (.iload_n 3, 1) := by decide +kernel
theorem dX2_lossBetween_15 : decode cX2_lossBetween 15 = .ok (.iaload, 1) := by decide +kernel
theorem dX2_lossBetween_16 : decode cX2_lossBetween 16 = .ok (.ldc 19, 2) := by decide +kernel
theorem dX2_lossBetween_18 : decode cX2_lossBetween 18 = .ok (.if_icmp .ge 12, 3) := by decide +kernel
theorem dX2_lossBetween_21 : decode cX2_lossBetween 21 = .ok (.aload_n 0, 1) := by decide +kernel
theorem dX2_lossBetween_22 : decode cX2_lossBetween 22 = .ok (.getfield 9, 3) := by decide +kernel
theorem dX2_lossBetween_25 : decode cX2_lossBetween 25 = .ok (.iload_n 3, 1) := by decide +kernel
theorem dX2_lossBetween_26 : decode cX2_lossBetween 26 = .ok (.iaload, 1) := by decide +kernel
theorem dX2_lossBetween_27 : decode cX2_lossBetween 27 = .ok (.goto 4, 3) := by decide +kernel
theorem dX2_lossBetween_30 : decode cX2_lossBetween 30 = .ok (.iconst (-1), 1) := by decide +kernel
theorem dX2_lossBetween_31 : decode cX2_lossBetween 31 = .ok (.ireturn, 1) := by decide +kernel
set_option maxRecDepth 100000 in
def f_X2_lossBetween_31 (s0 : Int32) (μ : dtM) : Option (Int32 × dtM) :=
  some (s0, μ)
set_option maxRecDepth 100000 in
def f_X2_lossBetween (p0 : Nat) (p1 : Nat) (p2 : Int32) (p3 : Int32) (μ : dtM) : Option (Int32 × dtM) :=
  (opRv 2 μ p0).bind fun _ => (f_X2_spread p0 p1 ((1 : Int32) <<< (p2 &&& 31)) (-1 : Int32) (0 : Int32) μ).bind fun μ2 => (opGR 2 0 μ2 p0).bind fun x4 => (opLI 1 μ2 x4 p3).bind fun x6 => if (1000000 : Int32) ≤ x6 then (f_X2_lossBetween_31 (-1 : Int32) μ2) else ((opGR 2 0 μ2 p0).bind fun x11 => (opLI 1 μ2 x11 p3).bind fun x13 => f_X2_lossBetween_31 x13 μ2)
set_option maxRecDepth 100000 in
theorem c_X2_lossBetween_31 {r : Int32} {F : dtM} (s0 : Int32) (μ : dtM) (h : f_X2_lossBetween_31 s0 μ = some (r, F)) : dtW yX2_lossBetween cX2_lossBetween 4 (some .int) 2 (some (.int r)) F 31 [] [.int s0] μ := by
  rw [f_X2_lossBetween_31] at h
  cases h
  exact dr_ireturn dX2_lossBetween_31 rfl
set_option maxRecDepth 100000 in
theorem c_X2_lossBetween {r : Int32} {F : dtM} (p0 : Nat) (p1 : Nat) (p2 : Int32) (p3 : Int32) (μ : dtM) (h : f_X2_lossBetween p0 p1 p2 p3 μ = some (r, F)) : dtMet yX2_lossBetween cX2_lossBetween 4 (some .int) 2 [.ref p0, .ref p1, .int p2, .int p3] μ (some (.int r)) F := by
  refine dtMet.of (by decide +kernel) (Nat.le_of_ble_eq_true rfl) (show dtW yX2_lossBetween cX2_lossBetween 4 (some .int) 2 (some (.int r)) F 0 [some (.ref p0), some (.ref p1), some (.int p2), some (.int p3)] [] μ from ?_)
  rw [f_X2_lossBetween] at h
  refine dr_aload_n p0 dX2_lossBetween_0 rfl ?_
  refine dr_aload_n p1 dX2_lossBetween_1 rfl ?_
  refine dr_iconst (1 : Int32) dX2_lossBetween_2 (by decide) ?_
  refine dr_iload_n p2 dX2_lossBetween_3 rfl ?_
  refine dr_ishl dX2_lossBetween_4 ?_
  refine dr_iconst (-1 : Int32) dX2_lossBetween_5 (by decide) ?_
  refine dr_iconst (0 : Int32) dX2_lossBetween_6 (by decide) ?_
  obtain ⟨_, hb1, h⟩ := dtBind h
  obtain ⟨μ2, e3, h⟩ := dtBind h
  refine dr_callV_v (S0 := []) [.ref p1, .int ((1 : Int32) <<< (p2 &&& 31)), .int (-1 : Int32), .int (0 : Int32)] μ2 dX2_lossBetween_7 (c_X2_spread p0 p1 ((1 : Int32) <<< (p2 &&& 31)) (-1 : Int32) (0 : Int32) μ e3) mf_X2_spread wt_901 ws_29 wt_899 rfl (dtRv hb1) (by decide) rfl (Nat.le_of_ble_eq_true rfl) (Nat.le_of_ble_eq_true rfl) rfl ?_
  refine dr_aload_n p0 dX2_lossBetween_10 rfl ?_
  obtain ⟨x4, e5, h⟩ := dtBind h
  refine dr_getR x4 dX2_lossBetween_11 fl_RX2_9 e5 ?_
  refine dr_iload_n p3 dX2_lossBetween_14 rfl ?_
  obtain ⟨x6, e7, h⟩ := dtBind h
  refine dr_iaload x6 dX2_lossBetween_15 e7 ?_
  refine dr_ldc (1000000 : Int32) dX2_lossBetween_16 wt_903 ?_
  obtain ⟨ht9, hf10⟩ := dtIte h
  refine dr_icmp_ge 30 dX2_lossBetween_18 (by decide) (fun hc8 => ?_) (fun hc8 => ?_)
  · have h := ht9 hc8
    refine dr_iconst (-1 : Int32) dX2_lossBetween_30 (by decide) ?_
    refine dr_mask [] [] rfl ?_
    exact c_X2_lossBetween_31 (-1 : Int32) μ2 h
  · have h := hf10 hc8
    refine dr_aload_n p0 dX2_lossBetween_21 rfl ?_
    obtain ⟨x11, e12, h⟩ := dtBind h
    refine dr_getR x11 dX2_lossBetween_22 fl_RX2_9 e12 ?_
    refine dr_iload_n p3 dX2_lossBetween_25 rfl ?_
    obtain ⟨x13, e14, h⟩ := dtBind h
    refine dr_iaload x13 dX2_lossBetween_26 e14 ?_
    refine dr_goto 31 dX2_lossBetween_27 (by decide) ?_
    refine dr_mask [] [] rfl ?_
    exact c_X2_lossBetween_31 x13 μ2 h
/-! X2_comesTo -/
theorem dX2_comesTo_0 : decode cX2_comesTo 0 = .ok (.getstatic 48, 3) := by decide +kernel
theorem dX2_comesTo_3 : decode cX2_comesTo 3 = .ok (.iload_n 3, 1) := by decide +kernel
theorem dX2_comesTo_4 : decode cX2_comesTo 4 = .ok (.iaload, 1) := by decide +kernel
theorem dX2_comesTo_5 : decode cX2_comesTo 5 = .ok (.aload_n 0, 1) := by decide +kernel
theorem dX2_comesTo_6 : decode cX2_comesTo 6 = .ok (.getfield 9, 3) := by decide +kernel
theorem dX2_comesTo_9 : decode cX2_comesTo 9 = .ok (.aload_n 1, 1) := by decide +kernel
theorem dX2_comesTo_10 : decode cX2_comesTo 10 = .ok (.getfield 51, 3) := by decide +kernel
theorem dX2_comesTo_13 : decode cX2_comesTo 13 = .ok (.iload_n 2, 1) := by decide +kernel
theorem dX2_comesTo_14 : decode cX2_comesTo 14 = .ok (.iaload, 1) := by decide +kernel
theorem dX2_comesTo_15 : decode cX2_comesTo 15 = .ok (.iaload, 1) := by decide +kernel
theorem dX2_comesTo_16 : decode cX2_comesTo 16 = .ok (.isub, 1) := by decide +kernel
theorem dX2_comesTo_17 : decode cX2_comesTo 17 = .ok (.aload_n 1, 1) := by decide +kernel
theorem dX2_comesTo_18 : decode cX2_comesTo 18 = .ok (.getfield 54, 3) := by decide +kernel
theorem dX2_comesTo_21 : decode cX2_comesTo 21 = .ok (.iload_n 2, 1) := by decide +kernel
theorem dX2_comesTo_22 : decode cX2_comesTo 22 = .ok (.iaload, 1) := by decide +kernel
theorem dX2_comesTo_23 : decode cX2_comesTo 23 = .ok (.if_icmp .le 7, 3) := by decide +kernel
theorem dX2_comesTo_26 : decode cX2_comesTo 26 = .ok (.iconst 1, 1) := by decide +kernel
theorem dX2_comesTo_27 : decode cX2_comesTo 27 = .ok (.goto 4, 3) := by decide +kernel
theorem dX2_comesTo_30 : decode cX2_comesTo 30 = .ok (.iconst 0, 1) := by decide +kernel
theorem dX2_comesTo_31 : decode cX2_comesTo 31 = .ok (.ireturn, 1) := by decide +kernel
set_option maxRecDepth 100000 in
def f_X2_comesTo_31 (s0 : Int32) (μ : dtM) : Option (Int32 × dtM) :=
  opRet s0 μ
set_option maxRecDepth 100000 in
def f_X2_comesTo (p0 : Nat) (p1 : Nat) (p2 : Int32) (p3 : Int32) (μ : dtM) : Option (Int32 × dtM) :=
  (opLoud p3).bind fun x1 => (opGR 2 0 μ p0).bind fun x3 => (opGR 3 14 μ p1).bind fun x5 => (opLI 1 μ x5 p2).bind fun x7 => (opLI 1 μ x3 x7).bind fun x9 => (opGR 3 15 μ p1).bind fun x11 => (opLI 1 μ x11 p2).bind fun x13 => if (x1 - x9) ≤ x13 then (f_X2_comesTo_31 (0 : Int32) μ) else (f_X2_comesTo_31 (1 : Int32) μ)
set_option maxRecDepth 100000 in
theorem c_X2_comesTo_31 {r : Int32} {F : dtM} (s0 : Int32) (μ : dtM) (h : f_X2_comesTo_31 s0 μ = some (r, F)) : dtW yX2_comesTo cX2_comesTo 4 (some .boolean) 1 (some (.int r)) F 31 [] [.int s0] μ := by
  rw [f_X2_comesTo_31] at h
  obtain ⟨hz, rfl, rfl⟩ := dtRet h
  exact dr_ireturn dX2_comesTo_31 (dtNz hz)
set_option maxRecDepth 100000 in
theorem c_X2_comesTo {r : Int32} {F : dtM} (p0 : Nat) (p1 : Nat) (p2 : Int32) (p3 : Int32) (μ : dtM) (h : f_X2_comesTo p0 p1 p2 p3 μ = some (r, F)) : dtMet yX2_comesTo cX2_comesTo 4 (some .boolean) 1 [.ref p0, .ref p1, .int p2, .int p3] μ (some (.int r)) F := by
  refine dtMet.of (by decide +kernel) (Nat.le_of_ble_eq_true rfl) (show dtW yX2_comesTo cX2_comesTo 4 (some .boolean) 1 (some (.int r)) F 0 [some (.ref p0), some (.ref p1), some (.int p2), some (.int p3)] [] μ from ?_)
  rw [f_X2_comesTo] at h
  refine dr_loud dX2_comesTo_0 wt_912 ?_
  refine dr_iload_n p3 dX2_comesTo_3 rfl ?_
  obtain ⟨x1, e2, h⟩ := dtBind h
  refine dr_loudld x1 dX2_comesTo_4 e2 ?_
  refine dr_aload_n p0 dX2_comesTo_5 rfl ?_
  obtain ⟨x3, e4, h⟩ := dtBind h
  refine dr_getR x3 dX2_comesTo_6 fl_RX2_9 e4 ?_
  refine dr_aload_n p1 dX2_comesTo_9 rfl ?_
  obtain ⟨x5, e6, h⟩ := dtBind h
  refine dr_getR x5 dX2_comesTo_10 fl_RX2_51 e6 ?_
  refine dr_iload_n p2 dX2_comesTo_13 rfl ?_
  obtain ⟨x7, e8, h⟩ := dtBind h
  refine dr_iaload x7 dX2_comesTo_14 e8 ?_
  obtain ⟨x9, e10, h⟩ := dtBind h
  refine dr_iaload x9 dX2_comesTo_15 e10 ?_
  refine dr_isub dX2_comesTo_16 ?_
  refine dr_aload_n p1 dX2_comesTo_17 rfl ?_
  obtain ⟨x11, e12, h⟩ := dtBind h
  refine dr_getR x11 dX2_comesTo_18 fl_RX2_54 e12 ?_
  refine dr_iload_n p2 dX2_comesTo_21 rfl ?_
  obtain ⟨x13, e14, h⟩ := dtBind h
  refine dr_iaload x13 dX2_comesTo_22 e14 ?_
  obtain ⟨ht16, hf17⟩ := dtIte h
  refine dr_icmp_le 30 dX2_comesTo_23 (by decide) (fun hc15 => ?_) (fun hc15 => ?_)
  · have h := ht16 hc15
    refine dr_iconst (0 : Int32) dX2_comesTo_30 (by decide) ?_
    refine dr_mask [] [] rfl ?_
    exact c_X2_comesTo_31 (0 : Int32) μ h
  · have h := hf17 hc15
    refine dr_iconst (1 : Int32) dX2_comesTo_26 (by decide) ?_
    refine dr_goto 31 dX2_comesTo_27 (by decide) ?_
    refine dr_mask [] [] rfl ?_
    exact c_X2_comesTo_31 (1 : Int32) μ h
/-! X3_roomsOfDoor -/
theorem dX3_roomsOfDoor_0 : decode cX3_roomsOfDoor 0 = .ok (.iconst 1, 1) := by decide +kernel
theorem dX3_roomsOfDoor_1 : decode cX3_roomsOfDoor 1 = .ok (.aload_n 0, 1) := by decide +kernel
theorem dX3_roomsOfDoor_2 : decode cX3_roomsOfDoor 2 = .ok (.getfield 22, 3) := by decide +kernel
theorem dX3_roomsOfDoor_5 : decode cX3_roomsOfDoor 5 = .ok (.iload_n 1, 1) := by decide +kernel
theorem dX3_roomsOfDoor_6 : decode cX3_roomsOfDoor 6 = .ok (.iaload, 1) := by decide +kernel
theorem dX3_roomsOfDoor_7 : decode cX3_roomsOfDoor 7 = .ok (.ishl, 1) := by decide +kernel
theorem dX3_roomsOfDoor_8 : decode cX3_roomsOfDoor 8 = .ok (.iconst 1, 1) := by decide +kernel
theorem dX3_roomsOfDoor_9 : decode cX3_roomsOfDoor 9 = .ok (.aload_n 0, 1) := by decide +kernel
theorem dX3_roomsOfDoor_10 : decode cX3_roomsOfDoor 10 = .ok (.getfield 26, 3) := by decide +kernel
theorem dX3_roomsOfDoor_13 : decode cX3_roomsOfDoor 13 = .ok (.iload_n 1, 1) := by decide +kernel
theorem dX3_roomsOfDoor_14 : decode cX3_roomsOfDoor 14 = .ok (.iaload, 1) := by decide +kernel
theorem dX3_roomsOfDoor_15 : decode cX3_roomsOfDoor 15 = .ok (.ishl, 1) := by decide +kernel
theorem dX3_roomsOfDoor_16 : decode cX3_roomsOfDoor 16 = .ok (.ior, 1) := by decide +kernel
theorem dX3_roomsOfDoor_17 : decode cX3_roomsOfDoor 17 = .ok (.ireturn, 1) := by decide +kernel
set_option maxRecDepth 100000 in
def f_X3_roomsOfDoor (p0 : Nat) (p1 : Int32) (μ : dtM) : Option (Int32 × dtM) :=
  (opGR 3 9 μ p0).bind fun x1 => (opLI 1 μ x1 p1).bind fun x3 => (opGR 3 10 μ p0).bind fun x5 => (opLI 1 μ x5 p1).bind fun x7 => some ((((1 : Int32) <<< (x3 &&& 31)) ||| ((1 : Int32) <<< (x7 &&& 31))), μ)
set_option maxRecDepth 100000 in
theorem c_X3_roomsOfDoor {r : Int32} {F : dtM} (p0 : Nat) (p1 : Int32) (μ : dtM) (h : f_X3_roomsOfDoor p0 p1 μ = some (r, F)) : dtMet yX3_roomsOfDoor cX3_roomsOfDoor 2 (some .int) 1 [.ref p0, .int p1] μ (some (.int r)) F := by
  refine dtMet.of (by decide +kernel) (Nat.le_of_ble_eq_true rfl) (show dtW yX3_roomsOfDoor cX3_roomsOfDoor 2 (some .int) 1 (some (.int r)) F 0 [some (.ref p0), some (.int p1)] [] μ from ?_)
  rw [f_X3_roomsOfDoor] at h
  refine dr_iconst (1 : Int32) dX3_roomsOfDoor_0 (by decide) ?_
  refine dr_aload_n p0 dX3_roomsOfDoor_1 rfl ?_
  obtain ⟨x1, e2, h⟩ := dtBind h
  refine dr_getR x1 dX3_roomsOfDoor_2 fl_RX3_22 e2 ?_
  refine dr_iload_n p1 dX3_roomsOfDoor_5 rfl ?_
  obtain ⟨x3, e4, h⟩ := dtBind h
  refine dr_iaload x3 dX3_roomsOfDoor_6 e4 ?_
  refine dr_ishl dX3_roomsOfDoor_7 ?_
  refine dr_iconst (1 : Int32) dX3_roomsOfDoor_8 (by decide) ?_
  refine dr_aload_n p0 dX3_roomsOfDoor_9 rfl ?_
  obtain ⟨x5, e6, h⟩ := dtBind h
  refine dr_getR x5 dX3_roomsOfDoor_10 fl_RX3_26 e6 ?_
  refine dr_iload_n p1 dX3_roomsOfDoor_13 rfl ?_
  obtain ⟨x7, e8, h⟩ := dtBind h
  refine dr_iaload x7 dX3_roomsOfDoor_14 e8 ?_
  refine dr_ishl dX3_roomsOfDoor_15 ?_
  refine dr_ior dX3_roomsOfDoor_16 ?_
  cases h
  exact dr_ireturn dX3_roomsOfDoor_17 rfl
/-! X2_hearersOf -/
theorem dX2_hearersOf_0 : decode cX2_hearersOf 0 = .ok (.aload_n 0, 1) := by decide +kernel
theorem dX2_hearersOf_1 : decode cX2_hearersOf 1 = .ok (.aload_n 1, 1) := by decide +kernel
theorem dX2_hearersOf_2 : decode cX2_hearersOf 2 = .ok (.aload_n 1, 1) := by decide +kernel
theorem dX2_hearersOf_3 : decode cX2_hearersOf 3 = .ok (.iload_n 2, 1) := by decide +kernel
theorem dX2_hearersOf_4 : decode cX2_hearersOf 4 = .ok (.invokevirtual 57, 3) := by decide +kernel
theorem dX2_hearersOf_7 : decode cX2_hearersOf 7 = .ok (.iload_n 2, 1) := by decide +kernel
theorem dX2_hearersOf_8 : decode cX2_hearersOf 8 = .ok (.iconst 0, 1) := by decide +kernel
theorem dX2_hearersOf_9 : decode cX2_hearersOf 9 = .ok (.invokevirtual 15, 3) := by decide +kernel
theorem dX2_hearersOf_12 : decode cX2_hearersOf 12 = .ok (.iconst 0, 1) := by decide +kernel
theorem dX2_hearersOf_13 : decode cX2_hearersOf 13 = .ok (.istore 5, 2) := by decide +kernel
theorem dX2_hearersOf_15 : decode cX2_hearersOf 15 = .ok (.iconst 0, 1) := by decide +kernel
theorem dX2_hearersOf_16 : decode cX2_hearersOf 16 = .ok (.istore 6, 2) := by decide +kernel
theorem dX2_hearersOf_18 : decode cX2_hearersOf 18 = .ok (.iload 6, 2) := by decide +kernel
theorem dX2_hearersOf_20 : decode cX2_hearersOf 20 = .ok (.aload_n 1, 1) := by decide +kernel
theorem dX2_hearersOf_21 : decode cX2_hearersOf 21 = .ok (.getfield 60, 3) := by decide +kernel
theorem dX2_hearersOf_24 : decode cX2_hearersOf 24 = .ok (.if_icmp .ge 36, 3) := by decide +kernel
theorem dX2_hearersOf_27 : decode cX2_hearersOf 27 = .ok (.iload 6, 2) := by decide +kernel
theorem dX2_hearersOf_29 : decode cX2_hearersOf 29 = .ok (.iload 4, 2) := by decide +kernel
theorem dX2_hearersOf_31 : decode cX2_hearersOf 31 = .ok (.if_icmp .eq 23, 3) := by decide +kernel
theorem dX2_hearersOf_34 : decode cX2_hearersOf 34 = .ok (.aload_n 0, 1) := by decide +kernel
theorem dX2_hearersOf_35 : decode cX2_hearersOf 35 = .ok (.aload_n 1, 1) := by decide +kernel
theorem dX2_hearersOf_36 : decode cX2_hearersOf 36 = .ok (.iload 6, 2) := by decide +kernel
theorem dX2_hearersOf_38 : decode cX2_hearersOf 38 = .ok (.iload_n 3, 1) := by decide +kernel
theorem dX2_hearersOf_39 : decode cX2_hearersOf 39 = .ok (.invokevirtual 63, 3) := by decide +kernel
theorem dX2_hearersOf_42 : decode cX2_hearersOf 42 = .ok (.ifCond .eq 12, 3) := by decide +kernel
theorem dX2_hearersOf_45 : decode cX2_hearersOf 45 = .ok (.iload 5, 2) := by decide +kernel
theorem dX2_hearersOf_47 : decode cX2_hearersOf 47 = .ok (.iconst 1, 1) := by decide +kernel
theorem dX2_hearersOf_48 : decode cX2_hearersOf 48 = .ok (.iload 6, 2) := by decide +kernel
theorem dX2_hearersOf_50 : decode cX2_hearersOf 50 = .ok (.ishl, 1) := by decide +kernel
theorem dX2_hearersOf_51 : decode cX2_hearersOf 51 = .ok (.ior, 1) := by decide +kernel
theorem dX2_hearersOf_52 : decode cX2_hearersOf 52 = .ok (.istore 5, 2) := by decide +kernel
theorem dX2_hearersOf_54 : decode cX2_hearersOf 54 = .ok (.iinc 6 1, 3) := by decide +kernel
theorem dX2_hearersOf_57 : decode cX2_hearersOf 57 = .ok (.goto (-39), 3) := by decide +kernel
theorem dX2_hearersOf_60 : decode cX2_hearersOf 60 = .ok (.iload 5, 2) := by decide +kernel
theorem dX2_hearersOf_62 : decode cX2_hearersOf 62 = .ok (.ireturn, 1) := by decide +kernel
set_option maxRecDepth 100000 in
def f_X2_hearersOf_54 (k18 : Nat → Nat → Int32 → Int32 → Int32 → Int32 → dtM → Option (Int32 × dtM)) (l0 : Nat) (l1 : Nat) (l3 : Int32) (l4 : Int32) (l5 : Int32) (l6 : Int32) (μ : dtM) : Option (Int32 × dtM) :=
  k18 l0 l1 l3 l4 l5 (l6 + 1) μ
set_option maxRecDepth 100000 in
def f_X2_hearersOf_18 : Nat → Nat → Nat → Int32 → Int32 → Int32 → Int32 → dtM → Option (Int32 × dtM)
  | 0, _, _, _, _, _, _, _ => none
  | n + 1, l0, l1, l3, l4, l5, l6, μ =>
    (opGI 3 3 μ l1).bind fun x1 => if x1 ≤ l6 then (some (l5, μ)) else (if l6 = l4 then (f_X2_hearersOf_54 (f_X2_hearersOf_18 n) l0 l1 l3 l4 l5 l6 μ) else ((opRv 2 μ l0).bind fun _ => opCall (f_X2_comesTo l0 l1 l6 l3 μ) fun x12 μ10 => if x12 = 0 then (f_X2_hearersOf_54 (f_X2_hearersOf_18 n) l0 l1 l3 l4 l5 l6 μ10) else ((some (l5 ||| ((1 : Int32) <<< (l6 &&& 31)))).bind fun x16 => f_X2_hearersOf_54 (f_X2_hearersOf_18 n) l0 l1 l3 l4 x16 l6 μ10)))
set_option maxRecDepth 100000 in
def f_X2_hearersOf (p0 : Nat) (p1 : Nat) (p2 : Int32) (p3 : Int32) (p4 : Int32) (μ : dtM) : Option (Int32 × dtM) :=
  (opRv 3 μ p1).bind fun _ => opCall (f_X3_roomsOfDoor p1 p2 μ) fun x4 μ2 => (opRv 2 μ2 p0).bind fun _ => (f_X2_spread p0 p1 x4 p2 (0 : Int32) μ2).bind fun μ6 => f_X2_hearersOf_18 dtFuel p0 p1 p3 p4 (0 : Int32) (0 : Int32) μ6
set_option maxRecDepth 100000 in
theorem c_X2_hearersOf_54 {r : Int32} {F : dtM} (k18 : Nat → Nat → Int32 → Int32 → Int32 → Int32 → dtM → Option (Int32 × dtM)) (hk18 : ∀ (l0 : Nat) (l1 : Nat) (l3 : Int32) (l4 : Int32) (l5 : Int32) (l6 : Int32) (μ : dtM), k18 l0 l1 l3 l4 l5 l6 μ = some (r, F) → dtW yX2_hearersOf cX2_hearersOf 7 (some .int) 2 (some (.int r)) F 18 [some (.ref l0), some (.ref l1), none, some (.int l3), some (.int l4), some (.int l5), some (.int l6)] [] μ) (l0 : Nat) (l1 : Nat) (l3 : Int32) (l4 : Int32) (l5 : Int32) (l6 : Int32) (μ : dtM) (h : f_X2_hearersOf_54 k18 l0 l1 l3 l4 l5 l6 μ = some (r, F)) : dtW yX2_hearersOf cX2_hearersOf 7 (some .int) 2 (some (.int r)) F 54 [some (.ref l0), some (.ref l1), none, some (.int l3), some (.int l4), some (.int l5), some (.int l6)] [] μ := by
  rw [f_X2_hearersOf_54] at h
  refine dr_iinc l6 (l6 + 1) [some (.ref l0), some (.ref l1), none, some (.int l3), some (.int l4), some (.int l5), some (.int (l6 + 1))] dX2_hearersOf_54 rfl rfl rfl rfl rfl ?_
  refine dr_goto 18 dX2_hearersOf_57 (by decide) ?_
  exact hk18 l0 l1 l3 l4 l5 (l6 + 1) μ h
set_option maxRecDepth 100000 in
theorem c_X2_hearersOf_18 {r : Int32} {F : dtM} : ∀ (n : Nat) (l0 : Nat) (l1 : Nat) (l3 : Int32) (l4 : Int32) (l5 : Int32) (l6 : Int32) (μ : dtM), f_X2_hearersOf_18 n l0 l1 l3 l4 l5 l6 μ = some (r, F) → dtW yX2_hearersOf cX2_hearersOf 7 (some .int) 2 (some (.int r)) F 18 [some (.ref l0), some (.ref l1), none, some (.int l3), some (.int l4), some (.int l5), some (.int l6)] [] μ := by
  intro n
  induction n with
  | zero => intro l0 l1 l3 l4 l5 l6 μ h; cases h
  | succ n ih =>
    intro l0 l1 l3 l4 l5 l6 μ h
    have h := (show f_X2_hearersOf_18 (n + 1) l0 l1 l3 l4 l5 l6 μ = some _ from h)
    rw [f_X2_hearersOf_18] at h
    refine dr_iload l6 dX2_hearersOf_18 rfl ?_
    refine dr_aload_n l1 dX2_hearersOf_20 rfl ?_
    obtain ⟨x1, e2, h⟩ := dtBind h
    refine dr_getI x1 dX2_hearersOf_21 fl_RX2_60 e2 ?_
    obtain ⟨ht4, hf5⟩ := dtIte h
    refine dr_icmp_ge 60 dX2_hearersOf_24 (by decide) (fun hc3 => ?_) (fun hc3 => ?_)
    · have h := ht4 hc3
      refine dr_iload l5 dX2_hearersOf_60 rfl ?_
      cases h
      exact dr_ireturn dX2_hearersOf_62 rfl
    · have h := hf5 hc3
      refine dr_iload l6 dX2_hearersOf_27 rfl ?_
      refine dr_iload l4 dX2_hearersOf_29 rfl ?_
      obtain ⟨ht7, hf8⟩ := dtIte h
      refine dr_icmp_eq 54 dX2_hearersOf_31 (by decide) (fun hc6 => ?_) (fun hc6 => ?_)
      · have h := ht7 hc6
        exact c_X2_hearersOf_54 (f_X2_hearersOf_18 n) ih l0 l1 l3 l4 l5 l6 μ h
      · have h := hf8 hc6
        refine dr_aload_n l0 dX2_hearersOf_34 rfl ?_
        refine dr_aload_n l1 dX2_hearersOf_35 rfl ?_
        refine dr_iload l6 dX2_hearersOf_36 rfl ?_
        refine dr_iload_n l3 dX2_hearersOf_38 rfl ?_
        obtain ⟨_, hb9, h⟩ := dtBind h
        obtain ⟨x12, μ10, e11, h⟩ := dtCall h
        refine dr_callV_i (S0 := []) [.ref l1, .int l6, .int l3] x12 μ10 dX2_hearersOf_39 (c_X2_comesTo l0 l1 l6 l3 μ e11) mf_X2_comesTo wt_910 ws_30 wt_908 rfl (dtRv hb9) (by decide) rfl (Nat.le_of_ble_eq_true rfl) (Nat.le_of_ble_eq_true rfl) rfl ?_
        obtain ⟨ht14, hf15⟩ := dtIte h
        refine dr_if_eq 54 dX2_hearersOf_42 (by decide) (fun hc13 => ?_) (fun hc13 => ?_)
        · have h := ht14 hc13
          exact c_X2_hearersOf_54 (f_X2_hearersOf_18 n) ih l0 l1 l3 l4 l5 l6 μ10 h
        · have h := hf15 hc13
          refine dr_iload l5 dX2_hearersOf_45 rfl ?_
          refine dr_iconst (1 : Int32) dX2_hearersOf_47 (by decide) ?_
          refine dr_iload l6 dX2_hearersOf_48 rfl ?_
          refine dr_ishl dX2_hearersOf_50 ?_
          refine dr_ior dX2_hearersOf_51 ?_
          obtain ⟨x16, e17, h⟩ := dtBind h
          refine dr_nmi e17 ?_
          refine dr_istore [some (.ref l0), some (.ref l1), none, some (.int l3), some (.int l4), some (.int x16), some (.int l6)] dX2_hearersOf_52 rfl rfl rfl ?_
          exact c_X2_hearersOf_54 (f_X2_hearersOf_18 n) ih l0 l1 l3 l4 x16 l6 μ10 h
set_option maxRecDepth 100000 in
theorem c_X2_hearersOf {r : Int32} {F : dtM} (p0 : Nat) (p1 : Nat) (p2 : Int32) (p3 : Int32) (p4 : Int32) (μ : dtM) (h : f_X2_hearersOf p0 p1 p2 p3 p4 μ = some (r, F)) : dtMet yX2_hearersOf cX2_hearersOf 7 (some .int) 2 [.ref p0, .ref p1, .int p2, .int p3, .int p4] μ (some (.int r)) F := by
  refine dtMet.of (by decide +kernel) (Nat.le_of_ble_eq_true rfl) (show dtW yX2_hearersOf cX2_hearersOf 7 (some .int) 2 (some (.int r)) F 0 [some (.ref p0), some (.ref p1), some (.int p2), some (.int p3), some (.int p4)] [] μ from ?_)
  rw [f_X2_hearersOf] at h
  refine dr_aload_n p0 dX2_hearersOf_0 rfl ?_
  refine dr_aload_n p1 dX2_hearersOf_1 rfl ?_
  refine dr_aload_n p1 dX2_hearersOf_2 rfl ?_
  refine dr_iload_n p2 dX2_hearersOf_3 rfl ?_
  obtain ⟨_, hb1, h⟩ := dtBind h
  obtain ⟨x4, μ2, e3, h⟩ := dtCall h
  refine dr_callV_i (S0 := [.ref p1, .ref p0]) [.int p2] x4 μ2 dX2_hearersOf_4 (c_X3_roomsOfDoor p1 p2 μ e3) mf_X3_roomsOfDoor wt_896 wt_897 wt_895 rfl (dtRv hb1) (by decide) rfl (Nat.le_of_ble_eq_true rfl) (Nat.le_of_ble_eq_true rfl) rfl ?_
  refine dr_iload_n p2 dX2_hearersOf_7 rfl ?_
  refine dr_iconst (0 : Int32) dX2_hearersOf_8 (by decide) ?_
  obtain ⟨_, hb5, h⟩ := dtBind h
  obtain ⟨μ6, e7, h⟩ := dtBind h
  refine dr_callV_v (S0 := []) [.ref p1, .int x4, .int p2, .int (0 : Int32)] μ6 dX2_hearersOf_9 (c_X2_spread p0 p1 x4 p2 (0 : Int32) μ2 e7) mf_X2_spread wt_901 ws_29 wt_899 rfl (dtRv hb5) (by decide) rfl (Nat.le_of_ble_eq_true rfl) (Nat.le_of_ble_eq_true rfl) rfl ?_
  refine dr_iconst (0 : Int32) dX2_hearersOf_12 (by decide) ?_
  refine dr_istore [some (.ref p0), some (.ref p1), some (.int p2), some (.int p3), some (.int p4), some (.int (0 : Int32))] dX2_hearersOf_13 rfl rfl rfl ?_
  refine dr_iconst (0 : Int32) dX2_hearersOf_15 (by decide) ?_
  refine dr_istore [some (.ref p0), some (.ref p1), some (.int p2), some (.int p3), some (.int p4), some (.int (0 : Int32)), some (.int (0 : Int32))] dX2_hearersOf_16 rfl rfl rfl ?_
  refine dr_mask [true, true, false, true, true, true, true] [some (.ref p0), some (.ref p1), none, some (.int p3), some (.int p4), some (.int (0 : Int32)), some (.int (0 : Int32))] rfl ?_
  exact c_X2_hearersOf_18 dtFuel p0 p1 p3 p4 (0 : Int32) (0 : Int32) μ6 h
/-! X2_doorsHeard -/
theorem dX2_doorsHeard_0 : decode cX2_doorsHeard 0 = .ok (.iconst 0, 1) := by decide +kernel
theorem dX2_doorsHeard_1 : decode cX2_doorsHeard 1 = .ok (.istore 4, 2) := by decide +kernel
theorem dX2_doorsHeard_3 : decode cX2_doorsHeard 3 = .ok (.iconst 0, 1) := by decide +kernel
theorem dX2_doorsHeard_4 : decode cX2_doorsHeard 4 = .ok (.istore 5, 2) := by decide +kernel
theorem dX2_doorsHeard_6 : decode cX2_doorsHeard 6 = .ok (.iload 5, 2) := by decide +kernel
theorem dX2_doorsHeard_8 : decode cX2_doorsHeard 8 = .ok (.aload_n 1, 1) := by decide +kernel
theorem dX2_doorsHeard_9 : decode cX2_doorsHeard 9 = .ok (.getfield 20, 3) := by decide +kernel
theorem dX2_doorsHeard_12 : decode cX2_doorsHeard 12 = .ok (.if_icmp .ge 42, 3) := by decide +kernel
theorem dX2_doorsHeard_15 : decode cX2_doorsHeard 15 = .ok (.aload_n 0, 1) := by decide +kernel
theorem dX2_doorsHeard_16 : decode cX2_doorsHeard 16 = .ok (.aload_n 1, 1) := by decide +kernel
theorem dX2_doorsHeard_17 : decode cX2_doorsHeard 17 = .ok (.aload_n 1, 1) := by decide +kernel
theorem dX2_doorsHeard_18 : decode cX2_doorsHeard 18 = .ok (.iload 5, 2) := by decide +kernel
theorem dX2_doorsHeard_20 : decode cX2_doorsHeard 20 = .ok (.invokevirtual 57, 3) := by decide +kernel
theorem dX2_doorsHeard_23 : decode cX2_doorsHeard 23 = .ok (.iload 5, 2) := by decide +kernel
theorem dX2_doorsHeard_25 : decode cX2_doorsHeard 25 = .ok (.iconst 0, 1) := by decide +kernel
theorem dX2_doorsHeard_26 : decode cX2_doorsHeard 26 = .ok (.invokevirtual 15, 3) := by decide +kernel
theorem dX2_doorsHeard_29 : decode cX2_doorsHeard 29 = .ok (.aload_n 0, 1) := by decide +kernel
theorem dX2_doorsHeard_30 : decode cX2_doorsHeard 30 = .ok (.aload_n 1, 1) := by decide +kernel
theorem dX2_doorsHeard_31 : decode cX2_doorsHeard 31 = .ok (.iload_n 2, 1) := by decide +kernel
theorem dX2_doorsHeard_32 : decode cX2_doorsHeard 32 = .ok (.iload_n 3, 1) := by decide +kernel
theorem dX2_doorsHeard_33 : decode cX2_doorsHeard 33 = .ok (.invokevirtual 63, 3) := by decide +kernel
theorem dX2_doorsHeard_36 : decode cX2_doorsHeard 36 = .ok (.ifCond .eq 12, 3) := by decide +kernel
theorem dX2_doorsHeard_39 : decode cX2_doorsHeard 39 = .ok (.iload 4, 2) := by decide +kernel
theorem dX2_doorsHeard_41 : decode cX2_doorsHeard 41 = .ok (.iconst 1, 1) := by decide +kernel
theorem dX2_doorsHeard_42 : decode cX2_doorsHeard 42 = .ok (.iload 5, 2) := by decide +kernel
theorem dX2_doorsHeard_44 : decode cX2_doorsHeard 44 = .ok (.ishl, 1) := by decide +kernel
theorem dX2_doorsHeard_45 : decode cX2_doorsHeard 45 = .ok (.ior, 1) := by decide +kernel
theorem dX2_doorsHeard_46 : decode cX2_doorsHeard 46 = .ok (.istore 4, 2) := by decide +kernel
theorem dX2_doorsHeard_48 : decode cX2_doorsHeard 48 = .ok (.iinc 5 1, 3) := by decide +kernel
theorem dX2_doorsHeard_51 : decode cX2_doorsHeard 51 = .ok (.goto (-45), 3) := by decide +kernel
theorem dX2_doorsHeard_54 : decode cX2_doorsHeard 54 = .ok (.iload 4, 2) := by decide +kernel
theorem dX2_doorsHeard_56 : decode cX2_doorsHeard 56 = .ok (.ireturn, 1) := by decide +kernel
set_option maxRecDepth 100000 in
def f_X2_doorsHeard_48 (k6 : Nat → Nat → Int32 → Int32 → Int32 → Int32 → dtM → Option (Int32 × dtM)) (l0 : Nat) (l1 : Nat) (l2 : Int32) (l3 : Int32) (l4 : Int32) (l5 : Int32) (μ : dtM) : Option (Int32 × dtM) :=
  k6 l0 l1 l2 l3 l4 (l5 + 1) μ
set_option maxRecDepth 100000 in
def f_X2_doorsHeard_6 : Nat → Nat → Nat → Int32 → Int32 → Int32 → Int32 → dtM → Option (Int32 × dtM)
  | 0, _, _, _, _, _, _, _ => none
  | n + 1, l0, l1, l2, l3, l4, l5, μ =>
    (opGI 3 1 μ l1).bind fun x1 => if x1 ≤ l5 then (some (l4, μ)) else ((opRv 3 μ l1).bind fun _ => opCall (f_X3_roomsOfDoor l1 l5 μ) fun x9 μ7 => (opRv 2 μ7 l0).bind fun _ => (f_X2_spread l0 l1 x9 l5 (0 : Int32) μ7).bind fun μ11 => (opRv 2 μ11 l0).bind fun _ => opCall (f_X2_comesTo l0 l1 l2 l3 μ11) fun x16 μ14 => if x16 = 0 then (f_X2_doorsHeard_48 (f_X2_doorsHeard_6 n) l0 l1 l2 l3 l4 l5 μ14) else ((some (l4 ||| ((1 : Int32) <<< (l5 &&& 31)))).bind fun x20 => f_X2_doorsHeard_48 (f_X2_doorsHeard_6 n) l0 l1 l2 l3 x20 l5 μ14))
set_option maxRecDepth 100000 in
def f_X2_doorsHeard (p0 : Nat) (p1 : Nat) (p2 : Int32) (p3 : Int32) (μ : dtM) : Option (Int32 × dtM) :=
  f_X2_doorsHeard_6 dtFuel p0 p1 p2 p3 (0 : Int32) (0 : Int32) μ
set_option maxRecDepth 100000 in
theorem c_X2_doorsHeard_48 {r : Int32} {F : dtM} (k6 : Nat → Nat → Int32 → Int32 → Int32 → Int32 → dtM → Option (Int32 × dtM)) (hk6 : ∀ (l0 : Nat) (l1 : Nat) (l2 : Int32) (l3 : Int32) (l4 : Int32) (l5 : Int32) (μ : dtM), k6 l0 l1 l2 l3 l4 l5 μ = some (r, F) → dtW yX2_doorsHeard cX2_doorsHeard 6 (some .int) 2 (some (.int r)) F 6 [some (.ref l0), some (.ref l1), some (.int l2), some (.int l3), some (.int l4), some (.int l5)] [] μ) (l0 : Nat) (l1 : Nat) (l2 : Int32) (l3 : Int32) (l4 : Int32) (l5 : Int32) (μ : dtM) (h : f_X2_doorsHeard_48 k6 l0 l1 l2 l3 l4 l5 μ = some (r, F)) : dtW yX2_doorsHeard cX2_doorsHeard 6 (some .int) 2 (some (.int r)) F 48 [some (.ref l0), some (.ref l1), some (.int l2), some (.int l3), some (.int l4), some (.int l5)] [] μ := by
  rw [f_X2_doorsHeard_48] at h
  refine dr_iinc l5 (l5 + 1) [some (.ref l0), some (.ref l1), some (.int l2), some (.int l3), some (.int l4), some (.int (l5 + 1))] dX2_doorsHeard_48 rfl rfl rfl rfl rfl ?_
  refine dr_goto 6 dX2_doorsHeard_51 (by decide) ?_
  exact hk6 l0 l1 l2 l3 l4 (l5 + 1) μ h
set_option maxRecDepth 100000 in
theorem c_X2_doorsHeard_6 {r : Int32} {F : dtM} : ∀ (n : Nat) (l0 : Nat) (l1 : Nat) (l2 : Int32) (l3 : Int32) (l4 : Int32) (l5 : Int32) (μ : dtM), f_X2_doorsHeard_6 n l0 l1 l2 l3 l4 l5 μ = some (r, F) → dtW yX2_doorsHeard cX2_doorsHeard 6 (some .int) 2 (some (.int r)) F 6 [some (.ref l0), some (.ref l1), some (.int l2), some (.int l3), some (.int l4), some (.int l5)] [] μ := by
  intro n
  induction n with
  | zero => intro l0 l1 l2 l3 l4 l5 μ h; cases h
  | succ n ih =>
    intro l0 l1 l2 l3 l4 l5 μ h
    have h := (show f_X2_doorsHeard_6 (n + 1) l0 l1 l2 l3 l4 l5 μ = some _ from h)
    rw [f_X2_doorsHeard_6] at h
    refine dr_iload l5 dX2_doorsHeard_6 rfl ?_
    refine dr_aload_n l1 dX2_doorsHeard_8 rfl ?_
    obtain ⟨x1, e2, h⟩ := dtBind h
    refine dr_getI x1 dX2_doorsHeard_9 fl_RX2_20 e2 ?_
    obtain ⟨ht4, hf5⟩ := dtIte h
    refine dr_icmp_ge 54 dX2_doorsHeard_12 (by decide) (fun hc3 => ?_) (fun hc3 => ?_)
    · have h := ht4 hc3
      refine dr_iload l4 dX2_doorsHeard_54 rfl ?_
      cases h
      exact dr_ireturn dX2_doorsHeard_56 rfl
    · have h := hf5 hc3
      refine dr_aload_n l0 dX2_doorsHeard_15 rfl ?_
      refine dr_aload_n l1 dX2_doorsHeard_16 rfl ?_
      refine dr_aload_n l1 dX2_doorsHeard_17 rfl ?_
      refine dr_iload l5 dX2_doorsHeard_18 rfl ?_
      obtain ⟨_, hb6, h⟩ := dtBind h
      obtain ⟨x9, μ7, e8, h⟩ := dtCall h
      refine dr_callV_i (S0 := [.ref l1, .ref l0]) [.int l5] x9 μ7 dX2_doorsHeard_20 (c_X3_roomsOfDoor l1 l5 μ e8) mf_X3_roomsOfDoor wt_896 wt_897 wt_895 rfl (dtRv hb6) (by decide) rfl (Nat.le_of_ble_eq_true rfl) (Nat.le_of_ble_eq_true rfl) rfl ?_
      refine dr_iload l5 dX2_doorsHeard_23 rfl ?_
      refine dr_iconst (0 : Int32) dX2_doorsHeard_25 (by decide) ?_
      obtain ⟨_, hb10, h⟩ := dtBind h
      obtain ⟨μ11, e12, h⟩ := dtBind h
      refine dr_callV_v (S0 := []) [.ref l1, .int x9, .int l5, .int (0 : Int32)] μ11 dX2_doorsHeard_26 (c_X2_spread l0 l1 x9 l5 (0 : Int32) μ7 e12) mf_X2_spread wt_901 ws_29 wt_899 rfl (dtRv hb10) (by decide) rfl (Nat.le_of_ble_eq_true rfl) (Nat.le_of_ble_eq_true rfl) rfl ?_
      refine dr_aload_n l0 dX2_doorsHeard_29 rfl ?_
      refine dr_aload_n l1 dX2_doorsHeard_30 rfl ?_
      refine dr_iload_n l2 dX2_doorsHeard_31 rfl ?_
      refine dr_iload_n l3 dX2_doorsHeard_32 rfl ?_
      obtain ⟨_, hb13, h⟩ := dtBind h
      obtain ⟨x16, μ14, e15, h⟩ := dtCall h
      refine dr_callV_i (S0 := []) [.ref l1, .int l2, .int l3] x16 μ14 dX2_doorsHeard_33 (c_X2_comesTo l0 l1 l2 l3 μ11 e15) mf_X2_comesTo wt_910 ws_30 wt_908 rfl (dtRv hb13) (by decide) rfl (Nat.le_of_ble_eq_true rfl) (Nat.le_of_ble_eq_true rfl) rfl ?_
      obtain ⟨ht18, hf19⟩ := dtIte h
      refine dr_if_eq 48 dX2_doorsHeard_36 (by decide) (fun hc17 => ?_) (fun hc17 => ?_)
      · have h := ht18 hc17
        exact c_X2_doorsHeard_48 (f_X2_doorsHeard_6 n) ih l0 l1 l2 l3 l4 l5 μ14 h
      · have h := hf19 hc17
        refine dr_iload l4 dX2_doorsHeard_39 rfl ?_
        refine dr_iconst (1 : Int32) dX2_doorsHeard_41 (by decide) ?_
        refine dr_iload l5 dX2_doorsHeard_42 rfl ?_
        refine dr_ishl dX2_doorsHeard_44 ?_
        refine dr_ior dX2_doorsHeard_45 ?_
        obtain ⟨x20, e21, h⟩ := dtBind h
        refine dr_nmi e21 ?_
        refine dr_istore [some (.ref l0), some (.ref l1), some (.int l2), some (.int l3), some (.int x20), some (.int l5)] dX2_doorsHeard_46 rfl rfl rfl ?_
        exact c_X2_doorsHeard_48 (f_X2_doorsHeard_6 n) ih l0 l1 l2 l3 x20 l5 μ14 h
set_option maxRecDepth 100000 in
theorem c_X2_doorsHeard {r : Int32} {F : dtM} (p0 : Nat) (p1 : Nat) (p2 : Int32) (p3 : Int32) (μ : dtM) (h : f_X2_doorsHeard p0 p1 p2 p3 μ = some (r, F)) : dtMet yX2_doorsHeard cX2_doorsHeard 6 (some .int) 2 [.ref p0, .ref p1, .int p2, .int p3] μ (some (.int r)) F := by
  refine dtMet.of (by decide +kernel) (Nat.le_of_ble_eq_true rfl) (show dtW yX2_doorsHeard cX2_doorsHeard 6 (some .int) 2 (some (.int r)) F 0 [some (.ref p0), some (.ref p1), some (.int p2), some (.int p3)] [] μ from ?_)
  rw [f_X2_doorsHeard] at h
  refine dr_iconst (0 : Int32) dX2_doorsHeard_0 (by decide) ?_
  refine dr_istore [some (.ref p0), some (.ref p1), some (.int p2), some (.int p3), some (.int (0 : Int32))] dX2_doorsHeard_1 rfl rfl rfl ?_
  refine dr_iconst (0 : Int32) dX2_doorsHeard_3 (by decide) ?_
  refine dr_istore [some (.ref p0), some (.ref p1), some (.int p2), some (.int p3), some (.int (0 : Int32)), some (.int (0 : Int32))] dX2_doorsHeard_4 rfl rfl rfl ?_
  exact c_X2_doorsHeard_6 dtFuel p0 p1 p2 p3 (0 : Int32) (0 : Int32) μ h
/-! X2_baizeToHush -/
theorem dX2_baizeToHush_0 : decode cX2_baizeToHush 0 = .ok (.iconst 0, 1) := by decide +kernel
theorem dX2_baizeToHush_1 : decode cX2_baizeToHush 1 = .ok (.istore 5, 2) := by decide +kernel
theorem dX2_baizeToHush_3 : decode cX2_baizeToHush 3 = .ok (.iload 5, 2) := by decide +kernel
theorem dX2_baizeToHush_5 : decode cX2_baizeToHush 5 = .ok (.bipush 9, 2) := by decide +kernel
theorem dX2_baizeToHush_7 : decode cX2_baizeToHush 7 = .ok (.if_icmp .gt 36, 3) := by decide +kernel
theorem dX2_baizeToHush_10 : decode cX2_baizeToHush 10 = .ok (.aload_n 0, 1) := by decide +kernel
theorem dX2_baizeToHush_11 : decode cX2_baizeToHush 11 = .ok (.aload_n 1, 1) := by decide +kernel
theorem dX2_baizeToHush_12 : decode cX2_baizeToHush 12 = .ok (.aload_n 1, 1) := by decide +kernel
theorem dX2_baizeToHush_13 : decode cX2_baizeToHush 13 = .ok (.iload_n 2, 1) := by decide +kernel
theorem dX2_baizeToHush_14 : decode cX2_baizeToHush 14 = .ok (.invokevirtual 57, 3) := by decide +kernel
theorem dX2_baizeToHush_17 : decode cX2_baizeToHush 17 = .ok (.iload_n 2, 1) := by decide +kernel
theorem dX2_baizeToHush_18 : decode cX2_baizeToHush 18 = .ok (.iload 5, 2) := by decide +kernel
theorem dX2_baizeToHush_20 : decode cX2_baizeToHush 20 = .ok (.invokevirtual 15, 3) := by decide +kernel
theorem dX2_baizeToHush_23 : decode cX2_baizeToHush 23 = .ok (.aload_n 0, 1) := by decide +kernel
theorem dX2_baizeToHush_24 : decode cX2_baizeToHush 24 = .ok (.aload_n 1, 1) := by decide +kernel
theorem dX2_baizeToHush_25 : decode cX2_baizeToHush 25 = .ok (.iload 4, 2) := by decide +kernel
theorem dX2_baizeToHush_27 : decode cX2_baizeToHush 27 = .ok (.iload_n 3, 1) := by decide +kernel
theorem dX2_baizeToHush_28 : decode cX2_baizeToHush 28 = .ok (.invokevirtual 63, 3) := by decide +kernel
theorem dX2_baizeToHush_31 : decode cX2_baizeToHush 31 = .ok (.ifCond .ne 6, 3) := by decide +kernel
theorem dX2_baizeToHush_34 : decode cX2_baizeToHush 34 = .ok (.iload 5, 2) := by decide +kernel
theorem dX2_baizeToHush_36 : decode cX2_baizeToHush 36 = .ok (.ireturn, 1) := by decide +kernel
theorem dX2_baizeToHush_37 : decode cX2_baizeToHush 37 = .ok (.iinc 5 1, 3) := by decide +kernel
theorem dX2_baizeToHush_40 : decode cX2_baizeToHush 40 = .ok (.goto (-37), 3) := by decide +kernel
theorem dX2_baizeToHush_43 : decode cX2_baizeToHush 43 = .ok (.iconst (-1), 1) := by decide +kernel
theorem dX2_baizeToHush_44 : decode cX2_baizeToHush 44 = .ok (.ireturn, 1) := by decide +kernel
set_option maxRecDepth 100000 in
def f_X2_baizeToHush_3 : Nat → Nat → Nat → Int32 → Int32 → Int32 → Int32 → dtM → Option (Int32 × dtM)
  | 0, _, _, _, _, _, _, _ => none
  | n + 1, l0, l1, l2, l3, l4, l5, μ =>
    if (9 : Int32) < l5 then (some ((-1 : Int32), μ)) else ((opRv 3 μ l1).bind fun _ => opCall (f_X3_roomsOfDoor l1 l2 μ) fun x7 μ5 => (opRv 2 μ5 l0).bind fun _ => (f_X2_spread l0 l1 x7 l2 l5 μ5).bind fun μ9 => (opRv 2 μ9 l0).bind fun _ => opCall (f_X2_comesTo l0 l1 l4 l3 μ9) fun x14 μ12 => if x14 = 0 then (some (l5, μ12)) else (f_X2_baizeToHush_3 n l0 l1 l2 l3 l4 (l5 + 1) μ12))
set_option maxRecDepth 100000 in
def f_X2_baizeToHush (p0 : Nat) (p1 : Nat) (p2 : Int32) (p3 : Int32) (p4 : Int32) (μ : dtM) : Option (Int32 × dtM) :=
  f_X2_baizeToHush_3 dtFuel p0 p1 p2 p3 p4 (0 : Int32) μ
set_option maxRecDepth 100000 in
theorem c_X2_baizeToHush_3 {r : Int32} {F : dtM} : ∀ (n : Nat) (l0 : Nat) (l1 : Nat) (l2 : Int32) (l3 : Int32) (l4 : Int32) (l5 : Int32) (μ : dtM), f_X2_baizeToHush_3 n l0 l1 l2 l3 l4 l5 μ = some (r, F) → dtW yX2_baizeToHush cX2_baizeToHush 6 (some .int) 2 (some (.int r)) F 3 [some (.ref l0), some (.ref l1), some (.int l2), some (.int l3), some (.int l4), some (.int l5)] [] μ := by
  intro n
  induction n with
  | zero => intro l0 l1 l2 l3 l4 l5 μ h; cases h
  | succ n ih =>
    intro l0 l1 l2 l3 l4 l5 μ h
    have h := (show f_X2_baizeToHush_3 (n + 1) l0 l1 l2 l3 l4 l5 μ = some _ from h)
    rw [f_X2_baizeToHush_3] at h
    refine dr_iload l5 dX2_baizeToHush_3 rfl ?_
    refine dr_bipush (9 : Int32) dX2_baizeToHush_5 (by decide) ?_
    obtain ⟨ht2, hf3⟩ := dtIte h
    refine dr_icmp_gt 43 dX2_baizeToHush_7 (by decide) (fun hc1 => ?_) (fun hc1 => ?_)
    · have h := ht2 hc1
      refine dr_iconst (-1 : Int32) dX2_baizeToHush_43 (by decide) ?_
      cases h
      exact dr_ireturn dX2_baizeToHush_44 rfl
    · have h := hf3 hc1
      refine dr_aload_n l0 dX2_baizeToHush_10 rfl ?_
      refine dr_aload_n l1 dX2_baizeToHush_11 rfl ?_
      refine dr_aload_n l1 dX2_baizeToHush_12 rfl ?_
      refine dr_iload_n l2 dX2_baizeToHush_13 rfl ?_
      obtain ⟨_, hb4, h⟩ := dtBind h
      obtain ⟨x7, μ5, e6, h⟩ := dtCall h
      refine dr_callV_i (S0 := [.ref l1, .ref l0]) [.int l2] x7 μ5 dX2_baizeToHush_14 (c_X3_roomsOfDoor l1 l2 μ e6) mf_X3_roomsOfDoor wt_896 wt_897 wt_895 rfl (dtRv hb4) (by decide) rfl (Nat.le_of_ble_eq_true rfl) (Nat.le_of_ble_eq_true rfl) rfl ?_
      refine dr_iload_n l2 dX2_baizeToHush_17 rfl ?_
      refine dr_iload l5 dX2_baizeToHush_18 rfl ?_
      obtain ⟨_, hb8, h⟩ := dtBind h
      obtain ⟨μ9, e10, h⟩ := dtBind h
      refine dr_callV_v (S0 := []) [.ref l1, .int x7, .int l2, .int l5] μ9 dX2_baizeToHush_20 (c_X2_spread l0 l1 x7 l2 l5 μ5 e10) mf_X2_spread wt_901 ws_29 wt_899 rfl (dtRv hb8) (by decide) rfl (Nat.le_of_ble_eq_true rfl) (Nat.le_of_ble_eq_true rfl) rfl ?_
      refine dr_aload_n l0 dX2_baizeToHush_23 rfl ?_
      refine dr_aload_n l1 dX2_baizeToHush_24 rfl ?_
      refine dr_iload l4 dX2_baizeToHush_25 rfl ?_
      refine dr_iload_n l3 dX2_baizeToHush_27 rfl ?_
      obtain ⟨_, hb11, h⟩ := dtBind h
      obtain ⟨x14, μ12, e13, h⟩ := dtCall h
      refine dr_callV_i (S0 := []) [.ref l1, .int l4, .int l3] x14 μ12 dX2_baizeToHush_28 (c_X2_comesTo l0 l1 l4 l3 μ9 e13) mf_X2_comesTo wt_910 ws_30 wt_908 rfl (dtRv hb11) (by decide) rfl (Nat.le_of_ble_eq_true rfl) (Nat.le_of_ble_eq_true rfl) rfl ?_
      obtain ⟨ht16, hf17⟩ := dtIte h
      refine dr_if_ne 37 dX2_baizeToHush_31 (by decide) (fun hc15 => ?_) (fun hc15 => ?_)
      · have h := hf17 hc15
        refine dr_iinc l5 (l5 + 1) [some (.ref l0), some (.ref l1), some (.int l2), some (.int l3), some (.int l4), some (.int (l5 + 1))] dX2_baizeToHush_37 rfl rfl rfl rfl rfl ?_
        refine dr_goto 3 dX2_baizeToHush_40 (by decide) ?_
        exact ih l0 l1 l2 l3 l4 (l5 + 1) μ12 h
      · have h := ht16 hc15
        refine dr_iload l5 dX2_baizeToHush_34 rfl ?_
        cases h
        exact dr_ireturn dX2_baizeToHush_36 rfl
set_option maxRecDepth 100000 in
theorem c_X2_baizeToHush {r : Int32} {F : dtM} (p0 : Nat) (p1 : Nat) (p2 : Int32) (p3 : Int32) (p4 : Int32) (μ : dtM) (h : f_X2_baizeToHush p0 p1 p2 p3 p4 μ = some (r, F)) : dtMet yX2_baizeToHush cX2_baizeToHush 6 (some .int) 2 [.ref p0, .ref p1, .int p2, .int p3, .int p4] μ (some (.int r)) F := by
  refine dtMet.of (by decide +kernel) (Nat.le_of_ble_eq_true rfl) (show dtW yX2_baizeToHush cX2_baizeToHush 6 (some .int) 2 (some (.int r)) F 0 [some (.ref p0), some (.ref p1), some (.int p2), some (.int p3), some (.int p4)] [] μ from ?_)
  rw [f_X2_baizeToHush] at h
  refine dr_iconst (0 : Int32) dX2_baizeToHush_0 (by decide) ?_
  refine dr_istore [some (.ref p0), some (.ref p1), some (.int p2), some (.int p3), some (.int p4), some (.int (0 : Int32))] dX2_baizeToHush_1 rfl rfl rfl ?_
  exact c_X2_baizeToHush_3 dtFuel p0 p1 p2 p3 p4 (0 : Int32) μ h
/-! X11_contains -/
theorem dX11_contains_0 : decode cX11_contains 0 = .ok (.iload_n 0, 1) := by decide +kernel
theorem dX11_contains_1 : decode cX11_contains 1 = .ok (.iload_n 1, 1) := by decide +kernel
theorem dX11_contains_2 : decode cX11_contains 2 = .ok (.ishr, 1) := by decide +kernel
theorem dX11_contains_3 : decode cX11_contains 3 = .ok (.iconst 1, 1) := by decide +kernel
theorem dX11_contains_4 : decode cX11_contains 4 = .ok (.iand, 1) := by decide +kernel
theorem dX11_contains_5 : decode cX11_contains 5 = .ok (.iconst 1, 1) := by decide +kernel
theorem dX11_contains_6 : decode cX11_contains 6 = .ok (.if_icmp .ne 7, 3) := by decide +kernel
theorem dX11_contains_9 : decode cX11_contains 9 = .ok (.iconst 1, 1) := by decide +kernel
theorem dX11_contains_10 : decode cX11_contains 10 = .ok (.goto 4, 3) := by decide +kernel
theorem dX11_contains_13 : decode cX11_contains 13 = .ok (.iconst 0, 1) := by decide +kernel
theorem dX11_contains_14 : decode cX11_contains 14 = .ok (.ireturn, 1) := by decide +kernel
set_option maxRecDepth 100000 in
def f_X11_contains_14 (s0 : Int32) (μ : dtM) : Option (Int32 × dtM) :=
  opRet s0 μ
set_option maxRecDepth 100000 in
def f_X11_contains (p0 : Int32) (p1 : Int32) (μ : dtM) : Option (Int32 × dtM) :=
  if ((p0 >>> (p1 &&& 31)) &&& (1 : Int32)) = (1 : Int32) then (f_X11_contains_14 (1 : Int32) μ) else (f_X11_contains_14 (0 : Int32) μ)
set_option maxRecDepth 100000 in
theorem c_X11_contains_14 {r : Int32} {F : dtM} (s0 : Int32) (μ : dtM) (h : f_X11_contains_14 s0 μ = some (r, F)) : dtW yX11_contains cX11_contains 2 (some .boolean) 1 (some (.int r)) F 14 [] [.int s0] μ := by
  rw [f_X11_contains_14] at h
  obtain ⟨hz, rfl, rfl⟩ := dtRet h
  exact dr_ireturn dX11_contains_14 (dtNz hz)
set_option maxRecDepth 100000 in
theorem c_X11_contains {r : Int32} {F : dtM} (p0 : Int32) (p1 : Int32) (μ : dtM) (h : f_X11_contains p0 p1 μ = some (r, F)) : dtMet yX11_contains cX11_contains 2 (some .boolean) 1 [.int p0, .int p1] μ (some (.int r)) F := by
  refine dtMet.of (by decide +kernel) (Nat.le_of_ble_eq_true rfl) (show dtW yX11_contains cX11_contains 2 (some .boolean) 1 (some (.int r)) F 0 [some (.int p0), some (.int p1)] [] μ from ?_)
  rw [f_X11_contains] at h
  refine dr_iload_n p0 dX11_contains_0 rfl ?_
  refine dr_iload_n p1 dX11_contains_1 rfl ?_
  refine dr_ishr dX11_contains_2 ?_
  refine dr_iconst (1 : Int32) dX11_contains_3 (by decide) ?_
  refine dr_iand dX11_contains_4 ?_
  refine dr_iconst (1 : Int32) dX11_contains_5 (by decide) ?_
  obtain ⟨ht2, hf3⟩ := dtIte h
  refine dr_icmp_ne 13 dX11_contains_6 (by decide) (fun hc1 => ?_) (fun hc1 => ?_)
  · have h := hf3 hc1
    refine dr_iconst (0 : Int32) dX11_contains_13 (by decide) ?_
    refine dr_mask [] [] rfl ?_
    exact c_X11_contains_14 (0 : Int32) μ h
  · have h := ht2 hc1
    refine dr_iconst (1 : Int32) dX11_contains_9 (by decide) ?_
    refine dr_goto 14 dX11_contains_10 (by decide) ?_
    refine dr_mask [] [] rfl ?_
    exact c_X11_contains_14 (1 : Int32) μ h
/-! X3_isOpen -/
theorem dX3_isOpen_0 : decode cX3_isOpen 0 = .ok (.aload_n 0, 1) := by decide +kernel
theorem dX3_isOpen_1 : decode cX3_isOpen 1 = .ok (.getfield 65, 3) := by decide +kernel
theorem dX3_isOpen_4 : decode cX3_isOpen 4 = .ok (.iload_n 1, 1) := by decide +kernel
theorem dX3_isOpen_5 : decode cX3_isOpen 5 = .ok (.invokestatic 77, 3) := by decide +kernel
theorem dX3_isOpen_8 : decode cX3_isOpen 8 = .ok (.ireturn, 1) := by decide +kernel
set_option maxRecDepth 100000 in
def f_X3_isOpen (p0 : Nat) (p1 : Int32) (μ : dtM) : Option (Int32 × dtM) :=
  (opGI 3 5 μ p0).bind fun x1 => opCall (f_X11_contains x1 p1 μ) fun x5 μ3 => opRet x5 μ3
set_option maxRecDepth 100000 in
theorem c_X3_isOpen {r : Int32} {F : dtM} (p0 : Nat) (p1 : Int32) (μ : dtM) (h : f_X3_isOpen p0 p1 μ = some (r, F)) : dtMet yX3_isOpen cX3_isOpen 2 (some .boolean) 2 [.ref p0, .int p1] μ (some (.int r)) F := by
  refine dtMet.of (by decide +kernel) (Nat.le_of_ble_eq_true rfl) (show dtW yX3_isOpen cX3_isOpen 2 (some .boolean) 2 (some (.int r)) F 0 [some (.ref p0), some (.int p1)] [] μ from ?_)
  rw [f_X3_isOpen] at h
  refine dr_aload_n p0 dX3_isOpen_0 rfl ?_
  obtain ⟨x1, e2, h⟩ := dtBind h
  refine dr_getI x1 dX3_isOpen_1 fl_RX3_65 e2 ?_
  refine dr_iload_n p1 dX3_isOpen_4 rfl ?_
  obtain ⟨x5, μ3, e4, h⟩ := dtCall h
  refine dr_callSN_i (S0 := []) [.int x1, .int p1] x5 μ3 dX3_isOpen_5 (c_X11_contains x1 p1 μ e4) mf_X11_contains wt_748 wn_848 rfl (Nat.le_of_ble_eq_true rfl) (Nat.le_of_ble_eq_true rfl) rfl ?_
  obtain ⟨hz, rfl, rfl⟩ := dtRet h
  exact dr_ireturn dX3_isOpen_8 (dtNz hz)
/-! X10_stepOnce -/
theorem dX10_stepOnce_0 : decode cX10_stepOnce 0 = .ok (.iload_n 2, 1) := by decide +kernel
theorem dX10_stepOnce_1 : decode cX10_stepOnce 1 = .ok (.istore_n 3, 1) := by decide +kernel
theorem dX10_stepOnce_2 : decode cX10_stepOnce 2 = .ok (.iconst 0, 1) := by decide +kernel
theorem dX10_stepOnce_3 : decode cX10_stepOnce 3 = .ok (.istore 4, 2) := by decide +kernel
theorem dX10_stepOnce_5 : decode cX10_stepOnce 5 = .ok (.iload 4, 2) := by decide +kernel
theorem dX10_stepOnce_7 : decode cX10_stepOnce 7 = .ok (.aload_n 0, 1) := by decide +kernel
theorem dX10_stepOnce_8 : decode cX10_stepOnce 8 = .ok (.getfield 15, 3) := by decide +kernel
theorem dX10_stepOnce_11 : decode cX10_stepOnce 11 = .ok (.if_icmp .ge 38, 3) := by decide +kernel
theorem dX10_stepOnce_14 : decode cX10_stepOnce 14 = .ok (.aload_n 0, 1) := by decide +kernel
theorem dX10_stepOnce_15 : decode cX10_stepOnce 15 = .ok (.iload 4, 2) := by decide +kernel
theorem dX10_stepOnce_17 : decode cX10_stepOnce 17 = .ok (.invokevirtual 21, 3) := by decide +kernel
theorem dX10_stepOnce_20 : decode cX10_stepOnce 20 = .ok (.istore 5, 2) := by decide +kernel
theorem dX10_stepOnce_22 : decode cX10_stepOnce 22 = .ok (.iload_n 1, 1) := by decide +kernel
theorem dX10_stepOnce_23 : decode cX10_stepOnce 23 = .ok (.iload 4, 2) := by decide +kernel
theorem dX10_stepOnce_25 : decode cX10_stepOnce 25 = .ok (.invokestatic 25, 3) := by decide +kernel
theorem dX10_stepOnce_28 : decode cX10_stepOnce 28 = .ok (.ifCond .eq 15, 3) := by decide +kernel
theorem dX10_stepOnce_31 : decode cX10_stepOnce 31 = .ok (.iload_n 2, 1) := by decide +kernel
theorem dX10_stepOnce_32 : decode cX10_stepOnce 32 = .ok (.iload 5, 2) := by decide +kernel
theorem dX10_stepOnce_34 : decode cX10_stepOnce 34 = .ok (.iand, 1) := by decide +kernel
theorem dX10_stepOnce_35 : decode cX10_stepOnce 35 = .ok (.ifCond .eq 8, 3) := by decide +kernel
theorem dX10_stepOnce_38 : decode cX10_stepOnce 38 = .ok (.iload_n 3, 1) := by decide +kernel
theorem dX10_stepOnce_39 : decode cX10_stepOnce 39 = .ok (.iload 5, 2) := by decide +kernel
theorem dX10_stepOnce_41 : decode cX10_stepOnce 41 = .ok (.ior, 1) := by decide +kernel
theorem dX10_stepOnce_42 : decode cX10_stepOnce 42 = .ok (.istore_n 3, 1) := by decide +kernel
theorem dX10_stepOnce_43 : decode cX10_stepOnce 43 = .ok (.iinc 4 1, 3) := by decide +kernel
theorem dX10_stepOnce_46 : decode cX10_stepOnce 46 = .ok (.goto (-41), 3) := by decide +kernel
theorem dX10_stepOnce_49 : decode cX10_stepOnce 49 = .ok (.iload_n 3, 1) := by decide +kernel
theorem dX10_stepOnce_50 : decode cX10_stepOnce 50 = .ok (.ireturn, 1) := by decide +kernel
set_option maxRecDepth 100000 in
def f_X10_stepOnce_43 (k5 : Nat → Int32 → Int32 → Int32 → Int32 → dtM → Option (Int32 × dtM)) (l0 : Nat) (l1 : Int32) (l2 : Int32) (l3 : Int32) (l4 : Int32) (μ : dtM) : Option (Int32 × dtM) :=
  k5 l0 l1 l2 l3 (l4 + 1) μ
set_option maxRecDepth 100000 in
def f_X10_stepOnce_5 : Nat → Nat → Int32 → Int32 → Int32 → Int32 → dtM → Option (Int32 × dtM)
  | 0, _, _, _, _, _, _ => none
  | n + 1, l0, l1, l2, l3, l4, μ =>
    (opGI 3 1 μ l0).bind fun x1 => if x1 ≤ l4 then (some (l3, μ)) else ((opRv 3 μ l0).bind fun _ => opCall (f_X3_roomsOfDoor l0 l4 μ) fun x9 μ7 => opCall (f_X11_contains l1 l4 μ7) fun x12 μ10 => if x12 = 0 then (f_X10_stepOnce_43 (f_X10_stepOnce_5 n) l0 l1 l2 l3 l4 μ10) else (if (l2 &&& x9) = 0 then (f_X10_stepOnce_43 (f_X10_stepOnce_5 n) l0 l1 l2 l3 l4 μ10) else ((some (l3 ||| x9)).bind fun x19 => f_X10_stepOnce_43 (f_X10_stepOnce_5 n) l0 l1 l2 x19 l4 μ10)))
set_option maxRecDepth 100000 in
def f_X10_stepOnce (p0 : Nat) (p1 : Int32) (p2 : Int32) (μ : dtM) : Option (Int32 × dtM) :=
  f_X10_stepOnce_5 dtFuel p0 p1 p2 p2 (0 : Int32) μ
set_option maxRecDepth 100000 in
theorem c_X10_stepOnce_43 {r : Int32} {F : dtM} (k5 : Nat → Int32 → Int32 → Int32 → Int32 → dtM → Option (Int32 × dtM)) (hk5 : ∀ (l0 : Nat) (l1 : Int32) (l2 : Int32) (l3 : Int32) (l4 : Int32) (μ : dtM), k5 l0 l1 l2 l3 l4 μ = some (r, F) → dtW yX10_stepOnce cX10_stepOnce 6 (some .int) 2 (some (.int r)) F 5 [some (.ref l0), some (.int l1), some (.int l2), some (.int l3), some (.int l4)] [] μ) (l0 : Nat) (l1 : Int32) (l2 : Int32) (l3 : Int32) (l4 : Int32) (μ : dtM) (h : f_X10_stepOnce_43 k5 l0 l1 l2 l3 l4 μ = some (r, F)) : dtW yX10_stepOnce cX10_stepOnce 6 (some .int) 2 (some (.int r)) F 43 [some (.ref l0), some (.int l1), some (.int l2), some (.int l3), some (.int l4)] [] μ := by
  rw [f_X10_stepOnce_43] at h
  refine dr_iinc l4 (l4 + 1) [some (.ref l0), some (.int l1), some (.int l2), some (.int l3), some (.int (l4 + 1))] dX10_stepOnce_43 rfl rfl rfl rfl rfl ?_
  refine dr_goto 5 dX10_stepOnce_46 (by decide) ?_
  exact hk5 l0 l1 l2 l3 (l4 + 1) μ h
set_option maxRecDepth 100000 in
theorem c_X10_stepOnce_5 {r : Int32} {F : dtM} : ∀ (n : Nat) (l0 : Nat) (l1 : Int32) (l2 : Int32) (l3 : Int32) (l4 : Int32) (μ : dtM), f_X10_stepOnce_5 n l0 l1 l2 l3 l4 μ = some (r, F) → dtW yX10_stepOnce cX10_stepOnce 6 (some .int) 2 (some (.int r)) F 5 [some (.ref l0), some (.int l1), some (.int l2), some (.int l3), some (.int l4)] [] μ := by
  intro n
  induction n with
  | zero => intro l0 l1 l2 l3 l4 μ h; cases h
  | succ n ih =>
    intro l0 l1 l2 l3 l4 μ h
    have h := (show f_X10_stepOnce_5 (n + 1) l0 l1 l2 l3 l4 μ = some _ from h)
    rw [f_X10_stepOnce_5] at h
    refine dr_iload l4 dX10_stepOnce_5 rfl ?_
    refine dr_aload_n l0 dX10_stepOnce_7 rfl ?_
    obtain ⟨x1, e2, h⟩ := dtBind h
    refine dr_getI x1 dX10_stepOnce_8 fl_RX10_15 e2 ?_
    obtain ⟨ht4, hf5⟩ := dtIte h
    refine dr_icmp_ge 49 dX10_stepOnce_11 (by decide) (fun hc3 => ?_) (fun hc3 => ?_)
    · have h := ht4 hc3
      refine dr_iload_n l3 dX10_stepOnce_49 rfl ?_
      cases h
      exact dr_ireturn dX10_stepOnce_50 rfl
    · have h := hf5 hc3
      refine dr_aload_n l0 dX10_stepOnce_14 rfl ?_
      refine dr_iload l4 dX10_stepOnce_15 rfl ?_
      obtain ⟨_, hb6, h⟩ := dtBind h
      obtain ⟨x9, μ7, e8, h⟩ := dtCall h
      refine dr_callV_i (S0 := []) [.int l4] x9 μ7 dX10_stepOnce_17 (c_X3_roomsOfDoor l0 l4 μ e8) mf_X3_roomsOfDoor wt_896 wt_897 wt_1042 rfl (dtRv hb6) (by decide) rfl (Nat.le_of_ble_eq_true rfl) (Nat.le_of_ble_eq_true rfl) rfl ?_
      refine dr_istore [some (.ref l0), some (.int l1), some (.int l2), some (.int l3), some (.int l4), some (.int x9)] dX10_stepOnce_20 rfl rfl rfl ?_
      refine dr_iload_n l1 dX10_stepOnce_22 rfl ?_
      refine dr_iload l4 dX10_stepOnce_23 rfl ?_
      obtain ⟨x12, μ10, e11, h⟩ := dtCall h
      refine dr_callSN_i (S0 := []) [.int l1, .int l4] x12 μ10 dX10_stepOnce_25 (c_X11_contains l1 l4 μ7 e11) mf_X11_contains wt_748 wn_1043 rfl (Nat.le_of_ble_eq_true rfl) (Nat.le_of_ble_eq_true rfl) rfl ?_
      obtain ⟨ht14, hf15⟩ := dtIte h
      refine dr_if_eq 43 dX10_stepOnce_28 (by decide) (fun hc13 => ?_) (fun hc13 => ?_)
      · have h := ht14 hc13
        refine dr_mask [true, true, true, true, true] [some (.ref l0), some (.int l1), some (.int l2), some (.int l3), some (.int l4)] rfl ?_
        exact c_X10_stepOnce_43 (f_X10_stepOnce_5 n) ih l0 l1 l2 l3 l4 μ10 h
      · have h := hf15 hc13
        refine dr_iload_n l2 dX10_stepOnce_31 rfl ?_
        refine dr_iload x9 dX10_stepOnce_32 rfl ?_
        refine dr_iand dX10_stepOnce_34 ?_
        obtain ⟨ht17, hf18⟩ := dtIte h
        refine dr_if_eq 43 dX10_stepOnce_35 (by decide) (fun hc16 => ?_) (fun hc16 => ?_)
        · have h := ht17 hc16
          refine dr_mask [true, true, true, true, true] [some (.ref l0), some (.int l1), some (.int l2), some (.int l3), some (.int l4)] rfl ?_
          exact c_X10_stepOnce_43 (f_X10_stepOnce_5 n) ih l0 l1 l2 l3 l4 μ10 h
        · have h := hf18 hc16
          refine dr_iload_n l3 dX10_stepOnce_38 rfl ?_
          refine dr_iload x9 dX10_stepOnce_39 rfl ?_
          refine dr_ior dX10_stepOnce_41 ?_
          obtain ⟨x19, e20, h⟩ := dtBind h
          refine dr_nmi e20 ?_
          refine dr_istore_n 3 [some (.ref l0), some (.int l1), some (.int l2), some (.int x19), some (.int l4), some (.int x9)] dX10_stepOnce_42 rfl rfl rfl rfl ?_
          refine dr_mask [true, true, true, true, true] [some (.ref l0), some (.int l1), some (.int l2), some (.int x19), some (.int l4)] rfl ?_
          exact c_X10_stepOnce_43 (f_X10_stepOnce_5 n) ih l0 l1 l2 x19 l4 μ10 h
set_option maxRecDepth 100000 in
theorem c_X10_stepOnce {r : Int32} {F : dtM} (p0 : Nat) (p1 : Int32) (p2 : Int32) (μ : dtM) (h : f_X10_stepOnce p0 p1 p2 μ = some (r, F)) : dtMet yX10_stepOnce cX10_stepOnce 6 (some .int) 2 [.ref p0, .int p1, .int p2] μ (some (.int r)) F := by
  refine dtMet.of (by decide +kernel) (Nat.le_of_ble_eq_true rfl) (show dtW yX10_stepOnce cX10_stepOnce 6 (some .int) 2 (some (.int r)) F 0 [some (.ref p0), some (.int p1), some (.int p2)] [] μ from ?_)
  rw [f_X10_stepOnce] at h
  refine dr_iload_n p2 dX10_stepOnce_0 rfl ?_
  refine dr_istore_n 3 [some (.ref p0), some (.int p1), some (.int p2), some (.int p2)] dX10_stepOnce_1 rfl rfl rfl rfl ?_
  refine dr_iconst (0 : Int32) dX10_stepOnce_2 (by decide) ?_
  refine dr_istore [some (.ref p0), some (.int p1), some (.int p2), some (.int p2), some (.int (0 : Int32))] dX10_stepOnce_3 rfl rfl rfl ?_
  exact c_X10_stepOnce_5 dtFuel p0 p1 p2 p2 (0 : Int32) μ h
/-! X10_reach -/
theorem dX10_reach_0 : decode cX10_reach 0 = .ok (.iload_n 2, 1) := by decide +kernel
theorem dX10_reach_1 : decode cX10_reach 1 = .ok (.istore_n 3, 1) := by decide +kernel
theorem dX10_reach_2 : decode cX10_reach 2 = .ok (.iconst 0, 1) := by decide +kernel
theorem dX10_reach_3 : decode cX10_reach 3 = .ok (.istore 4, 2) := by decide +kernel
theorem dX10_reach_5 : decode cX10_reach 5 = .ok (.iload 4, 2) := by decide +kernel
theorem dX10_reach_7 : decode cX10_reach 7 = .ok (.bipush 7, 2) := by decide +kernel
theorem dX10_reach_9 : decode cX10_reach 9 = .ok (.if_icmp .ge 29, 3) := by decide +kernel
theorem dX10_reach_12 : decode cX10_reach 12 = .ok (.aload_n 0, 1) := by decide +kernel
theorem dX10_reach_13 : decode cX10_reach 13 = .ok (.iload_n 1, 1) := by decide +kernel
theorem dX10_reach_14 : decode cX10_reach 14 = .ok (.iload_n 3, 1) := by decide +kernel
theorem dX10_reach_15 : decode cX10_reach 15 = .ok (.invokestatic 29, 3) := by decide +kernel
theorem dX10_reach_18 : decode cX10_reach 18 = .ok (.istore 5, 2) := by decide +kernel
theorem dX10_reach_20 : decode cX10_reach 20 = .ok (.iload 5, 2) := by decide +kernel
theorem dX10_reach_22 : decode cX10_reach 22 = .ok (.iload_n 3, 1) := by decide +kernel
theorem dX10_reach_23 : decode cX10_reach 23 = .ok (.if_icmp .ne 6, 3) := by decide +kernel
theorem dX10_reach_26 : decode cX10_reach 26 = .ok (.goto 12, 3) := by decide +kernel
theorem dX10_reach_29 : decode cX10_reach 29 = .ok (.iload 5, 2) := by decide +kernel
theorem dX10_reach_31 : decode cX10_reach 31 = .ok (.istore_n 3, 1) := by decide +kernel
theorem dX10_reach_32 : decode cX10_reach 32 = .ok (.iinc 4 1, 3) := by decide +kernel
theorem dX10_reach_35 : decode cX10_reach 35 = .ok (.goto (-30), 3) := by decide +kernel
theorem dX10_reach_38 : decode cX10_reach 38 = .ok (.iload_n 3, 1) := by decide +kernel
theorem dX10_reach_39 : decode cX10_reach 39 = .ok (.ireturn, 1) := by decide +kernel
set_option maxRecDepth 100000 in
def f_X10_reach_38 (l3 : Int32) (μ : dtM) : Option (Int32 × dtM) :=
  some (l3, μ)
set_option maxRecDepth 100000 in
def f_X10_reach_5 : Nat → Nat → Int32 → Int32 → Int32 → dtM → Option (Int32 × dtM)
  | 0, _, _, _, _, _ => none
  | n + 1, l0, l1, l3, l4, μ =>
    if (7 : Int32) ≤ l4 then (f_X10_reach_38 l3 μ) else (opCall (f_X10_stepOnce l0 l1 l3 μ) fun x6 μ4 => if x6 = l3 then (f_X10_reach_38 l3 μ4) else (f_X10_reach_5 n l0 l1 x6 (l4 + 1) μ4))
set_option maxRecDepth 100000 in
def f_X10_reach (p0 : Nat) (p1 : Int32) (p2 : Int32) (μ : dtM) : Option (Int32 × dtM) :=
  f_X10_reach_5 dtFuel p0 p1 p2 (0 : Int32) μ
set_option maxRecDepth 100000 in
theorem c_X10_reach_38 {r : Int32} {F : dtM} (l3 : Int32) (μ : dtM) (h : f_X10_reach_38 l3 μ = some (r, F)) : dtW yX10_reach cX10_reach 6 (some .int) 3 (some (.int r)) F 38 [none, none, none, some (.int l3)] [] μ := by
  rw [f_X10_reach_38] at h
  refine dr_iload_n l3 dX10_reach_38 rfl ?_
  cases h
  exact dr_ireturn dX10_reach_39 rfl
set_option maxRecDepth 100000 in
theorem c_X10_reach_5 {r : Int32} {F : dtM} : ∀ (n : Nat) (l0 : Nat) (l1 : Int32) (l3 : Int32) (l4 : Int32) (μ : dtM), f_X10_reach_5 n l0 l1 l3 l4 μ = some (r, F) → dtW yX10_reach cX10_reach 6 (some .int) 3 (some (.int r)) F 5 [some (.ref l0), some (.int l1), none, some (.int l3), some (.int l4)] [] μ := by
  intro n
  induction n with
  | zero => intro l0 l1 l3 l4 μ h; cases h
  | succ n ih =>
    intro l0 l1 l3 l4 μ h
    have h := (show f_X10_reach_5 (n + 1) l0 l1 l3 l4 μ = some _ from h)
    rw [f_X10_reach_5] at h
    refine dr_iload l4 dX10_reach_5 rfl ?_
    refine dr_bipush (7 : Int32) dX10_reach_7 (by decide) ?_
    obtain ⟨ht2, hf3⟩ := dtIte h
    refine dr_icmp_ge 38 dX10_reach_9 (by decide) (fun hc1 => ?_) (fun hc1 => ?_)
    · have h := ht2 hc1
      refine dr_mask [false, false, false, true] [none, none, none, some (.int l3)] rfl ?_
      exact c_X10_reach_38 l3 μ h
    · have h := hf3 hc1
      refine dr_aload_n l0 dX10_reach_12 rfl ?_
      refine dr_iload_n l1 dX10_reach_13 rfl ?_
      refine dr_iload_n l3 dX10_reach_14 rfl ?_
      obtain ⟨x6, μ4, e5, h⟩ := dtCall h
      refine dr_callS_i (S0 := []) [.ref l0, .int l1, .int l3] x6 μ4 dX10_reach_15 (c_X10_stepOnce l0 l1 l3 μ e5) mf_X10_stepOnce wt_1040 wt_1039 rfl (Nat.le_of_ble_eq_true rfl) (Nat.le_of_ble_eq_true rfl) rfl ?_
      refine dr_istore [some (.ref l0), some (.int l1), none, some (.int l3), some (.int l4), some (.int x6)] dX10_reach_18 rfl rfl rfl ?_
      refine dr_iload x6 dX10_reach_20 rfl ?_
      refine dr_iload_n l3 dX10_reach_22 rfl ?_
      obtain ⟨ht8, hf9⟩ := dtIte h
      refine dr_icmp_ne 29 dX10_reach_23 (by decide) (fun hc7 => ?_) (fun hc7 => ?_)
      · have h := hf9 hc7
        refine dr_iload x6 dX10_reach_29 rfl ?_
        refine dr_istore_n 3 [some (.ref l0), some (.int l1), none, some (.int x6), some (.int l4), some (.int x6)] dX10_reach_31 rfl rfl rfl rfl ?_
        refine dr_iinc l4 (l4 + 1) [some (.ref l0), some (.int l1), none, some (.int x6), some (.int (l4 + 1)), some (.int x6)] dX10_reach_32 rfl rfl rfl rfl rfl ?_
        refine dr_goto 5 dX10_reach_35 (by decide) ?_
        refine dr_mask [true, true, false, true, true] [some (.ref l0), some (.int l1), none, some (.int x6), some (.int (l4 + 1))] rfl ?_
        exact ih l0 l1 x6 (l4 + 1) μ4 h
      · have h := ht8 hc7
        refine dr_goto 38 dX10_reach_26 (by decide) ?_
        refine dr_mask [false, false, false, true] [none, none, none, some (.int l3)] rfl ?_
        exact c_X10_reach_38 l3 μ4 h
set_option maxRecDepth 100000 in
theorem c_X10_reach {r : Int32} {F : dtM} (p0 : Nat) (p1 : Int32) (p2 : Int32) (μ : dtM) (h : f_X10_reach p0 p1 p2 μ = some (r, F)) : dtMet yX10_reach cX10_reach 6 (some .int) 3 [.ref p0, .int p1, .int p2] μ (some (.int r)) F := by
  refine dtMet.of (by decide +kernel) (Nat.le_of_ble_eq_true rfl) (show dtW yX10_reach cX10_reach 6 (some .int) 3 (some (.int r)) F 0 [some (.ref p0), some (.int p1), some (.int p2)] [] μ from ?_)
  rw [f_X10_reach] at h
  refine dr_iload_n p2 dX10_reach_0 rfl ?_
  refine dr_istore_n 3 [some (.ref p0), some (.int p1), some (.int p2), some (.int p2)] dX10_reach_1 rfl rfl rfl rfl ?_
  refine dr_iconst (0 : Int32) dX10_reach_2 (by decide) ?_
  refine dr_istore [some (.ref p0), some (.int p1), some (.int p2), some (.int p2), some (.int (0 : Int32))] dX10_reach_3 rfl rfl rfl ?_
  refine dr_mask [true, true, false, true, true] [some (.ref p0), some (.int p1), none, some (.int p2), some (.int (0 : Int32))] rfl ?_
  exact c_X10_reach_5 dtFuel p0 p1 p2 (0 : Int32) μ h
/-! X2_secretDoor -/
theorem dX2_secretDoor_0 : decode cX2_secretDoor 0 = .ok (.aload_n 1, 1) := by decide +kernel
theorem dX2_secretDoor_1 : decode cX2_secretDoor 1 = .ok (.aload_n 1, 1) := by decide +kernel
theorem dX2_secretDoor_2 : decode cX2_secretDoor 2 = .ok (.getfield 26, 3) := by decide +kernel
theorem dX2_secretDoor_5 : decode cX2_secretDoor 5 = .ok (.iconst 1, 1) := by decide +kernel
theorem dX2_secretDoor_6 : decode cX2_secretDoor 6 = .ok (.aload_n 1, 1) := by decide +kernel
theorem dX2_secretDoor_7 : decode cX2_secretDoor 7 = .ok (.getfield 51, 3) := by decide +kernel
theorem dX2_secretDoor_10 : decode cX2_secretDoor 10 = .ok (.iload_n 2, 1) := by decide +kernel
theorem dX2_secretDoor_11 : decode cX2_secretDoor 11 = .ok (.iaload, 1) := by decide +kernel
theorem dX2_secretDoor_12 : decode cX2_secretDoor 12 = .ok (.ishl, 1) := by decide +kernel
theorem dX2_secretDoor_13 : decode cX2_secretDoor 13 = .ok (.invokestatic 67, 3) := by decide +kernel
theorem dX2_secretDoor_16 : decode cX2_secretDoor 16 = .ok (.istore 6, 2) := by decide +kernel
theorem dX2_secretDoor_18 : decode cX2_secretDoor 18 = .ok (.iconst 0, 1) := by decide +kernel
theorem dX2_secretDoor_19 : decode cX2_secretDoor 19 = .ok (.istore 7, 2) := by decide +kernel
theorem dX2_secretDoor_21 : decode cX2_secretDoor 21 = .ok (.iload 7, 2) := by decide +kernel
theorem dX2_secretDoor_23 : decode cX2_secretDoor 23 = .ok (.aload_n 1, 1) := by decide +kernel
theorem dX2_secretDoor_24 : decode cX2_secretDoor 24 = .ok (.getfield 20, 3) := by decide +kernel
theorem dX2_secretDoor_27 : decode cX2_secretDoor 27 = .ok (.if_icmp .ge 70, 3) := by decide +kernel
theorem dX2_secretDoor_30 : decode cX2_secretDoor 30 = .ok (.aload_n 1, 1) := by decide +kernel
theorem dX2_secretDoor_31 : decode cX2_secretDoor 31 = .ok (.iload 7, 2) := by decide +kernel
theorem dX2_secretDoor_33 : decode cX2_secretDoor 33 = .ok (.invokevirtual 73, 3) := by decide +kernel
theorem dX2_secretDoor_36 : decode cX2_secretDoor 36 = .ok (.ifCond .eq 55, 3) := by decide +kernel
theorem dX2_secretDoor_39 : decode cX2_secretDoor 39 = .ok (.iload 6, 2) := by decide +kernel
theorem dX2_secretDoor_41 : decode cX2_secretDoor 41 = .ok (.aload_n 1, 1) := by decide +kernel
theorem dX2_secretDoor_42 : decode cX2_secretDoor 42 = .ok (.iload 7, 2) := by decide +kernel
theorem dX2_secretDoor_44 : decode cX2_secretDoor 44 = .ok (.invokevirtual 57, 3) := by decide +kernel
theorem dX2_secretDoor_47 : decode cX2_secretDoor 47 = .ok (.iand, 1) := by decide +kernel
theorem dX2_secretDoor_48 : decode cX2_secretDoor 48 = .ok (.ifCond .eq 43, 3) := by decide +kernel
theorem dX2_secretDoor_51 : decode cX2_secretDoor 51 = .ok (.aload_n 0, 1) := by decide +kernel
theorem dX2_secretDoor_52 : decode cX2_secretDoor 52 = .ok (.aload_n 1, 1) := by decide +kernel
theorem dX2_secretDoor_53 : decode cX2_secretDoor 53 = .ok (.aload_n 1, 1) := by decide +kernel
theorem dX2_secretDoor_54 : decode cX2_secretDoor 54 = .ok (.iload 7, 2) := by decide +kernel
theorem dX2_secretDoor_56 : decode cX2_secretDoor 56 = .ok (.invokevirtual 57, 3) := by decide +kernel
theorem dX2_secretDoor_59 : decode cX2_secretDoor 59 = .ok (.iload 7, 2) := by decide +kernel
theorem dX2_secretDoor_61 : decode cX2_secretDoor 61 = .ok (.iconst 0, 1) := by decide +kernel
theorem dX2_secretDoor_62 : decode cX2_secretDoor 62 = .ok (.invokevirtual 15, 3) := by decide +kernel
theorem dX2_secretDoor_65 : decode cX2_secretDoor 65 = .ok (.aload_n 0, 1) := by decide +kernel
theorem dX2_secretDoor_66 : decode cX2_secretDoor 66 = .ok (.aload_n 1, 1) := by decide +kernel
theorem dX2_secretDoor_67 : decode cX2_secretDoor 67 = .ok (.iload_n 3, 1) := by decide +kernel
theorem dX2_secretDoor_68 : decode cX2_secretDoor 68 = .ok (.iload 5, 2) := by decide +kernel
theorem dX2_secretDoor_70 : decode cX2_secretDoor 70 = .ok (.invokevirtual 63, 3) := by decide +kernel
theorem dX2_secretDoor_73 : decode cX2_secretDoor 73 = .ok (.ifCond .eq 18, 3) := by decide +kernel
theorem dX2_secretDoor_76 : decode cX2_secretDoor 76 = .ok (.aload_n 0, 1) := by decide +kernel
theorem dX2_secretDoor_77 : decode cX2_secretDoor 77 = .ok (.aload_n 1, 1) := by decide +kernel
theorem dX2_secretDoor_78 : decode cX2_secretDoor 78 = .ok (.iload 4, 2) := by decide +kernel
theorem dX2_secretDoor_80 : decode cX2_secretDoor 80 = .ok (.iload 5, 2) := by decide +kernel
theorem dX2_secretDoor_82 : decode cX2_secretDoor 82 = .ok (.invokevirtual 63, 3) := by decide +kernel
theorem dX2_secretDoor_85 : decode cX2_secretDoor 85 = .ok (.ifCond .ne 6, 3) := by decide +kernel
theorem dX2_secretDoor_88 : decode cX2_secretDoor 88 = .ok (.iload 7, 2) := by decide +kernel
theorem dX2_secretDoor_90 : decode cX2_secretDoor 90 = .ok (.ireturn, 1) := by decide +kernel
theorem dX2_secretDoor_91 : decode cX2_secretDoor 91 = .ok (.iinc 7 1, 3) := by decide +kernel
theorem dX2_secretDoor_94 : decode cX2_secretDoor 94 = .ok (.goto (-73), 3) := by decide +kernel
theorem dX2_secretDoor_97 : decode cX2_secretDoor 97 = .ok (.iconst (-1), 1) := by decide +kernel
theorem dX2_secretDoor_98 : decode cX2_secretDoor 98 = .ok (.ireturn, 1) := by decide +kernel
set_option maxRecDepth 100000 in
def f_X2_secretDoor_91 (k21 : Nat → Nat → Int32 → Int32 → Int32 → Int32 → Int32 → dtM → Option (Int32 × dtM)) (l0 : Nat) (l1 : Nat) (l3 : Int32) (l4 : Int32) (l5 : Int32) (l6 : Int32) (l7 : Int32) (μ : dtM) : Option (Int32 × dtM) :=
  k21 l0 l1 l3 l4 l5 l6 (l7 + 1) μ
set_option maxRecDepth 100000 in
def f_X2_secretDoor_21 : Nat → Nat → Nat → Int32 → Int32 → Int32 → Int32 → Int32 → dtM → Option (Int32 × dtM)
  | 0, _, _, _, _, _, _, _, _ => none
  | n + 1, l0, l1, l3, l4, l5, l6, l7, μ =>
    (opGI 3 1 μ l1).bind fun x1 => if x1 ≤ l7 then (some ((-1 : Int32), μ)) else ((opRv 3 μ l1).bind fun _ => opCall (f_X3_isOpen l1 l7 μ) fun x9 μ7 => if x9 = 0 then (f_X2_secretDoor_91 (f_X2_secretDoor_21 n) l0 l1 l3 l4 l5 l6 l7 μ7) else ((opRv 3 μ7 l1).bind fun _ => opCall (f_X3_roomsOfDoor l1 l7 μ7) fun x16 μ14 => if (l6 &&& x16) = 0 then (f_X2_secretDoor_91 (f_X2_secretDoor_21 n) l0 l1 l3 l4 l5 l6 l7 μ14) else ((opRv 3 μ14 l1).bind fun _ => opCall (f_X3_roomsOfDoor l1 l7 μ14) fun x23 μ21 => (opRv 2 μ21 l0).bind fun _ => (f_X2_spread l0 l1 x23 l7 (0 : Int32) μ21).bind fun μ25 => (opRv 2 μ25 l0).bind fun _ => opCall (f_X2_comesTo l0 l1 l3 l5 μ25) fun x30 μ28 => if x30 = 0 then (f_X2_secretDoor_91 (f_X2_secretDoor_21 n) l0 l1 l3 l4 l5 l6 l7 μ28) else ((opRv 2 μ28 l0).bind fun _ => opCall (f_X2_comesTo l0 l1 l4 l5 μ28) fun x37 μ35 => if x37 = 0 then (some (l7, μ35)) else (f_X2_secretDoor_91 (f_X2_secretDoor_21 n) l0 l1 l3 l4 l5 l6 l7 μ35)))))
set_option maxRecDepth 100000 in
def f_X2_secretDoor (p0 : Nat) (p1 : Nat) (p2 : Int32) (p3 : Int32) (p4 : Int32) (p5 : Int32) (μ : dtM) : Option (Int32 × dtM) :=
  (opGI 3 5 μ p1).bind fun x1 => (opGR 3 14 μ p1).bind fun x3 => (opLI 1 μ x3 p2).bind fun x5 => opCall (f_X10_reach p1 x1 ((1 : Int32) <<< (x5 &&& 31)) μ) fun x9 μ7 => f_X2_secretDoor_21 dtFuel p0 p1 p3 p4 p5 x9 (0 : Int32) μ7
set_option maxRecDepth 100000 in
theorem c_X2_secretDoor_91 {r : Int32} {F : dtM} (k21 : Nat → Nat → Int32 → Int32 → Int32 → Int32 → Int32 → dtM → Option (Int32 × dtM)) (hk21 : ∀ (l0 : Nat) (l1 : Nat) (l3 : Int32) (l4 : Int32) (l5 : Int32) (l6 : Int32) (l7 : Int32) (μ : dtM), k21 l0 l1 l3 l4 l5 l6 l7 μ = some (r, F) → dtW yX2_secretDoor cX2_secretDoor 8 (some .int) 4 (some (.int r)) F 21 [some (.ref l0), some (.ref l1), none, some (.int l3), some (.int l4), some (.int l5), some (.int l6), some (.int l7)] [] μ) (l0 : Nat) (l1 : Nat) (l3 : Int32) (l4 : Int32) (l5 : Int32) (l6 : Int32) (l7 : Int32) (μ : dtM) (h : f_X2_secretDoor_91 k21 l0 l1 l3 l4 l5 l6 l7 μ = some (r, F)) : dtW yX2_secretDoor cX2_secretDoor 8 (some .int) 4 (some (.int r)) F 91 [some (.ref l0), some (.ref l1), none, some (.int l3), some (.int l4), some (.int l5), some (.int l6), some (.int l7)] [] μ := by
  rw [f_X2_secretDoor_91] at h
  refine dr_iinc l7 (l7 + 1) [some (.ref l0), some (.ref l1), none, some (.int l3), some (.int l4), some (.int l5), some (.int l6), some (.int (l7 + 1))] dX2_secretDoor_91 rfl rfl rfl rfl rfl ?_
  refine dr_goto 21 dX2_secretDoor_94 (by decide) ?_
  exact hk21 l0 l1 l3 l4 l5 l6 (l7 + 1) μ h
set_option maxRecDepth 100000 in
theorem c_X2_secretDoor_21 {r : Int32} {F : dtM} : ∀ (n : Nat) (l0 : Nat) (l1 : Nat) (l3 : Int32) (l4 : Int32) (l5 : Int32) (l6 : Int32) (l7 : Int32) (μ : dtM), f_X2_secretDoor_21 n l0 l1 l3 l4 l5 l6 l7 μ = some (r, F) → dtW yX2_secretDoor cX2_secretDoor 8 (some .int) 4 (some (.int r)) F 21 [some (.ref l0), some (.ref l1), none, some (.int l3), some (.int l4), some (.int l5), some (.int l6), some (.int l7)] [] μ := by
  intro n
  induction n with
  | zero => intro l0 l1 l3 l4 l5 l6 l7 μ h; cases h
  | succ n ih =>
    intro l0 l1 l3 l4 l5 l6 l7 μ h
    have h := (show f_X2_secretDoor_21 (n + 1) l0 l1 l3 l4 l5 l6 l7 μ = some _ from h)
    rw [f_X2_secretDoor_21] at h
    refine dr_iload l7 dX2_secretDoor_21 rfl ?_
    refine dr_aload_n l1 dX2_secretDoor_23 rfl ?_
    obtain ⟨x1, e2, h⟩ := dtBind h
    refine dr_getI x1 dX2_secretDoor_24 fl_RX2_20 e2 ?_
    obtain ⟨ht4, hf5⟩ := dtIte h
    refine dr_icmp_ge 97 dX2_secretDoor_27 (by decide) (fun hc3 => ?_) (fun hc3 => ?_)
    · have h := ht4 hc3
      refine dr_iconst (-1 : Int32) dX2_secretDoor_97 (by decide) ?_
      cases h
      exact dr_ireturn dX2_secretDoor_98 rfl
    · have h := hf5 hc3
      refine dr_aload_n l1 dX2_secretDoor_30 rfl ?_
      refine dr_iload l7 dX2_secretDoor_31 rfl ?_
      obtain ⟨_, hb6, h⟩ := dtBind h
      obtain ⟨x9, μ7, e8, h⟩ := dtCall h
      refine dr_callV_i (S0 := []) [.int l7] x9 μ7 dX2_secretDoor_33 (c_X3_isOpen l1 l7 μ e8) mf_X3_isOpen wt_845 wt_846 wt_1044 rfl (dtRv hb6) (by decide) rfl (Nat.le_of_ble_eq_true rfl) (Nat.le_of_ble_eq_true rfl) rfl ?_
      obtain ⟨ht11, hf12⟩ := dtIte h
      refine dr_if_eq 91 dX2_secretDoor_36 (by decide) (fun hc10 => ?_) (fun hc10 => ?_)
      · have h := ht11 hc10
        exact c_X2_secretDoor_91 (f_X2_secretDoor_21 n) ih l0 l1 l3 l4 l5 l6 l7 μ7 h
      · have h := hf12 hc10
        refine dr_iload l6 dX2_secretDoor_39 rfl ?_
        refine dr_aload_n l1 dX2_secretDoor_41 rfl ?_
        refine dr_iload l7 dX2_secretDoor_42 rfl ?_
        obtain ⟨_, hb13, h⟩ := dtBind h
        obtain ⟨x16, μ14, e15, h⟩ := dtCall h
        refine dr_callV_i (S0 := [.int l6]) [.int l7] x16 μ14 dX2_secretDoor_44 (c_X3_roomsOfDoor l1 l7 μ7 e15) mf_X3_roomsOfDoor wt_896 wt_897 wt_895 rfl (dtRv hb13) (by decide) rfl (Nat.le_of_ble_eq_true rfl) (Nat.le_of_ble_eq_true rfl) rfl ?_
        refine dr_iand dX2_secretDoor_47 ?_
        obtain ⟨ht18, hf19⟩ := dtIte h
        refine dr_if_eq 91 dX2_secretDoor_48 (by decide) (fun hc17 => ?_) (fun hc17 => ?_)
        · have h := ht18 hc17
          exact c_X2_secretDoor_91 (f_X2_secretDoor_21 n) ih l0 l1 l3 l4 l5 l6 l7 μ14 h
        · have h := hf19 hc17
          refine dr_aload_n l0 dX2_secretDoor_51 rfl ?_
          refine dr_aload_n l1 dX2_secretDoor_52 rfl ?_
          refine dr_aload_n l1 dX2_secretDoor_53 rfl ?_
          refine dr_iload l7 dX2_secretDoor_54 rfl ?_
          obtain ⟨_, hb20, h⟩ := dtBind h
          obtain ⟨x23, μ21, e22, h⟩ := dtCall h
          refine dr_callV_i (S0 := [.ref l1, .ref l0]) [.int l7] x23 μ21 dX2_secretDoor_56 (c_X3_roomsOfDoor l1 l7 μ14 e22) mf_X3_roomsOfDoor wt_896 wt_897 wt_895 rfl (dtRv hb20) (by decide) rfl (Nat.le_of_ble_eq_true rfl) (Nat.le_of_ble_eq_true rfl) rfl ?_
          refine dr_iload l7 dX2_secretDoor_59 rfl ?_
          refine dr_iconst (0 : Int32) dX2_secretDoor_61 (by decide) ?_
          obtain ⟨_, hb24, h⟩ := dtBind h
          obtain ⟨μ25, e26, h⟩ := dtBind h
          refine dr_callV_v (S0 := []) [.ref l1, .int x23, .int l7, .int (0 : Int32)] μ25 dX2_secretDoor_62 (c_X2_spread l0 l1 x23 l7 (0 : Int32) μ21 e26) mf_X2_spread wt_901 ws_29 wt_899 rfl (dtRv hb24) (by decide) rfl (Nat.le_of_ble_eq_true rfl) (Nat.le_of_ble_eq_true rfl) rfl ?_
          refine dr_aload_n l0 dX2_secretDoor_65 rfl ?_
          refine dr_aload_n l1 dX2_secretDoor_66 rfl ?_
          refine dr_iload_n l3 dX2_secretDoor_67 rfl ?_
          refine dr_iload l5 dX2_secretDoor_68 rfl ?_
          obtain ⟨_, hb27, h⟩ := dtBind h
          obtain ⟨x30, μ28, e29, h⟩ := dtCall h
          refine dr_callV_i (S0 := []) [.ref l1, .int l3, .int l5] x30 μ28 dX2_secretDoor_70 (c_X2_comesTo l0 l1 l3 l5 μ25 e29) mf_X2_comesTo wt_910 ws_30 wt_908 rfl (dtRv hb27) (by decide) rfl (Nat.le_of_ble_eq_true rfl) (Nat.le_of_ble_eq_true rfl) rfl ?_
          obtain ⟨ht32, hf33⟩ := dtIte h
          refine dr_if_eq 91 dX2_secretDoor_73 (by decide) (fun hc31 => ?_) (fun hc31 => ?_)
          · have h := ht32 hc31
            exact c_X2_secretDoor_91 (f_X2_secretDoor_21 n) ih l0 l1 l3 l4 l5 l6 l7 μ28 h
          · have h := hf33 hc31
            refine dr_aload_n l0 dX2_secretDoor_76 rfl ?_
            refine dr_aload_n l1 dX2_secretDoor_77 rfl ?_
            refine dr_iload l4 dX2_secretDoor_78 rfl ?_
            refine dr_iload l5 dX2_secretDoor_80 rfl ?_
            obtain ⟨_, hb34, h⟩ := dtBind h
            obtain ⟨x37, μ35, e36, h⟩ := dtCall h
            refine dr_callV_i (S0 := []) [.ref l1, .int l4, .int l5] x37 μ35 dX2_secretDoor_82 (c_X2_comesTo l0 l1 l4 l5 μ28 e36) mf_X2_comesTo wt_910 ws_30 wt_908 rfl (dtRv hb34) (by decide) rfl (Nat.le_of_ble_eq_true rfl) (Nat.le_of_ble_eq_true rfl) rfl ?_
            obtain ⟨ht39, hf40⟩ := dtIte h
            refine dr_if_ne 91 dX2_secretDoor_85 (by decide) (fun hc38 => ?_) (fun hc38 => ?_)
            · have h := hf40 hc38
              exact c_X2_secretDoor_91 (f_X2_secretDoor_21 n) ih l0 l1 l3 l4 l5 l6 l7 μ35 h
            · have h := ht39 hc38
              refine dr_iload l7 dX2_secretDoor_88 rfl ?_
              cases h
              exact dr_ireturn dX2_secretDoor_90 rfl
set_option maxRecDepth 100000 in
theorem c_X2_secretDoor {r : Int32} {F : dtM} (p0 : Nat) (p1 : Nat) (p2 : Int32) (p3 : Int32) (p4 : Int32) (p5 : Int32) (μ : dtM) (h : f_X2_secretDoor p0 p1 p2 p3 p4 p5 μ = some (r, F)) : dtMet yX2_secretDoor cX2_secretDoor 8 (some .int) 4 [.ref p0, .ref p1, .int p2, .int p3, .int p4, .int p5] μ (some (.int r)) F := by
  refine dtMet.of (by decide +kernel) (Nat.le_of_ble_eq_true rfl) (show dtW yX2_secretDoor cX2_secretDoor 8 (some .int) 4 (some (.int r)) F 0 [some (.ref p0), some (.ref p1), some (.int p2), some (.int p3), some (.int p4), some (.int p5)] [] μ from ?_)
  rw [f_X2_secretDoor] at h
  refine dr_aload_n p1 dX2_secretDoor_0 rfl ?_
  refine dr_aload_n p1 dX2_secretDoor_1 rfl ?_
  obtain ⟨x1, e2, h⟩ := dtBind h
  refine dr_getI x1 dX2_secretDoor_2 fl_RX2_26 e2 ?_
  refine dr_iconst (1 : Int32) dX2_secretDoor_5 (by decide) ?_
  refine dr_aload_n p1 dX2_secretDoor_6 rfl ?_
  obtain ⟨x3, e4, h⟩ := dtBind h
  refine dr_getR x3 dX2_secretDoor_7 fl_RX2_51 e4 ?_
  refine dr_iload_n p2 dX2_secretDoor_10 rfl ?_
  obtain ⟨x5, e6, h⟩ := dtBind h
  refine dr_iaload x5 dX2_secretDoor_11 e6 ?_
  refine dr_ishl dX2_secretDoor_12 ?_
  obtain ⟨x9, μ7, e8, h⟩ := dtCall h
  refine dr_callS_i (S0 := []) [.ref p1, .int x1, .int ((1 : Int32) <<< (x5 &&& 31))] x9 μ7 dX2_secretDoor_13 (c_X10_reach p1 x1 ((1 : Int32) <<< (x5 &&& 31)) μ e8) mf_X10_reach wt_1037 wt_1036 rfl (Nat.le_of_ble_eq_true rfl) (Nat.le_of_ble_eq_true rfl) rfl ?_
  refine dr_istore [some (.ref p0), some (.ref p1), some (.int p2), some (.int p3), some (.int p4), some (.int p5), some (.int x9)] dX2_secretDoor_16 rfl rfl rfl ?_
  refine dr_iconst (0 : Int32) dX2_secretDoor_18 (by decide) ?_
  refine dr_istore [some (.ref p0), some (.ref p1), some (.int p2), some (.int p3), some (.int p4), some (.int p5), some (.int x9), some (.int (0 : Int32))] dX2_secretDoor_19 rfl rfl rfl ?_
  refine dr_mask [true, true, false, true, true, true, true, true] [some (.ref p0), some (.ref p1), none, some (.int p3), some (.int p4), some (.int p5), some (.int x9), some (.int (0 : Int32))] rfl ?_
  exact c_X2_secretDoor_21 dtFuel p0 p1 p3 p4 p5 x9 (0 : Int32) μ7 h
/-! X3_catchSound -/
theorem dX3_catchSound_0 : decode cX3_catchSound 0 = .ok (.iload_n 1, 1) := by decide +kernel
theorem dX3_catchSound_1 : decode cX3_catchSound 1 = .ok (.bipush 8, 2) := by decide +kernel
theorem dX3_catchSound_3 : decode cX3_catchSound 3 = .ok (.imul, 1) := by decide +kernel
theorem dX3_catchSound_4 : decode cX3_catchSound 4 = .ok (.istore_n 3, 1) := by decide +kernel
theorem dX3_catchSound_5 : decode cX3_catchSound 5 = .ok (.aload_n 0, 1) := by decide +kernel
theorem dX3_catchSound_6 : decode cX3_catchSound 6 = .ok (.getfield 47, 3) := by decide +kernel
theorem dX3_catchSound_9 : decode cX3_catchSound 9 = .ok (.iload_n 1, 1) := by decide +kernel
theorem dX3_catchSound_10 : decode cX3_catchSound 10 = .ok (.iaload, 1) := by decide +kernel
theorem dX3_catchSound_11 : decode cX3_catchSound 11 = .ok (.bipush 8, 2) := by decide +kernel
theorem dX3_catchSound_13 : decode cX3_catchSound 13 = .ok (.if_icmp .lt 47, 3) := by decide +kernel
theorem dX3_catchSound_16 : decode cX3_catchSound 16 = .ok (.iconst 1, 1) := by decide +kernel
theorem dX3_catchSound_17 : decode cX3_catchSound 17 = .ok (.istore 4, 2) := by decide +kernel
theorem dX3_catchSound_19 : decode cX3_catchSound 19 = .ok (.iload 4, 2) := by decide +kernel
theorem dX3_catchSound_21 : decode cX3_catchSound 21 = .ok (.bipush 8, 2) := by decide +kernel
theorem dX3_catchSound_23 : decode cX3_catchSound 23 = .ok (.if_icmp .ge 29, 3) := by decide +kernel
theorem dX3_catchSound_26 : decode cX3_catchSound 26 = .ok (.aload_n 0, 1) := by decide +kernel
theorem dX3_catchSound_27 : decode cX3_catchSound 27 = .ok (.getfield 50, 3) := by decide +kernel
theorem dX3_catchSound_30 : decode cX3_catchSound 30 = .ok (.iload_n 3, 1) := by decide +kernel
theorem dX3_catchSound_31 : decode cX3_catchSound 31 = .ok (.iload 4, 2) := by decide +kernel
theorem dX3_catchSound_33 : decode cX3_catchSound 33 = .ok (.iadd, 1) := by decide +kernel
theorem dX3_catchSound_34 : decode cX3_catchSound 34 = .ok (.iconst 1, 1) := by decide +kernel
theorem dX3_catchSound_35 : decode cX3_catchSound 35 = .ok (.isub, 1) := by decide +kernel
theorem dX3_catchSound_36 : decode cX3_catchSound 36 = .ok (.aload_n 0, 1) := by decide +kernel
theorem dX3_catchSound_37 : decode cX3_catchSound 37 = .ok (.getfield 50, 3) := by decide +kernel
theorem dX3_catchSound_40 : decode cX3_catchSound 40 = .ok (.iload_n 3, 1) := by decide +kernel
theorem dX3_catchSound_41 : decode cX3_catchSound 41 = .ok (.iload 4, 2) := by decide +kernel
theorem dX3_catchSound_43 : decode cX3_catchSound 43 = .ok (.iadd, 1) := by decide +kernel
theorem dX3_catchSound_44 : decode cX3_catchSound 44 = .ok (.iaload, 1) := by decide +kernel
theorem dX3_catchSound_45 : decode cX3_catchSound 45 = .ok (.iastore, 1) := by decide +kernel
theorem dX3_catchSound_46 : decode cX3_catchSound 46 = .ok (.iinc 4 1, 3) := by decide +kernel
theorem dX3_catchSound_49 : decode cX3_catchSound 49 = .ok (.goto (-30), 3) := by decide +kernel
theorem dX3_catchSound_52 : decode cX3_catchSound 52 = .ok (.aload_n 0, 1) := by decide +kernel
theorem dX3_catchSound_53 : decode cX3_catchSound 53 = .ok (.getfield 47, 3) := by decide +kernel
theorem dX3_catchSound_56 : decode cX3_catchSound 56 = .ok (.iload_n 1, 1) := by decide +kernel
theorem dX3_catchSound_57 : decode cX3_catchSound 57 = .ok (.bipush 7, 2) := by decide +kernel
theorem dX3_catchSound_59 : decode cX3_catchSound 59 = .ok (.iastore, 1) := by decide +kernel
theorem dX3_catchSound_60 : decode cX3_catchSound 60 = .ok (.aload_n 0, 1) := by decide +kernel
theorem dX3_catchSound_61 : decode cX3_catchSound 61 = .ok (.getfield 50, 3) := by decide +kernel
theorem dX3_catchSound_64 : decode cX3_catchSound 64 = .ok (.iload_n 3, 1) := by decide +kernel
theorem dX3_catchSound_65 : decode cX3_catchSound 65 = .ok (.aload_n 0, 1) := by decide +kernel
theorem dX3_catchSound_66 : decode cX3_catchSound 66 = .ok (.getfield 47, 3) := by decide +kernel
theorem dX3_catchSound_69 : decode cX3_catchSound 69 = .ok (.iload_n 1, 1) := by decide +kernel
theorem dX3_catchSound_70 : decode cX3_catchSound 70 = .ok (.iaload, 1) := by decide +kernel
theorem dX3_catchSound_71 : decode cX3_catchSound 71 = .ok (.iadd, 1) := by decide +kernel
theorem dX3_catchSound_72 : decode cX3_catchSound 72 = .ok (.iload_n 2, 1) := by decide +kernel
theorem dX3_catchSound_73 : decode cX3_catchSound 73 = .ok (.iastore, 1) := by decide +kernel
theorem dX3_catchSound_74 : decode cX3_catchSound 74 = .ok (.aload_n 0, 1) := by decide +kernel
theorem dX3_catchSound_75 : decode cX3_catchSound 75 = .ok (.getfield 47, 3) := by decide +kernel
theorem dX3_catchSound_78 : decode cX3_catchSound 78 = .ok (.iload_n 1, 1) := by decide +kernel
theorem dX3_catchSound_79 : decode cX3_catchSound 79 = .ok (.dup2, 1) := by decide +kernel
theorem dX3_catchSound_80 : decode cX3_catchSound 80 = .ok (.iaload, 1) := by decide +kernel
theorem dX3_catchSound_81 : decode cX3_catchSound 81 = .ok (.iconst 1, 1) := by decide +kernel
theorem dX3_catchSound_82 : decode cX3_catchSound 82 = .ok (.iadd, 1) := by decide +kernel
theorem dX3_catchSound_83 : decode cX3_catchSound 83 = .ok (.iastore, 1) := by decide +kernel
theorem dX3_catchSound_84 : decode cX3_catchSound 84 = .ok (.return_, 1) := by decide +kernel
set_option maxRecDepth 100000 in
def f_X3_catchSound_60 (l0 : Nat) (l1 : Int32) (l2 : Int32) (l3 : Int32) (μ : dtM) : Option dtM :=
  (opGR 3 18 μ l0).bind fun x1 => (opGR 3 17 μ l0).bind fun x3 => (opLI 1 μ x3 l1).bind fun x5 => (opSI μ x1 (l3 + x5) l2).bind fun μ7 => (opGR 3 17 μ7 l0).bind fun x9 => (opLI 1 μ7 x9 l1).bind fun x11 => (opSI μ7 x9 l1 (x11 + (1 : Int32))).bind fun μ13 => some μ13
set_option maxRecDepth 100000 in
def f_X3_catchSound_19 : Nat → Nat → Int32 → Int32 → Int32 → Int32 → dtM → Option dtM
  | 0, _, _, _, _, _, _ => none
  | n + 1, l0, l1, l2, l3, l4, μ =>
    if (8 : Int32) ≤ l4 then ((opGR 3 17 μ l0).bind fun x4 => (opSI μ x4 l1 (7 : Int32)).bind fun μ6 => f_X3_catchSound_60 l0 l1 l2 l3 μ6) else ((opGR 3 18 μ l0).bind fun x8 => (opGR 3 18 μ l0).bind fun x10 => (opLI 1 μ x10 (l3 + l4)).bind fun x12 => (opSI μ x8 ((l3 + l4) - (1 : Int32)) x12).bind fun μ14 => f_X3_catchSound_19 n l0 l1 l2 l3 (l4 + 1) μ14)
set_option maxRecDepth 100000 in
def f_X3_catchSound (p0 : Nat) (p1 : Int32) (p2 : Int32) (μ : dtM) : Option dtM :=
  (some (p1 * (8 : Int32))).bind fun x1 => (opGR 3 17 μ p0).bind fun x3 => (opLI 1 μ x3 p1).bind fun x5 => if x5 < (8 : Int32) then (f_X3_catchSound_60 p0 p1 p2 x1 μ) else (f_X3_catchSound_19 dtFuel p0 p1 p2 x1 (1 : Int32) μ)
set_option maxRecDepth 100000 in
theorem c_X3_catchSound_60 {F : dtM} (l0 : Nat) (l1 : Int32) (l2 : Int32) (l3 : Int32) (μ : dtM) (h : f_X3_catchSound_60 l0 l1 l2 l3 μ = some F) : dtW yX3_catchSound cX3_catchSound 5 (none) 1 (none) F 60 [some (.ref l0), some (.int l1), some (.int l2), some (.int l3)] [] μ := by
  rw [f_X3_catchSound_60] at h
  refine dr_aload_n l0 dX3_catchSound_60 rfl ?_
  obtain ⟨x1, e2, h⟩ := dtBind h
  refine dr_getR x1 dX3_catchSound_61 fl_RX3_50 e2 ?_
  refine dr_iload_n l3 dX3_catchSound_64 rfl ?_
  refine dr_aload_n l0 dX3_catchSound_65 rfl ?_
  obtain ⟨x3, e4, h⟩ := dtBind h
  refine dr_getR x3 dX3_catchSound_66 fl_RX3_47 e4 ?_
  refine dr_iload_n l1 dX3_catchSound_69 rfl ?_
  obtain ⟨x5, e6, h⟩ := dtBind h
  refine dr_iaload x5 dX3_catchSound_70 e6 ?_
  refine dr_iadd dX3_catchSound_71 ?_
  refine dr_iload_n l2 dX3_catchSound_72 rfl ?_
  obtain ⟨μ7, e8, h⟩ := dtBind h
  refine dr_iastore μ7 dX3_catchSound_73 e8 ?_
  refine dr_aload_n l0 dX3_catchSound_74 rfl ?_
  obtain ⟨x9, e10, h⟩ := dtBind h
  refine dr_getR x9 dX3_catchSound_75 fl_RX3_47 e10 ?_
  refine dr_iload_n l1 dX3_catchSound_78 rfl ?_
  refine dr_dup2 dX3_catchSound_79 rfl rfl ?_
  obtain ⟨x11, e12, h⟩ := dtBind h
  refine dr_iaload x11 dX3_catchSound_80 e12 ?_
  refine dr_iconst (1 : Int32) dX3_catchSound_81 (by decide) ?_
  refine dr_iadd dX3_catchSound_82 ?_
  obtain ⟨μ13, e14, h⟩ := dtBind h
  refine dr_iastore μ13 dX3_catchSound_83 e14 ?_
  cases h
  exact dr_return dX3_catchSound_84
set_option maxRecDepth 100000 in
theorem c_X3_catchSound_19 {F : dtM} : ∀ (n : Nat) (l0 : Nat) (l1 : Int32) (l2 : Int32) (l3 : Int32) (l4 : Int32) (μ : dtM), f_X3_catchSound_19 n l0 l1 l2 l3 l4 μ = some F → dtW yX3_catchSound cX3_catchSound 5 (none) 1 (none) F 19 [some (.ref l0), some (.int l1), some (.int l2), some (.int l3), some (.int l4)] [] μ := by
  intro n
  induction n with
  | zero => intro l0 l1 l2 l3 l4 μ h; cases h
  | succ n ih =>
    intro l0 l1 l2 l3 l4 μ h
    have h := (show f_X3_catchSound_19 (n + 1) l0 l1 l2 l3 l4 μ = some _ from h)
    rw [f_X3_catchSound_19] at h
    refine dr_iload l4 dX3_catchSound_19 rfl ?_
    refine dr_bipush (8 : Int32) dX3_catchSound_21 (by decide) ?_
    obtain ⟨ht2, hf3⟩ := dtIte h
    refine dr_icmp_ge 52 dX3_catchSound_23 (by decide) (fun hc1 => ?_) (fun hc1 => ?_)
    · have h := ht2 hc1
      refine dr_aload_n l0 dX3_catchSound_52 rfl ?_
      obtain ⟨x4, e5, h⟩ := dtBind h
      refine dr_getR x4 dX3_catchSound_53 fl_RX3_47 e5 ?_
      refine dr_iload_n l1 dX3_catchSound_56 rfl ?_
      refine dr_bipush (7 : Int32) dX3_catchSound_57 (by decide) ?_
      obtain ⟨μ6, e7, h⟩ := dtBind h
      refine dr_iastore μ6 dX3_catchSound_59 e7 ?_
      refine dr_mask [true, true, true, true] [some (.ref l0), some (.int l1), some (.int l2), some (.int l3)] rfl ?_
      exact c_X3_catchSound_60 l0 l1 l2 l3 μ6 h
    · have h := hf3 hc1
      refine dr_aload_n l0 dX3_catchSound_26 rfl ?_
      obtain ⟨x8, e9, h⟩ := dtBind h
      refine dr_getR x8 dX3_catchSound_27 fl_RX3_50 e9 ?_
      refine dr_iload_n l3 dX3_catchSound_30 rfl ?_
      refine dr_iload l4 dX3_catchSound_31 rfl ?_
      refine dr_iadd dX3_catchSound_33 ?_
      refine dr_iconst (1 : Int32) dX3_catchSound_34 (by decide) ?_
      refine dr_isub dX3_catchSound_35 ?_
      refine dr_aload_n l0 dX3_catchSound_36 rfl ?_
      obtain ⟨x10, e11, h⟩ := dtBind h
      refine dr_getR x10 dX3_catchSound_37 fl_RX3_50 e11 ?_
      refine dr_iload_n l3 dX3_catchSound_40 rfl ?_
      refine dr_iload l4 dX3_catchSound_41 rfl ?_
      refine dr_iadd dX3_catchSound_43 ?_
      obtain ⟨x12, e13, h⟩ := dtBind h
      refine dr_iaload x12 dX3_catchSound_44 e13 ?_
      obtain ⟨μ14, e15, h⟩ := dtBind h
      refine dr_iastore μ14 dX3_catchSound_45 e15 ?_
      refine dr_iinc l4 (l4 + 1) [some (.ref l0), some (.int l1), some (.int l2), some (.int l3), some (.int (l4 + 1))] dX3_catchSound_46 rfl rfl rfl rfl rfl ?_
      refine dr_goto 19 dX3_catchSound_49 (by decide) ?_
      exact ih l0 l1 l2 l3 (l4 + 1) μ14 h
set_option maxRecDepth 100000 in
theorem c_X3_catchSound {F : dtM} (p0 : Nat) (p1 : Int32) (p2 : Int32) (μ : dtM) (h : f_X3_catchSound p0 p1 p2 μ = some F) : dtMet yX3_catchSound cX3_catchSound 5 (none) 1 [.ref p0, .int p1, .int p2] μ (none) F := by
  refine dtMet.of (by decide +kernel) (Nat.le_of_ble_eq_true rfl) (show dtW yX3_catchSound cX3_catchSound 5 (none) 1 (none) F 0 [some (.ref p0), some (.int p1), some (.int p2)] [] μ from ?_)
  rw [f_X3_catchSound] at h
  refine dr_iload_n p1 dX3_catchSound_0 rfl ?_
  refine dr_bipush (8 : Int32) dX3_catchSound_1 (by decide) ?_
  refine dr_imul dX3_catchSound_3 ?_
  obtain ⟨x1, e2, h⟩ := dtBind h
  refine dr_nmi e2 ?_
  refine dr_istore_n 3 [some (.ref p0), some (.int p1), some (.int p2), some (.int x1)] dX3_catchSound_4 rfl rfl rfl rfl ?_
  refine dr_aload_n p0 dX3_catchSound_5 rfl ?_
  obtain ⟨x3, e4, h⟩ := dtBind h
  refine dr_getR x3 dX3_catchSound_6 fl_RX3_47 e4 ?_
  refine dr_iload_n p1 dX3_catchSound_9 rfl ?_
  obtain ⟨x5, e6, h⟩ := dtBind h
  refine dr_iaload x5 dX3_catchSound_10 e6 ?_
  refine dr_bipush (8 : Int32) dX3_catchSound_11 (by decide) ?_
  obtain ⟨ht8, hf9⟩ := dtIte h
  refine dr_icmp_lt 60 dX3_catchSound_13 (by decide) (fun hc7 => ?_) (fun hc7 => ?_)
  · have h := ht8 hc7
    exact c_X3_catchSound_60 p0 p1 p2 x1 μ h
  · have h := hf9 hc7
    refine dr_iconst (1 : Int32) dX3_catchSound_16 (by decide) ?_
    refine dr_istore [some (.ref p0), some (.int p1), some (.int p2), some (.int x1), some (.int (1 : Int32))] dX3_catchSound_17 rfl rfl rfl ?_
    exact c_X3_catchSound_19 dtFuel p0 p1 p2 x1 (1 : Int32) μ h
/-! X3_shutDoor -/
theorem dX3_shutDoor_0 : decode cX3_shutDoor 0 = .ok (.aload_n 0, 1) := by decide +kernel
theorem dX3_shutDoor_1 : decode cX3_shutDoor 1 = .ok (.dup, 1) := by decide +kernel
theorem dX3_shutDoor_2 : decode cX3_shutDoor 2 = .ok (.getfield 65, 3) := by decide +kernel
theorem dX3_shutDoor_5 : decode cX3_shutDoor 5 = .ok (.iconst 1, 1) := by decide +kernel
theorem dX3_shutDoor_6 : decode cX3_shutDoor 6 = .ok (.iload_n 1, 1) := by decide +kernel
theorem dX3_shutDoor_7 : decode cX3_shutDoor 7 = .ok (.ishl, 1) := by decide +kernel
theorem dX3_shutDoor_8 : decode cX3_shutDoor 8 = .ok (.iconst (-1), 1) := by decide +kernel
theorem dX3_shutDoor_9 : decode cX3_shutDoor 9 = .ok (.ixor, 1) := by decide +kernel
theorem dX3_shutDoor_10 : decode cX3_shutDoor 10 = .ok (.iand, 1) := by decide +kernel
theorem dX3_shutDoor_11 : decode cX3_shutDoor 11 = .ok (.putfield 65, 3) := by decide +kernel
theorem dX3_shutDoor_14 : decode cX3_shutDoor 14 = .ok (.return_, 1) := by decide +kernel
set_option maxRecDepth 100000 in
def f_X3_shutDoor (p0 : Nat) (p1 : Int32) (μ : dtM) : Option dtM :=
  (opGI 3 5 μ p0).bind fun x1 => (opPI 3 5 μ p0 (x1 &&& (((1 : Int32) <<< (p1 &&& 31)) ^^^ (-1 : Int32)))).bind fun μ3 => some μ3
set_option maxRecDepth 100000 in
theorem c_X3_shutDoor {F : dtM} (p0 : Nat) (p1 : Int32) (μ : dtM) (h : f_X3_shutDoor p0 p1 μ = some F) : dtMet yX3_shutDoor cX3_shutDoor 2 (none) 1 [.ref p0, .int p1] μ (none) F := by
  refine dtMet.of (by decide +kernel) (Nat.le_of_ble_eq_true rfl) (show dtW yX3_shutDoor cX3_shutDoor 2 (none) 1 (none) F 0 [some (.ref p0), some (.int p1)] [] μ from ?_)
  rw [f_X3_shutDoor] at h
  refine dr_aload_n p0 dX3_shutDoor_0 rfl ?_
  refine dr_dup dX3_shutDoor_1 rfl ?_
  obtain ⟨x1, e2, h⟩ := dtBind h
  refine dr_getI x1 dX3_shutDoor_2 fl_RX3_65 e2 ?_
  refine dr_iconst (1 : Int32) dX3_shutDoor_5 (by decide) ?_
  refine dr_iload_n p1 dX3_shutDoor_6 rfl ?_
  refine dr_ishl dX3_shutDoor_7 ?_
  refine dr_iconst (-1 : Int32) dX3_shutDoor_8 (by decide) ?_
  refine dr_ixor dX3_shutDoor_9 ?_
  refine dr_iand dX3_shutDoor_10 ?_
  obtain ⟨μ3, e4, h⟩ := dtBind h
  refine dr_putI μ3 dX3_shutDoor_11 fl_RX3_65 rfl e4 ?_
  cases h
  exact dr_return dX3_shutDoor_14
/-! X2_shutWith -/
theorem dX2_shutWith_0 : decode cX2_shutWith 0 = .ok (.aload_n 0, 1) := by decide +kernel
theorem dX2_shutWith_1 : decode cX2_shutWith 1 = .ok (.aload_n 1, 1) := by decide +kernel
theorem dX2_shutWith_2 : decode cX2_shutWith 2 = .ok (.iload_n 3, 1) := by decide +kernel
theorem dX2_shutWith_3 : decode cX2_shutWith 3 = .ok (.iload 4, 2) := by decide +kernel
theorem dX2_shutWith_5 : decode cX2_shutWith 5 = .ok (.iload_n 2, 1) := by decide +kernel
theorem dX2_shutWith_6 : decode cX2_shutWith 6 = .ok (.invokevirtual 77, 3) := by decide +kernel
theorem dX2_shutWith_9 : decode cX2_shutWith 9 = .ok (.istore 5, 2) := by decide +kernel
theorem dX2_shutWith_11 : decode cX2_shutWith 11 = .ok (.iconst 0, 1) := by decide +kernel
theorem dX2_shutWith_12 : decode cX2_shutWith 12 = .ok (.istore 6, 2) := by decide +kernel
theorem dX2_shutWith_14 : decode cX2_shutWith 14 = .ok (.iload 6, 2) := by decide +kernel
theorem dX2_shutWith_16 : decode cX2_shutWith 16 = .ok (.aload_n 1, 1) := by decide +kernel
theorem dX2_shutWith_17 : decode cX2_shutWith 17 = .ok (.getfield 60, 3) := by decide +kernel
theorem dX2_shutWith_20 : decode cX2_shutWith 20 = .ok (.if_icmp .ge 27, 3) := by decide +kernel
theorem dX2_shutWith_23 : decode cX2_shutWith 23 = .ok (.iload 5, 2) := by decide +kernel
theorem dX2_shutWith_25 : decode cX2_shutWith 25 = .ok (.iload 6, 2) := by decide +kernel
theorem dX2_shutWith_27 : decode cX2_shutWith 27 = .ok (.invokestatic 81, 3) := by decide +kernel
theorem dX2_shutWith_30 : decode cX2_shutWith 30 = .ok (.ifCond .eq 11, 3) := by decide +kernel
theorem dX2_shutWith_33 : decode cX2_shutWith 33 = .ok (.aload_n 1, 1) := by decide +kernel
theorem dX2_shutWith_34 : decode cX2_shutWith 34 = .ok (.iload 6, 2) := by decide +kernel
theorem dX2_shutWith_36 : decode cX2_shutWith 36 = .ok (.iload 4, 2) := by decide +kernel
theorem dX2_shutWith_38 : decode cX2_shutWith 38 = .ok (.invokevirtual 85, 3) := by decide +kernel
theorem dX2_shutWith_41 : decode cX2_shutWith 41 = .ok (.iinc 6 1, 3) := by decide +kernel
theorem dX2_shutWith_44 : decode cX2_shutWith 44 = .ok (.goto (-30), 3) := by decide +kernel
theorem dX2_shutWith_47 : decode cX2_shutWith 47 = .ok (.aload_n 1, 1) := by decide +kernel
theorem dX2_shutWith_48 : decode cX2_shutWith 48 = .ok (.dup, 1) := by decide +kernel
theorem dX2_shutWith_49 : decode cX2_shutWith 49 = .ok (.getfield 89, 3) := by decide +kernel
theorem dX2_shutWith_52 : decode cX2_shutWith 52 = .ok (.iconst 1, 1) := by decide +kernel
theorem dX2_shutWith_53 : decode cX2_shutWith 53 = .ok (.iadd, 1) := by decide +kernel
theorem dX2_shutWith_54 : decode cX2_shutWith 54 = .ok (.putfield 89, 3) := by decide +kernel
theorem dX2_shutWith_57 : decode cX2_shutWith 57 = .ok (.iload 4, 2) := by decide +kernel
theorem dX2_shutWith_59 : decode cX2_shutWith 59 = .ok (.iconst 3, 1) := by decide +kernel
theorem dX2_shutWith_60 : decode cX2_shutWith 60 = .ok (.if_icmp .eq 8, 3) := by decide +kernel
theorem dX2_shutWith_63 : decode cX2_shutWith 63 = .ok (.aload_n 1, 1) := by decide +kernel
theorem dX2_shutWith_64 : decode cX2_shutWith 64 = .ok (.iload_n 3, 1) := by decide +kernel
theorem dX2_shutWith_65 : decode cX2_shutWith 65 = .ok (.invokevirtual 92, 3) := by decide +kernel
theorem dX2_shutWith_68 : decode cX2_shutWith 68 = .ok (.iload 5, 2) := by decide +kernel
theorem dX2_shutWith_70 : decode cX2_shutWith 70 = .ok (.ireturn, 1) := by decide +kernel
set_option maxRecDepth 100000 in
def f_X2_shutWith_68 (l5 : Int32) (μ : dtM) : Option (Int32 × dtM) :=
  some (l5, μ)
set_option maxRecDepth 100000 in
def f_X2_shutWith_41 (k14 : Nat → Int32 → Int32 → Int32 → Int32 → dtM → Option (Int32 × dtM)) (l1 : Nat) (l3 : Int32) (l4 : Int32) (l5 : Int32) (l6 : Int32) (μ : dtM) : Option (Int32 × dtM) :=
  k14 l1 l3 l4 l5 (l6 + 1) μ
set_option maxRecDepth 100000 in
def f_X2_shutWith_14 : Nat → Nat → Int32 → Int32 → Int32 → Int32 → dtM → Option (Int32 × dtM)
  | 0, _, _, _, _, _, _ => none
  | n + 1, l1, l3, l4, l5, l6, μ =>
    (opGI 3 3 μ l1).bind fun x1 => if x1 ≤ l6 then ((opGI 3 6 μ l1).bind fun x6 => (opPI 3 6 μ l1 (x6 + (1 : Int32))).bind fun μ8 => if l4 = (3 : Int32) then (f_X2_shutWith_68 l5 μ8) else ((opRv 3 μ8 l1).bind fun _ => (f_X3_shutDoor l1 l3 μ8).bind fun μ14 => f_X2_shutWith_68 l5 μ14)) else (opCall (f_X11_contains l5 l6 μ) fun x18 μ16 => if x18 = 0 then (f_X2_shutWith_41 (f_X2_shutWith_14 n) l1 l3 l4 l5 l6 μ16) else ((opRv 3 μ16 l1).bind fun _ => (f_X3_catchSound l1 l6 l4 μ16).bind fun μ23 => f_X2_shutWith_41 (f_X2_shutWith_14 n) l1 l3 l4 l5 l6 μ23))
set_option maxRecDepth 100000 in
def f_X2_shutWith (p0 : Nat) (p1 : Nat) (p2 : Int32) (p3 : Int32) (p4 : Int32) (μ : dtM) : Option (Int32 × dtM) :=
  (opRv 2 μ p0).bind fun _ => opCall (f_X2_hearersOf p0 p1 p3 p4 p2 μ) fun x4 μ2 => f_X2_shutWith_14 dtFuel p1 p3 p4 x4 (0 : Int32) μ2
set_option maxRecDepth 100000 in
theorem c_X2_shutWith_68 {r : Int32} {F : dtM} (l5 : Int32) (μ : dtM) (h : f_X2_shutWith_68 l5 μ = some (r, F)) : dtW yX2_shutWith cX2_shutWith 7 (some .int) 3 (some (.int r)) F 68 [none, none, none, none, none, some (.int l5)] [] μ := by
  rw [f_X2_shutWith_68] at h
  refine dr_iload l5 dX2_shutWith_68 rfl ?_
  cases h
  exact dr_ireturn dX2_shutWith_70 rfl
set_option maxRecDepth 100000 in
theorem c_X2_shutWith_41 {r : Int32} {F : dtM} (k14 : Nat → Int32 → Int32 → Int32 → Int32 → dtM → Option (Int32 × dtM)) (hk14 : ∀ (l1 : Nat) (l3 : Int32) (l4 : Int32) (l5 : Int32) (l6 : Int32) (μ : dtM), k14 l1 l3 l4 l5 l6 μ = some (r, F) → dtW yX2_shutWith cX2_shutWith 7 (some .int) 3 (some (.int r)) F 14 [none, some (.ref l1), none, some (.int l3), some (.int l4), some (.int l5), some (.int l6)] [] μ) (l1 : Nat) (l3 : Int32) (l4 : Int32) (l5 : Int32) (l6 : Int32) (μ : dtM) (h : f_X2_shutWith_41 k14 l1 l3 l4 l5 l6 μ = some (r, F)) : dtW yX2_shutWith cX2_shutWith 7 (some .int) 3 (some (.int r)) F 41 [none, some (.ref l1), none, some (.int l3), some (.int l4), some (.int l5), some (.int l6)] [] μ := by
  rw [f_X2_shutWith_41] at h
  refine dr_iinc l6 (l6 + 1) [none, some (.ref l1), none, some (.int l3), some (.int l4), some (.int l5), some (.int (l6 + 1))] dX2_shutWith_41 rfl rfl rfl rfl rfl ?_
  refine dr_goto 14 dX2_shutWith_44 (by decide) ?_
  exact hk14 l1 l3 l4 l5 (l6 + 1) μ h
set_option maxRecDepth 100000 in
theorem c_X2_shutWith_14 {r : Int32} {F : dtM} : ∀ (n : Nat) (l1 : Nat) (l3 : Int32) (l4 : Int32) (l5 : Int32) (l6 : Int32) (μ : dtM), f_X2_shutWith_14 n l1 l3 l4 l5 l6 μ = some (r, F) → dtW yX2_shutWith cX2_shutWith 7 (some .int) 3 (some (.int r)) F 14 [none, some (.ref l1), none, some (.int l3), some (.int l4), some (.int l5), some (.int l6)] [] μ := by
  intro n
  induction n with
  | zero => intro l1 l3 l4 l5 l6 μ h; cases h
  | succ n ih =>
    intro l1 l3 l4 l5 l6 μ h
    have h := (show f_X2_shutWith_14 (n + 1) l1 l3 l4 l5 l6 μ = some _ from h)
    rw [f_X2_shutWith_14] at h
    refine dr_iload l6 dX2_shutWith_14 rfl ?_
    refine dr_aload_n l1 dX2_shutWith_16 rfl ?_
    obtain ⟨x1, e2, h⟩ := dtBind h
    refine dr_getI x1 dX2_shutWith_17 fl_RX2_60 e2 ?_
    obtain ⟨ht4, hf5⟩ := dtIte h
    refine dr_icmp_ge 47 dX2_shutWith_20 (by decide) (fun hc3 => ?_) (fun hc3 => ?_)
    · have h := ht4 hc3
      refine dr_aload_n l1 dX2_shutWith_47 rfl ?_
      refine dr_dup dX2_shutWith_48 rfl ?_
      obtain ⟨x6, e7, h⟩ := dtBind h
      refine dr_getI x6 dX2_shutWith_49 fl_RX2_89 e7 ?_
      refine dr_iconst (1 : Int32) dX2_shutWith_52 (by decide) ?_
      refine dr_iadd dX2_shutWith_53 ?_
      obtain ⟨μ8, e9, h⟩ := dtBind h
      refine dr_putI μ8 dX2_shutWith_54 fl_RX2_89 rfl e9 ?_
      refine dr_iload l4 dX2_shutWith_57 rfl ?_
      refine dr_iconst (3 : Int32) dX2_shutWith_59 (by decide) ?_
      obtain ⟨ht11, hf12⟩ := dtIte h
      refine dr_icmp_eq 68 dX2_shutWith_60 (by decide) (fun hc10 => ?_) (fun hc10 => ?_)
      · have h := ht11 hc10
        refine dr_mask [false, false, false, false, false, true] [none, none, none, none, none, some (.int l5)] rfl ?_
        exact c_X2_shutWith_68 l5 μ8 h
      · have h := hf12 hc10
        refine dr_aload_n l1 dX2_shutWith_63 rfl ?_
        refine dr_iload_n l3 dX2_shutWith_64 rfl ?_
        obtain ⟨_, hb13, h⟩ := dtBind h
        obtain ⟨μ14, e15, h⟩ := dtBind h
        refine dr_callV_v (S0 := []) [.int l3] μ14 dX2_shutWith_65 (c_X3_shutDoor l1 l3 μ8 e15) mf_X3_shutDoor wt_920 wt_921 wt_919 rfl (dtRv hb13) (by decide) rfl (Nat.le_of_ble_eq_true rfl) (Nat.le_of_ble_eq_true rfl) rfl ?_
        refine dr_mask [false, false, false, false, false, true] [none, none, none, none, none, some (.int l5)] rfl ?_
        exact c_X2_shutWith_68 l5 μ14 h
    · have h := hf5 hc3
      refine dr_iload l5 dX2_shutWith_23 rfl ?_
      refine dr_iload l6 dX2_shutWith_25 rfl ?_
      obtain ⟨x18, μ16, e17, h⟩ := dtCall h
      refine dr_callSN_i (S0 := []) [.int l5, .int l6] x18 μ16 dX2_shutWith_27 (c_X11_contains l5 l6 μ e17) mf_X11_contains wt_748 wn_914 rfl (Nat.le_of_ble_eq_true rfl) (Nat.le_of_ble_eq_true rfl) rfl ?_
      obtain ⟨ht20, hf21⟩ := dtIte h
      refine dr_if_eq 41 dX2_shutWith_30 (by decide) (fun hc19 => ?_) (fun hc19 => ?_)
      · have h := ht20 hc19
        exact c_X2_shutWith_41 (f_X2_shutWith_14 n) ih l1 l3 l4 l5 l6 μ16 h
      · have h := hf21 hc19
        refine dr_aload_n l1 dX2_shutWith_33 rfl ?_
        refine dr_iload l6 dX2_shutWith_34 rfl ?_
        refine dr_iload l4 dX2_shutWith_36 rfl ?_
        obtain ⟨_, hb22, h⟩ := dtBind h
        obtain ⟨μ23, e24, h⟩ := dtBind h
        refine dr_callV_v (S0 := []) [.int l6, .int l4] μ23 dX2_shutWith_38 (c_X3_catchSound l1 l6 l4 μ16 e24) mf_X3_catchSound wt_916 wt_917 wt_915 rfl (dtRv hb22) (by decide) rfl (Nat.le_of_ble_eq_true rfl) (Nat.le_of_ble_eq_true rfl) rfl ?_
        exact c_X2_shutWith_41 (f_X2_shutWith_14 n) ih l1 l3 l4 l5 l6 μ23 h
set_option maxRecDepth 100000 in
theorem c_X2_shutWith {r : Int32} {F : dtM} (p0 : Nat) (p1 : Nat) (p2 : Int32) (p3 : Int32) (p4 : Int32) (μ : dtM) (h : f_X2_shutWith p0 p1 p2 p3 p4 μ = some (r, F)) : dtMet yX2_shutWith cX2_shutWith 7 (some .int) 3 [.ref p0, .ref p1, .int p2, .int p3, .int p4] μ (some (.int r)) F := by
  refine dtMet.of (by decide +kernel) (Nat.le_of_ble_eq_true rfl) (show dtW yX2_shutWith cX2_shutWith 7 (some .int) 3 (some (.int r)) F 0 [some (.ref p0), some (.ref p1), some (.int p2), some (.int p3), some (.int p4)] [] μ from ?_)
  rw [f_X2_shutWith] at h
  refine dr_aload_n p0 dX2_shutWith_0 rfl ?_
  refine dr_aload_n p1 dX2_shutWith_1 rfl ?_
  refine dr_iload_n p3 dX2_shutWith_2 rfl ?_
  refine dr_iload p4 dX2_shutWith_3 rfl ?_
  refine dr_iload_n p2 dX2_shutWith_5 rfl ?_
  obtain ⟨_, hb1, h⟩ := dtBind h
  obtain ⟨x4, μ2, e3, h⟩ := dtCall h
  refine dr_callV_i (S0 := []) [.ref p1, .int p3, .int p4, .int p2] x4 μ2 dX2_shutWith_6 (c_X2_hearersOf p0 p1 p3 p4 p2 μ e3) mf_X2_hearersOf wt_892 wt_893 wt_891 rfl (dtRv hb1) (by decide) rfl (Nat.le_of_ble_eq_true rfl) (Nat.le_of_ble_eq_true rfl) rfl ?_
  refine dr_istore [some (.ref p0), some (.ref p1), some (.int p2), some (.int p3), some (.int p4), some (.int x4)] dX2_shutWith_9 rfl rfl rfl ?_
  refine dr_iconst (0 : Int32) dX2_shutWith_11 (by decide) ?_
  refine dr_istore [some (.ref p0), some (.ref p1), some (.int p2), some (.int p3), some (.int p4), some (.int x4), some (.int (0 : Int32))] dX2_shutWith_12 rfl rfl rfl ?_
  refine dr_mask [false, true, false, true, true, true, true] [none, some (.ref p1), none, some (.int p3), some (.int p4), some (.int x4), some (.int (0 : Int32))] rfl ?_
  exact c_X2_shutWith_14 dtFuel p1 p3 p4 x4 (0 : Int32) μ2 h
/-! X3_init -/
theorem dX3_init_0 : decode cX3_init 0 = .ok (.aload_n 0, 1) := by decide +kernel
theorem dX3_init_1 : decode cX3_init 1 = .ok (.invokespecial 3, 3) := by decide +kernel
theorem dX3_init_4 : decode cX3_init 4 = .ok (.aload_n 0, 1) := by decide +kernel
theorem dX3_init_5 : decode cX3_init 5 = .ok (.iconst 4, 1) := by decide +kernel
theorem dX3_init_6 : decode cX3_init 6 = .ok (.putfield 9, 3) := by decide +kernel
theorem dX3_init_9 : decode cX3_init 9 = .ok (.aload_n 0, 1) := by decide +kernel
theorem dX3_init_10 : decode cX3_init 10 = .ok (.bipush 7, 2) := by decide +kernel
theorem dX3_init_12 : decode cX3_init 12 = .ok (.newarray .long, 2) := by decide +kernel
theorem dX3_init_14 : decode cX3_init 14 = .ok (.putfield 15, 3) := by decide +kernel
theorem dX3_init_17 : decode cX3_init 17 = .ok (.aload_n 0, 1) := by decide +kernel
theorem dX3_init_18 : decode cX3_init 18 = .ok (.iconst 5, 1) := by decide +kernel
theorem dX3_init_19 : decode cX3_init 19 = .ok (.newarray .long, 2) := by decide +kernel
theorem dX3_init_21 : decode cX3_init 21 = .ok (.putfield 19, 3) := by decide +kernel
theorem dX3_init_24 : decode cX3_init 24 = .ok (.aload_n 0, 1) := by decide +kernel
theorem dX3_init_25 : decode cX3_init 25 = .ok (.bipush 10, 2) := by decide +kernel
theorem dX3_init_27 : decode cX3_init 27 = .ok (.newarray .int, 2) := by decide +kernel
theorem dX3_init_29 : decode cX3_init 29 = .ok (.putfield 22, 3) := by decide +kernel
theorem dX3_init_32 : decode cX3_init 32 = .ok (.aload_n 0, 1) := by decide +kernel
theorem dX3_init_33 : decode cX3_init 33 = .ok (.bipush 10, 2) := by decide +kernel
theorem dX3_init_35 : decode cX3_init 35 = .ok (.newarray .int, 2) := by decide +kernel
theorem dX3_init_37 : decode cX3_init 37 = .ok (.putfield 26, 3) := by decide +kernel
theorem dX3_init_40 : decode cX3_init 40 = .ok (.aload_n 0, 1) := by decide +kernel
theorem dX3_init_41 : decode cX3_init 41 = .ok (.bipush 10, 2) := by decide +kernel
theorem dX3_init_43 : decode cX3_init 43 = .ok (.newarray .int, 2) := by decide +kernel
theorem dX3_init_45 : decode cX3_init 45 = .ok (.putfield 29, 3) := by decide +kernel
theorem dX3_init_48 : decode cX3_init 48 = .ok (.aload_n 0, 1) := by decide +kernel
theorem dX3_init_49 : decode cX3_init 49 = .ok (.bipush 7, 2) := by decide +kernel
theorem dX3_init_51 : decode cX3_init 51 = .ok (.newarray .int, 2) := by decide +kernel
theorem dX3_init_53 : decode cX3_init 53 = .ok (.putfield 32, 3) := by decide +kernel
theorem dX3_init_56 : decode cX3_init 56 = .ok (.aload_n 0, 1) := by decide +kernel
theorem dX3_init_57 : decode cX3_init 57 = .ok (.bipush 28, 2) := by decide +kernel
theorem dX3_init_59 : decode cX3_init 59 = .ok (.newarray .int, 2) := by decide +kernel
theorem dX3_init_61 : decode cX3_init 61 = .ok (.putfield 35, 3) := by decide +kernel
theorem dX3_init_64 : decode cX3_init 64 = .ok (.aload_n 0, 1) := by decide +kernel
theorem dX3_init_65 : decode cX3_init 65 = .ok (.iconst 5, 1) := by decide +kernel
theorem dX3_init_66 : decode cX3_init 66 = .ok (.newarray .int, 2) := by decide +kernel
theorem dX3_init_68 : decode cX3_init 68 = .ok (.putfield 38, 3) := by decide +kernel
theorem dX3_init_71 : decode cX3_init 71 = .ok (.aload_n 0, 1) := by decide +kernel
theorem dX3_init_72 : decode cX3_init 72 = .ok (.iconst 5, 1) := by decide +kernel
theorem dX3_init_73 : decode cX3_init 73 = .ok (.newarray .int, 2) := by decide +kernel
theorem dX3_init_75 : decode cX3_init 75 = .ok (.putfield 41, 3) := by decide +kernel
theorem dX3_init_78 : decode cX3_init 78 = .ok (.aload_n 0, 1) := by decide +kernel
theorem dX3_init_79 : decode cX3_init 79 = .ok (.iconst 5, 1) := by decide +kernel
theorem dX3_init_80 : decode cX3_init 80 = .ok (.newarray .int, 2) := by decide +kernel
theorem dX3_init_82 : decode cX3_init 82 = .ok (.putfield 44, 3) := by decide +kernel
theorem dX3_init_85 : decode cX3_init 85 = .ok (.aload_n 0, 1) := by decide +kernel
theorem dX3_init_86 : decode cX3_init 86 = .ok (.iconst 5, 1) := by decide +kernel
theorem dX3_init_87 : decode cX3_init 87 = .ok (.newarray .int, 2) := by decide +kernel
theorem dX3_init_89 : decode cX3_init 89 = .ok (.putfield 47, 3) := by decide +kernel
theorem dX3_init_92 : decode cX3_init 92 = .ok (.aload_n 0, 1) := by decide +kernel
theorem dX3_init_93 : decode cX3_init 93 = .ok (.bipush 40, 2) := by decide +kernel
theorem dX3_init_95 : decode cX3_init 95 = .ok (.newarray .int, 2) := by decide +kernel
theorem dX3_init_97 : decode cX3_init 97 = .ok (.putfield 50, 3) := by decide +kernel
theorem dX3_init_100 : decode cX3_init 100 = .ok (.return_, 1) := by decide +kernel
set_option maxRecDepth 100000 in
def f_X3_init (p0 : Nat) (μ : dtM) : Option dtM :=
  (opLt p0).bind fun _ => (opPI 3 4 μ p0 (4 : Int32)).bind fun μ2 => opCall (opNA 3 μ2 (7 : Int32)) fun q4 μ5 => (opPR 3 7 μ5 p0 q4).bind fun μ7 => opCall (opNA 3 μ7 (5 : Int32)) fun q9 μ10 => (opPR 3 8 μ10 p0 q9).bind fun μ12 => opCall (opNA 1 μ12 (10 : Int32)) fun q14 μ15 => (opPR 3 9 μ15 p0 q14).bind fun μ17 => opCall (opNA 1 μ17 (10 : Int32)) fun q19 μ20 => (opPR 3 10 μ20 p0 q19).bind fun μ22 => opCall (opNA 1 μ22 (10 : Int32)) fun q24 μ25 => (opPR 3 11 μ25 p0 q24).bind fun μ27 => opCall (opNA 1 μ27 (7 : Int32)) fun q29 μ30 => (opPR 3 12 μ30 p0 q29).bind fun μ32 => opCall (opNA 1 μ32 (28 : Int32)) fun q34 μ35 => (opPR 3 13 μ35 p0 q34).bind fun μ37 => opCall (opNA 1 μ37 (5 : Int32)) fun q39 μ40 => (opPR 3 14 μ40 p0 q39).bind fun μ42 => opCall (opNA 1 μ42 (5 : Int32)) fun q44 μ45 => (opPR 3 15 μ45 p0 q44).bind fun μ47 => opCall (opNA 1 μ47 (5 : Int32)) fun q49 μ50 => (opPR 3 16 μ50 p0 q49).bind fun μ52 => opCall (opNA 1 μ52 (5 : Int32)) fun q54 μ55 => (opPR 3 17 μ55 p0 q54).bind fun μ57 => opCall (opNA 1 μ57 (40 : Int32)) fun q59 μ60 => (opPR 3 18 μ60 p0 q59).bind fun μ62 => some μ62
set_option maxRecDepth 100000 in
theorem c_X3_init {F : dtM} (p0 : Nat) (μ : dtM) (h : f_X3_init p0 μ = some F) : dtMet yX3_init cX3_init 1 (none) 1 [.ref p0] μ (none) F := by
  refine dtMet.of (by decide +kernel) (Nat.le_of_ble_eq_true rfl) (show dtW yX3_init cX3_init 1 (none) 1 (none) F 0 [some (.ref p0)] [] μ from ?_)
  rw [f_X3_init] at h
  refine dr_aload_n p0 dX3_init_0 rfl ?_
  obtain ⟨_, hb1, h⟩ := dtBind h
  refine dr_objInit dX3_init_1 wt_83 wt_27 wt_28 (dtLt hb1) (Nat.le_of_ble_eq_true rfl) rfl ?_
  refine dr_aload_n p0 dX3_init_4 rfl ?_
  refine dr_iconst (4 : Int32) dX3_init_5 (by decide) ?_
  obtain ⟨μ2, e3, h⟩ := dtBind h
  refine dr_putI μ2 dX3_init_6 fl_RX3_9 rfl e3 ?_
  refine dr_aload_n p0 dX3_init_9 rfl ?_
  refine dr_bipush (7 : Int32) dX3_init_10 (by decide) ?_
  obtain ⟨q4, μ5, e6, h⟩ := dtCall h
  refine dr_newarray_l q4 μ5 dX3_init_12 wt_53 e6 ?_
  obtain ⟨μ7, e8, h⟩ := dtBind h
  refine dr_putRF μ7 dX3_init_14 fl_RX3_15 rfl rfl rfl e8 ?_
  refine dr_aload_n p0 dX3_init_17 rfl ?_
  refine dr_iconst (5 : Int32) dX3_init_18 (by decide) ?_
  obtain ⟨q9, μ10, e11, h⟩ := dtCall h
  refine dr_newarray_l q9 μ10 dX3_init_19 wt_53 e11 ?_
  obtain ⟨μ12, e13, h⟩ := dtBind h
  refine dr_putRF μ12 dX3_init_21 fl_RX3_19 rfl rfl rfl e13 ?_
  refine dr_aload_n p0 dX3_init_24 rfl ?_
  refine dr_bipush (10 : Int32) dX3_init_25 (by decide) ?_
  obtain ⟨q14, μ15, e16, h⟩ := dtCall h
  refine dr_newarray_i q14 μ15 dX3_init_27 wt_192 e16 ?_
  obtain ⟨μ17, e18, h⟩ := dtBind h
  refine dr_putRF μ17 dX3_init_29 fl_RX3_22 rfl rfl rfl e18 ?_
  refine dr_aload_n p0 dX3_init_32 rfl ?_
  refine dr_bipush (10 : Int32) dX3_init_33 (by decide) ?_
  obtain ⟨q19, μ20, e21, h⟩ := dtCall h
  refine dr_newarray_i q19 μ20 dX3_init_35 wt_192 e21 ?_
  obtain ⟨μ22, e23, h⟩ := dtBind h
  refine dr_putRF μ22 dX3_init_37 fl_RX3_26 rfl rfl rfl e23 ?_
  refine dr_aload_n p0 dX3_init_40 rfl ?_
  refine dr_bipush (10 : Int32) dX3_init_41 (by decide) ?_
  obtain ⟨q24, μ25, e26, h⟩ := dtCall h
  refine dr_newarray_i q24 μ25 dX3_init_43 wt_192 e26 ?_
  obtain ⟨μ27, e28, h⟩ := dtBind h
  refine dr_putRF μ27 dX3_init_45 fl_RX3_29 rfl rfl rfl e28 ?_
  refine dr_aload_n p0 dX3_init_48 rfl ?_
  refine dr_bipush (7 : Int32) dX3_init_49 (by decide) ?_
  obtain ⟨q29, μ30, e31, h⟩ := dtCall h
  refine dr_newarray_i q29 μ30 dX3_init_51 wt_192 e31 ?_
  obtain ⟨μ32, e33, h⟩ := dtBind h
  refine dr_putRF μ32 dX3_init_53 fl_RX3_32 rfl rfl rfl e33 ?_
  refine dr_aload_n p0 dX3_init_56 rfl ?_
  refine dr_bipush (28 : Int32) dX3_init_57 (by decide) ?_
  obtain ⟨q34, μ35, e36, h⟩ := dtCall h
  refine dr_newarray_i q34 μ35 dX3_init_59 wt_192 e36 ?_
  obtain ⟨μ37, e38, h⟩ := dtBind h
  refine dr_putRF μ37 dX3_init_61 fl_RX3_35 rfl rfl rfl e38 ?_
  refine dr_aload_n p0 dX3_init_64 rfl ?_
  refine dr_iconst (5 : Int32) dX3_init_65 (by decide) ?_
  obtain ⟨q39, μ40, e41, h⟩ := dtCall h
  refine dr_newarray_i q39 μ40 dX3_init_66 wt_192 e41 ?_
  obtain ⟨μ42, e43, h⟩ := dtBind h
  refine dr_putRF μ42 dX3_init_68 fl_RX3_38 rfl rfl rfl e43 ?_
  refine dr_aload_n p0 dX3_init_71 rfl ?_
  refine dr_iconst (5 : Int32) dX3_init_72 (by decide) ?_
  obtain ⟨q44, μ45, e46, h⟩ := dtCall h
  refine dr_newarray_i q44 μ45 dX3_init_73 wt_192 e46 ?_
  obtain ⟨μ47, e48, h⟩ := dtBind h
  refine dr_putRF μ47 dX3_init_75 fl_RX3_41 rfl rfl rfl e48 ?_
  refine dr_aload_n p0 dX3_init_78 rfl ?_
  refine dr_iconst (5 : Int32) dX3_init_79 (by decide) ?_
  obtain ⟨q49, μ50, e51, h⟩ := dtCall h
  refine dr_newarray_i q49 μ50 dX3_init_80 wt_192 e51 ?_
  obtain ⟨μ52, e53, h⟩ := dtBind h
  refine dr_putRF μ52 dX3_init_82 fl_RX3_44 rfl rfl rfl e53 ?_
  refine dr_aload_n p0 dX3_init_85 rfl ?_
  refine dr_iconst (5 : Int32) dX3_init_86 (by decide) ?_
  obtain ⟨q54, μ55, e56, h⟩ := dtCall h
  refine dr_newarray_i q54 μ55 dX3_init_87 wt_192 e56 ?_
  obtain ⟨μ57, e58, h⟩ := dtBind h
  refine dr_putRF μ57 dX3_init_89 fl_RX3_47 rfl rfl rfl e58 ?_
  refine dr_aload_n p0 dX3_init_92 rfl ?_
  refine dr_bipush (40 : Int32) dX3_init_93 (by decide) ?_
  obtain ⟨q59, μ60, e61, h⟩ := dtCall h
  refine dr_newarray_i q59 μ60 dX3_init_95 wt_192 e61 ?_
  obtain ⟨μ62, e63, h⟩ := dtBind h
  refine dr_putRF μ62 dX3_init_97 fl_RX3_50 rfl rfl rfl e63 ?_
  cases h
  exact dr_return dX3_init_100
/-! X3_clear -/
theorem dX3_clear_0 : decode cX3_clear 0 = .ok (.aload_n 0, 1) := by decide +kernel
theorem dX3_clear_1 : decode cX3_clear 1 = .ok (.iconst 0, 1) := by decide +kernel
theorem dX3_clear_2 : decode cX3_clear 2 = .ok (.putfield 53, 3) := by decide +kernel
theorem dX3_clear_5 : decode cX3_clear 5 = .ok (.aload_n 0, 1) := by decide +kernel
theorem dX3_clear_6 : decode cX3_clear 6 = .ok (.iconst 0, 1) := by decide +kernel
theorem dX3_clear_7 : decode cX3_clear 7 = .ok (.putfield 56, 3) := by decide +kernel
theorem dX3_clear_10 : decode cX3_clear 10 = .ok (.aload_n 0, 1) := by decide +kernel
theorem dX3_clear_11 : decode cX3_clear 11 = .ok (.iconst 0, 1) := by decide +kernel
theorem dX3_clear_12 : decode cX3_clear 12 = .ok (.putfield 59, 3) := by decide +kernel
theorem dX3_clear_15 : decode cX3_clear 15 = .ok (.aload_n 0, 1) := by decide +kernel
theorem dX3_clear_16 : decode cX3_clear 16 = .ok (.iconst 0, 1) := by decide +kernel
theorem dX3_clear_17 : decode cX3_clear 17 = .ok (.putfield 62, 3) := by decide +kernel
theorem dX3_clear_20 : decode cX3_clear 20 = .ok (.aload_n 0, 1) := by decide +kernel
theorem dX3_clear_21 : decode cX3_clear 21 = .ok (.iconst 4, 1) := by decide +kernel
theorem dX3_clear_22 : decode cX3_clear 22 = .ok (.putfield 9, 3) := by decide +kernel
theorem dX3_clear_25 : decode cX3_clear 25 = .ok (.aload_n 0, 1) := by decide +kernel
theorem dX3_clear_26 : decode cX3_clear 26 = .ok (.iconst 0, 1) := by decide +kernel
theorem dX3_clear_27 : decode cX3_clear 27 = .ok (.putfield 65, 3) := by decide +kernel
theorem dX3_clear_30 : decode cX3_clear 30 = .ok (.aload_n 0, 1) := by decide +kernel
theorem dX3_clear_31 : decode cX3_clear 31 = .ok (.iconst 0, 1) := by decide +kernel
theorem dX3_clear_32 : decode cX3_clear 32 = .ok (.putfield 68, 3) := by decide +kernel
theorem dX3_clear_35 : decode cX3_clear 35 = .ok (.return_, 1) := by decide +kernel
set_option maxRecDepth 100000 in
def f_X3_clear (p0 : Nat) (μ : dtM) : Option dtM :=
  (opPI 3 0 μ p0 (0 : Int32)).bind fun μ1 => (opPI 3 1 μ1 p0 (0 : Int32)).bind fun μ3 => (opPI 3 2 μ3 p0 (0 : Int32)).bind fun μ5 => (opPI 3 3 μ5 p0 (0 : Int32)).bind fun μ7 => (opPI 3 4 μ7 p0 (4 : Int32)).bind fun μ9 => (opPI 3 5 μ9 p0 (0 : Int32)).bind fun μ11 => (opPI 3 6 μ11 p0 (0 : Int32)).bind fun μ13 => some μ13
set_option maxRecDepth 100000 in
theorem c_X3_clear {F : dtM} (p0 : Nat) (μ : dtM) (h : f_X3_clear p0 μ = some F) : dtMet yX3_clear cX3_clear 1 (none) 1 [.ref p0] μ (none) F := by
  refine dtMet.of (by decide +kernel) (Nat.le_of_ble_eq_true rfl) (show dtW yX3_clear cX3_clear 1 (none) 1 (none) F 0 [some (.ref p0)] [] μ from ?_)
  rw [f_X3_clear] at h
  refine dr_aload_n p0 dX3_clear_0 rfl ?_
  refine dr_iconst (0 : Int32) dX3_clear_1 (by decide) ?_
  obtain ⟨μ1, e2, h⟩ := dtBind h
  refine dr_putI μ1 dX3_clear_2 fl_RX3_53 rfl e2 ?_
  refine dr_aload_n p0 dX3_clear_5 rfl ?_
  refine dr_iconst (0 : Int32) dX3_clear_6 (by decide) ?_
  obtain ⟨μ3, e4, h⟩ := dtBind h
  refine dr_putI μ3 dX3_clear_7 fl_RX3_56 rfl e4 ?_
  refine dr_aload_n p0 dX3_clear_10 rfl ?_
  refine dr_iconst (0 : Int32) dX3_clear_11 (by decide) ?_
  obtain ⟨μ5, e6, h⟩ := dtBind h
  refine dr_putI μ5 dX3_clear_12 fl_RX3_59 rfl e6 ?_
  refine dr_aload_n p0 dX3_clear_15 rfl ?_
  refine dr_iconst (0 : Int32) dX3_clear_16 (by decide) ?_
  obtain ⟨μ7, e8, h⟩ := dtBind h
  refine dr_putI μ7 dX3_clear_17 fl_RX3_62 rfl e8 ?_
  refine dr_aload_n p0 dX3_clear_20 rfl ?_
  refine dr_iconst (4 : Int32) dX3_clear_21 (by decide) ?_
  obtain ⟨μ9, e10, h⟩ := dtBind h
  refine dr_putI μ9 dX3_clear_22 fl_RX3_9 rfl e10 ?_
  refine dr_aload_n p0 dX3_clear_25 rfl ?_
  refine dr_iconst (0 : Int32) dX3_clear_26 (by decide) ?_
  obtain ⟨μ11, e12, h⟩ := dtBind h
  refine dr_putI μ11 dX3_clear_27 fl_RX3_65 rfl e12 ?_
  refine dr_aload_n p0 dX3_clear_30 rfl ?_
  refine dr_iconst (0 : Int32) dX3_clear_31 (by decide) ?_
  obtain ⟨μ13, e14, h⟩ := dtBind h
  refine dr_putI μ13 dX3_clear_32 fl_RX3_68 rfl e14 ?_
  cases h
  exact dr_return dX3_clear_35
/-! X3_copyFrom -/
theorem dX3_copyFrom_0 : decode cX3_copyFrom 0 = .ok (.aload_n 0, 1) := by decide +kernel
theorem dX3_copyFrom_1 : decode cX3_copyFrom 1 = .ok (.aload_n 1, 1) := by decide +kernel
theorem dX3_copyFrom_2 : decode cX3_copyFrom 2 = .ok (.getfield 53, 3) := by decide +kernel
theorem dX3_copyFrom_5 : decode cX3_copyFrom 5 = .ok (.putfield 53, 3) := by decide +kernel
theorem dX3_copyFrom_8 : decode cX3_copyFrom 8 = .ok (.aload_n 0, 1) := by decide +kernel
theorem dX3_copyFrom_9 : decode cX3_copyFrom 9 = .ok (.aload_n 1, 1) := by decide +kernel
theorem dX3_copyFrom_10 : decode cX3_copyFrom 10 = .ok (.getfield 56, 3) := by decide +kernel
theorem dX3_copyFrom_13 : decode cX3_copyFrom 13 = .ok (.putfield 56, 3) := by decide +kernel
theorem dX3_copyFrom_16 : decode cX3_copyFrom 16 = .ok (.aload_n 0, 1) := by decide +kernel
theorem dX3_copyFrom_17 : decode cX3_copyFrom 17 = .ok (.aload_n 1, 1) := by decide +kernel
theorem dX3_copyFrom_18 : decode cX3_copyFrom 18 = .ok (.getfield 59, 3) := by decide +kernel
theorem dX3_copyFrom_21 : decode cX3_copyFrom 21 = .ok (.putfield 59, 3) := by decide +kernel
theorem dX3_copyFrom_24 : decode cX3_copyFrom 24 = .ok (.aload_n 0, 1) := by decide +kernel
theorem dX3_copyFrom_25 : decode cX3_copyFrom 25 = .ok (.aload_n 1, 1) := by decide +kernel
theorem dX3_copyFrom_26 : decode cX3_copyFrom 26 = .ok (.getfield 62, 3) := by decide +kernel
theorem dX3_copyFrom_29 : decode cX3_copyFrom 29 = .ok (.putfield 62, 3) := by decide +kernel
theorem dX3_copyFrom_32 : decode cX3_copyFrom 32 = .ok (.aload_n 0, 1) := by decide +kernel
theorem dX3_copyFrom_33 : decode cX3_copyFrom 33 = .ok (.aload_n 1, 1) := by decide +kernel
theorem dX3_copyFrom_34 : decode cX3_copyFrom 34 = .ok (.getfield 9, 3) := by decide +kernel
theorem dX3_copyFrom_37 : decode cX3_copyFrom 37 = .ok (.putfield 9, 3) := by decide +kernel
theorem dX3_copyFrom_40 : decode cX3_copyFrom 40 = .ok (.aload_n 0, 1) := by decide +kernel
theorem dX3_copyFrom_41 : decode cX3_copyFrom 41 = .ok (.aload_n 1, 1) := by decide +kernel
theorem dX3_copyFrom_42 : decode cX3_copyFrom 42 = .ok (.getfield 65, 3) := by decide +kernel
theorem dX3_copyFrom_45 : decode cX3_copyFrom 45 = .ok (.putfield 65, 3) := by decide +kernel
theorem dX3_copyFrom_48 : decode cX3_copyFrom 48 = .ok (.aload_n 0, 1) := by decide +kernel
theorem dX3_copyFrom_49 : decode cX3_copyFrom 49 = .ok (.aload_n 1, 1) := by decide +kernel
theorem dX3_copyFrom_50 : decode cX3_copyFrom 50 = .ok (.getfield 68, 3) := by decide +kernel
theorem dX3_copyFrom_53 : decode cX3_copyFrom 53 = .ok (.putfield 68, 3) := by decide +kernel
theorem dX3_copyFrom_56 : decode cX3_copyFrom 56 = .ok (.aload_n 1, 1) := by decide +kernel
theorem dX3_copyFrom_57 : decode cX3_copyFrom 57 = .ok (.getfield 15, 3) := by decide +kernel
theorem dX3_copyFrom_60 : decode cX3_copyFrom 60 = .ok (.iconst 0, 1) := by decide +kernel
theorem dX3_copyFrom_61 : decode cX3_copyFrom 61 = .ok (.aload_n 0, 1) := by decide +kernel
theorem dX3_copyFrom_62 : decode cX3_copyFrom 62 = .ok (.getfield 15, 3) := by decide +kernel
theorem dX3_copyFrom_65 : decode cX3_copyFrom 65 = .ok (.iconst 0, 1) := by decide +kernel
theorem dX3_copyFrom_66 : decode cX3_copyFrom 66 = .ok (.aload_n 0, 1) := by decide +kernel
theorem dX3_copyFrom_67 : decode cX3_copyFrom 67 = .ok (.getfield 15, 3) := by decide +kernel
theorem dX3_copyFrom_70 : decode cX3_copyFrom 70 = .ok (.arraylength, 1) := by decide +kernel
theorem dX3_copyFrom_71 : decode cX3_copyFrom 71 = .ok (.invokestatic 71, 3) := by decide +kernel
theorem dX3_copyFrom_74 : decode cX3_copyFrom 74 = .ok (.aload_n 1, 1) := by decide +kernel
theorem dX3_copyFrom_75 : decode cX3_copyFrom 75 = .ok (.getfield 19, 3) := by decide +kernel
theorem dX3_copyFrom_78 : decode cX3_copyFrom 78 = .ok (.iconst 0, 1) := by decide +kernel
theorem dX3_copyFrom_79 : decode cX3_copyFrom 79 = .ok (.aload_n 0, 1) := by decide +kernel
theorem dX3_copyFrom_80 : decode cX3_copyFrom 80 = .ok (.getfield 19, 3) := by decide +kernel
theorem dX3_copyFrom_83 : decode cX3_copyFrom 83 = .ok (.iconst 0, 1) := by decide +kernel
theorem dX3_copyFrom_84 : decode cX3_copyFrom 84 = .ok (.aload_n 0, 1) := by decide +kernel
theorem dX3_copyFrom_85 : decode cX3_copyFrom 85 = .ok (.getfield 19, 3) := by decide +kernel
theorem dX3_copyFrom_88 : decode cX3_copyFrom 88 = .ok (.arraylength, 1) := by decide +kernel
theorem dX3_copyFrom_89 : decode cX3_copyFrom 89 = .ok (.invokestatic 71, 3) := by decide +kernel
theorem dX3_copyFrom_92 : decode cX3_copyFrom 92 = .ok (.aload_n 1, 1) := by decide +kernel
theorem dX3_copyFrom_93 : decode cX3_copyFrom 93 = .ok (.getfield 22, 3) := by decide +kernel
theorem dX3_copyFrom_96 : decode cX3_copyFrom 96 = .ok (.iconst 0, 1) := by decide +kernel
theorem dX3_copyFrom_97 : decode cX3_copyFrom 97 = .ok (.aload_n 0, 1) := by decide +kernel
theorem dX3_copyFrom_98 : decode cX3_copyFrom 98 = .ok (.getfield 22, 3) := by decide +kernel
theorem dX3_copyFrom_101 : decode cX3_copyFrom 101 = .ok (.iconst 0, 1) := by decide +kernel
theorem dX3_copyFrom_102 : decode cX3_copyFrom 102 = .ok (.aload_n 0, 1) := by decide +kernel
theorem dX3_copyFrom_103 : decode cX3_copyFrom 103 = .ok (.getfield 22, 3) := by decide +kernel
theorem dX3_copyFrom_106 : decode cX3_copyFrom 106 = .ok (.arraylength, 1) := by decide +kernel
theorem dX3_copyFrom_107 : decode cX3_copyFrom 107 = .ok (.invokestatic 71, 3) := by decide +kernel
theorem dX3_copyFrom_110 : decode cX3_copyFrom 110 = .ok (.aload_n 1, 1) := by decide +kernel
theorem dX3_copyFrom_111 : decode cX3_copyFrom 111 = .ok (.getfield 26, 3) := by decide +kernel
theorem dX3_copyFrom_114 : decode cX3_copyFrom 114 = .ok (.iconst 0, 1) := by decide +kernel
theorem dX3_copyFrom_115 : decode cX3_copyFrom 115 = .ok (.aload_n 0, 1) := by decide +kernel
theorem dX3_copyFrom_116 : decode cX3_copyFrom 116 = .ok (.getfield 26, 3) := by decide +kernel
theorem dX3_copyFrom_119 : decode cX3_copyFrom 119 = .ok (.iconst 0, 1) := by decide +kernel
theorem dX3_copyFrom_120 : decode cX3_copyFrom 120 = .ok (.aload_n 0, 1) := by decide +kernel
theorem dX3_copyFrom_121 : decode cX3_copyFrom 121 = .ok (.getfield 26, 3) := by decide +kernel
theorem dX3_copyFrom_124 : decode cX3_copyFrom 124 = .ok (.arraylength, 1) := by decide +kernel
theorem dX3_copyFrom_125 : decode cX3_copyFrom 125 = .ok (.invokestatic 71, 3) := by decide +kernel
theorem dX3_copyFrom_128 : decode cX3_copyFrom 128 = .ok (.aload_n 1, 1) := by decide +kernel
theorem dX3_copyFrom_129 : decode cX3_copyFrom 129 = .ok (.getfield 29, 3) := by decide +kernel
theorem dX3_copyFrom_132 : decode cX3_copyFrom 132 = .ok (.iconst 0, 1) := by decide +kernel
theorem dX3_copyFrom_133 : decode cX3_copyFrom 133 = .ok (.aload_n 0, 1) := by decide +kernel
theorem dX3_copyFrom_134 : decode cX3_copyFrom 134 = .ok (.getfield 29, 3) := by decide +kernel
theorem dX3_copyFrom_137 : decode cX3_copyFrom 137 = .ok (.iconst 0, 1) := by decide +kernel
theorem dX3_copyFrom_138 : decode cX3_copyFrom 138 = .ok (.aload_n 0, 1) := by decide +kernel
theorem dX3_copyFrom_139 : decode cX3_copyFrom 139 = .ok (.getfield 29, 3) := by decide +kernel
theorem dX3_copyFrom_142 : decode cX3_copyFrom 142 = .ok (.arraylength, 1) := by decide +kernel
theorem dX3_copyFrom_143 : decode cX3_copyFrom 143 = .ok (.invokestatic 71, 3) := by decide +kernel
theorem dX3_copyFrom_146 : decode cX3_copyFrom 146 = .ok (.aload_n 1, 1) := by decide +kernel
theorem dX3_copyFrom_147 : decode cX3_copyFrom 147 = .ok (.getfield 32, 3) := by decide +kernel
theorem dX3_copyFrom_150 : decode cX3_copyFrom 150 = .ok (.iconst 0, 1) := by decide +kernel
theorem dX3_copyFrom_151 : decode cX3_copyFrom 151 = .ok (.aload_n 0, 1) := by decide +kernel
theorem dX3_copyFrom_152 : decode cX3_copyFrom 152 = .ok (.getfield 32, 3) := by decide +kernel
theorem dX3_copyFrom_155 : decode cX3_copyFrom 155 = .ok (.iconst 0, 1) := by decide +kernel
theorem dX3_copyFrom_156 : decode cX3_copyFrom 156 = .ok (.aload_n 0, 1) := by decide +kernel
theorem dX3_copyFrom_157 : decode cX3_copyFrom 157 = .ok (.getfield 32, 3) := by decide +kernel
theorem dX3_copyFrom_160 : decode cX3_copyFrom 160 = .ok (.arraylength, 1) := by decide +kernel
theorem dX3_copyFrom_161 : decode cX3_copyFrom 161 = .ok (.invokestatic 71, 3) := by decide +kernel
theorem dX3_copyFrom_164 : decode cX3_copyFrom 164 = .ok (.aload_n 1, 1) := by decide +kernel
theorem dX3_copyFrom_165 : decode cX3_copyFrom 165 = .ok (.getfield 35, 3) := by decide +kernel
theorem dX3_copyFrom_168 : decode cX3_copyFrom 168 = .ok (.iconst 0, 1) := by decide +kernel
theorem dX3_copyFrom_169 : decode cX3_copyFrom 169 = .ok (.aload_n 0, 1) := by decide +kernel
theorem dX3_copyFrom_170 : decode cX3_copyFrom 170 = .ok (.getfield 35, 3) := by decide +kernel
theorem dX3_copyFrom_173 : decode cX3_copyFrom 173 = .ok (.iconst 0, 1) := by decide +kernel
theorem dX3_copyFrom_174 : decode cX3_copyFrom 174 = .ok (.aload_n 0, 1) := by decide +kernel
theorem dX3_copyFrom_175 : decode cX3_copyFrom 175 = .ok (.getfield 35, 3) := by decide +kernel
theorem dX3_copyFrom_178 : decode cX3_copyFrom 178 = .ok (.arraylength, 1) := by decide +kernel
theorem dX3_copyFrom_179 : decode cX3_copyFrom 179 = .ok (.invokestatic 71, 3) := by decide +kernel
theorem dX3_copyFrom_182 : decode cX3_copyFrom 182 = .ok (.aload_n 1, 1) := by decide +kernel
theorem dX3_copyFrom_183 : decode cX3_copyFrom 183 = .ok (.getfield 38, 3) := by decide +kernel
theorem dX3_copyFrom_186 : decode cX3_copyFrom 186 = .ok (.iconst 0, 1) := by decide +kernel
theorem dX3_copyFrom_187 : decode cX3_copyFrom 187 = .ok (.aload_n 0, 1) := by decide +kernel
theorem dX3_copyFrom_188 : decode cX3_copyFrom 188 = .ok (.getfield 38, 3) := by decide +kernel
theorem dX3_copyFrom_191 : decode cX3_copyFrom 191 = .ok (.iconst 0, 1) := by decide +kernel
theorem dX3_copyFrom_192 : decode cX3_copyFrom 192 = .ok (.aload_n 0, 1) := by decide +kernel
theorem dX3_copyFrom_193 : decode cX3_copyFrom 193 = .ok (.getfield 38, 3) := by decide +kernel
theorem dX3_copyFrom_196 : decode cX3_copyFrom 196 = .ok (.arraylength, 1) := by decide +kernel
theorem dX3_copyFrom_197 : decode cX3_copyFrom 197 = .ok (.invokestatic 71, 3) := by decide +kernel
theorem dX3_copyFrom_200 : decode cX3_copyFrom 200 = .ok (.aload_n 1, 1) := by decide +kernel
theorem dX3_copyFrom_201 : decode cX3_copyFrom 201 = .ok (.getfield 41, 3) := by decide +kernel
theorem dX3_copyFrom_204 : decode cX3_copyFrom 204 = .ok (.iconst 0, 1) := by decide +kernel
theorem dX3_copyFrom_205 : decode cX3_copyFrom 205 = .ok (.aload_n 0, 1) := by decide +kernel
theorem dX3_copyFrom_206 : decode cX3_copyFrom 206 = .ok (.getfield 41, 3) := by decide +kernel
theorem dX3_copyFrom_209 : decode cX3_copyFrom 209 = .ok (.iconst 0, 1) := by decide +kernel
theorem dX3_copyFrom_210 : decode cX3_copyFrom 210 = .ok (.aload_n 0, 1) := by decide +kernel
theorem dX3_copyFrom_211 : decode cX3_copyFrom 211 = .ok (.getfield 41, 3) := by decide +kernel
theorem dX3_copyFrom_214 : decode cX3_copyFrom 214 = .ok (.arraylength, 1) := by decide +kernel
theorem dX3_copyFrom_215 : decode cX3_copyFrom 215 = .ok (.invokestatic 71, 3) := by decide +kernel
theorem dX3_copyFrom_218 : decode cX3_copyFrom 218 = .ok (.aload_n 1, 1) := by decide +kernel
theorem dX3_copyFrom_219 : decode cX3_copyFrom 219 = .ok (.getfield 44, 3) := by decide +kernel
theorem dX3_copyFrom_222 : decode cX3_copyFrom 222 = .ok (.iconst 0, 1) := by decide +kernel
theorem dX3_copyFrom_223 : decode cX3_copyFrom 223 = .ok (.aload_n 0, 1) := by decide +kernel
theorem dX3_copyFrom_224 : decode cX3_copyFrom 224 = .ok (.getfield 44, 3) := by decide +kernel
theorem dX3_copyFrom_227 : decode cX3_copyFrom 227 = .ok (.iconst 0, 1) := by decide +kernel
theorem dX3_copyFrom_228 : decode cX3_copyFrom 228 = .ok (.aload_n 0, 1) := by decide +kernel
theorem dX3_copyFrom_229 : decode cX3_copyFrom 229 = .ok (.getfield 44, 3) := by decide +kernel
theorem dX3_copyFrom_232 : decode cX3_copyFrom 232 = .ok (.arraylength, 1) := by decide +kernel
theorem dX3_copyFrom_233 : decode cX3_copyFrom 233 = .ok (.invokestatic 71, 3) := by decide +kernel
theorem dX3_copyFrom_236 : decode cX3_copyFrom 236 = .ok (.aload_n 1, 1) := by decide +kernel
theorem dX3_copyFrom_237 : decode cX3_copyFrom 237 = .ok (.getfield 47, 3) := by decide +kernel
theorem dX3_copyFrom_240 : decode cX3_copyFrom 240 = .ok (.iconst 0, 1) := by decide +kernel
theorem dX3_copyFrom_241 : decode cX3_copyFrom 241 = .ok (.aload_n 0, 1) := by decide +kernel
theorem dX3_copyFrom_242 : decode cX3_copyFrom 242 = .ok (.getfield 47, 3) := by decide +kernel
theorem dX3_copyFrom_245 : decode cX3_copyFrom 245 = .ok (.iconst 0, 1) := by decide +kernel
theorem dX3_copyFrom_246 : decode cX3_copyFrom 246 = .ok (.aload_n 0, 1) := by decide +kernel
theorem dX3_copyFrom_247 : decode cX3_copyFrom 247 = .ok (.getfield 47, 3) := by decide +kernel
theorem dX3_copyFrom_250 : decode cX3_copyFrom 250 = .ok (.arraylength, 1) := by decide +kernel
theorem dX3_copyFrom_251 : decode cX3_copyFrom 251 = .ok (.invokestatic 71, 3) := by decide +kernel
theorem dX3_copyFrom_254 : decode cX3_copyFrom 254 = .ok (.aload_n 1, 1) := by decide +kernel
theorem dX3_copyFrom_255 : decode cX3_copyFrom 255 = .ok (.getfield 50, 3) := by decide +kernel
theorem dX3_copyFrom_258 : decode cX3_copyFrom 258 = .ok (.iconst 0, 1) := by decide +kernel
theorem dX3_copyFrom_259 : decode cX3_copyFrom 259 = .ok (.aload_n 0, 1) := by decide +kernel
theorem dX3_copyFrom_260 : decode cX3_copyFrom 260 = .ok (.getfield 50, 3) := by decide +kernel
theorem dX3_copyFrom_263 : decode cX3_copyFrom 263 = .ok (.iconst 0, 1) := by decide +kernel
theorem dX3_copyFrom_264 : decode cX3_copyFrom 264 = .ok (.aload_n 0, 1) := by decide +kernel
theorem dX3_copyFrom_265 : decode cX3_copyFrom 265 = .ok (.getfield 50, 3) := by decide +kernel
theorem dX3_copyFrom_268 : decode cX3_copyFrom 268 = .ok (.arraylength, 1) := by decide +kernel
theorem dX3_copyFrom_269 : decode cX3_copyFrom 269 = .ok (.invokestatic 71, 3) := by decide +kernel
theorem dX3_copyFrom_272 : decode cX3_copyFrom 272 = .ok (.return_, 1) := by decide +kernel
set_option maxRecDepth 100000 in
def f_X3_copyFrom (p0 : Nat) (p1 : Nat) (μ : dtM) : Option dtM :=
  (opGI 3 0 μ p1).bind fun x1 => (opPI 3 0 μ p0 x1).bind fun μ3 => (opGI 3 1 μ3 p1).bind fun x5 => (opPI 3 1 μ3 p0 x5).bind fun μ7 => (opGI 3 2 μ7 p1).bind fun x9 => (opPI 3 2 μ7 p0 x9).bind fun μ11 => (opGI 3 3 μ11 p1).bind fun x13 => (opPI 3 3 μ11 p0 x13).bind fun μ15 => (opGI 3 4 μ15 p1).bind fun x17 => (opPI 3 4 μ15 p0 x17).bind fun μ19 => (opGI 3 5 μ19 p1).bind fun x21 => (opPI 3 5 μ19 p0 x21).bind fun μ23 => (opGI 3 6 μ23 p1).bind fun x25 => (opPI 3 6 μ23 p0 x25).bind fun μ27 => (opGR 3 7 μ27 p1).bind fun x29 => (opGR 3 7 μ27 p0).bind fun x31 => (opGR 3 7 μ27 p0).bind fun x33 => (opAL μ27 x33).bind fun x35 => (opCJ μ27 x29 (0 : Int32) x31 (0 : Int32) x35).bind fun μ37 => (opGR 3 8 μ37 p1).bind fun x39 => (opGR 3 8 μ37 p0).bind fun x41 => (opGR 3 8 μ37 p0).bind fun x43 => (opAL μ37 x43).bind fun x45 => (opCJ μ37 x39 (0 : Int32) x41 (0 : Int32) x45).bind fun μ47 => (opGR 3 9 μ47 p1).bind fun x49 => (opGR 3 9 μ47 p0).bind fun x51 => (opGR 3 9 μ47 p0).bind fun x53 => (opAL μ47 x53).bind fun x55 => (opCI μ47 x49 (0 : Int32) x51 (0 : Int32) x55).bind fun μ57 => (opGR 3 10 μ57 p1).bind fun x59 => (opGR 3 10 μ57 p0).bind fun x61 => (opGR 3 10 μ57 p0).bind fun x63 => (opAL μ57 x63).bind fun x65 => (opCI μ57 x59 (0 : Int32) x61 (0 : Int32) x65).bind fun μ67 => (opGR 3 11 μ67 p1).bind fun x69 => (opGR 3 11 μ67 p0).bind fun x71 => (opGR 3 11 μ67 p0).bind fun x73 => (opAL μ67 x73).bind fun x75 => (opCI μ67 x69 (0 : Int32) x71 (0 : Int32) x75).bind fun μ77 => (opGR 3 12 μ77 p1).bind fun x79 => (opGR 3 12 μ77 p0).bind fun x81 => (opGR 3 12 μ77 p0).bind fun x83 => (opAL μ77 x83).bind fun x85 => (opCI μ77 x79 (0 : Int32) x81 (0 : Int32) x85).bind fun μ87 => (opGR 3 13 μ87 p1).bind fun x89 => (opGR 3 13 μ87 p0).bind fun x91 => (opGR 3 13 μ87 p0).bind fun x93 => (opAL μ87 x93).bind fun x95 => (opCI μ87 x89 (0 : Int32) x91 (0 : Int32) x95).bind fun μ97 => (opGR 3 14 μ97 p1).bind fun x99 => (opGR 3 14 μ97 p0).bind fun x101 => (opGR 3 14 μ97 p0).bind fun x103 => (opAL μ97 x103).bind fun x105 => (opCI μ97 x99 (0 : Int32) x101 (0 : Int32) x105).bind fun μ107 => (opGR 3 15 μ107 p1).bind fun x109 => (opGR 3 15 μ107 p0).bind fun x111 => (opGR 3 15 μ107 p0).bind fun x113 => (opAL μ107 x113).bind fun x115 => (opCI μ107 x109 (0 : Int32) x111 (0 : Int32) x115).bind fun μ117 => (opGR 3 16 μ117 p1).bind fun x119 => (opGR 3 16 μ117 p0).bind fun x121 => (opGR 3 16 μ117 p0).bind fun x123 => (opAL μ117 x123).bind fun x125 => (opCI μ117 x119 (0 : Int32) x121 (0 : Int32) x125).bind fun μ127 => (opGR 3 17 μ127 p1).bind fun x129 => (opGR 3 17 μ127 p0).bind fun x131 => (opGR 3 17 μ127 p0).bind fun x133 => (opAL μ127 x133).bind fun x135 => (opCI μ127 x129 (0 : Int32) x131 (0 : Int32) x135).bind fun μ137 => (opGR 3 18 μ137 p1).bind fun x139 => (opGR 3 18 μ137 p0).bind fun x141 => (opGR 3 18 μ137 p0).bind fun x143 => (opAL μ137 x143).bind fun x145 => (opCI μ137 x139 (0 : Int32) x141 (0 : Int32) x145).bind fun μ147 => some μ147
set_option maxRecDepth 100000 in
theorem c_X3_copyFrom {F : dtM} (p0 : Nat) (p1 : Nat) (μ : dtM) (h : f_X3_copyFrom p0 p1 μ = some F) : dtMet yX3_copyFrom cX3_copyFrom 2 (none) 1 [.ref p0, .ref p1] μ (none) F := by
  refine dtMet.of (by decide +kernel) (Nat.le_of_ble_eq_true rfl) (show dtW yX3_copyFrom cX3_copyFrom 2 (none) 1 (none) F 0 [some (.ref p0), some (.ref p1)] [] μ from ?_)
  rw [f_X3_copyFrom] at h
  refine dr_aload_n p0 dX3_copyFrom_0 rfl ?_
  refine dr_aload_n p1 dX3_copyFrom_1 rfl ?_
  obtain ⟨x1, e2, h⟩ := dtBind h
  refine dr_getI x1 dX3_copyFrom_2 fl_RX3_53 e2 ?_
  obtain ⟨μ3, e4, h⟩ := dtBind h
  refine dr_putI μ3 dX3_copyFrom_5 fl_RX3_53 rfl e4 ?_
  refine dr_aload_n p0 dX3_copyFrom_8 rfl ?_
  refine dr_aload_n p1 dX3_copyFrom_9 rfl ?_
  obtain ⟨x5, e6, h⟩ := dtBind h
  refine dr_getI x5 dX3_copyFrom_10 fl_RX3_56 e6 ?_
  obtain ⟨μ7, e8, h⟩ := dtBind h
  refine dr_putI μ7 dX3_copyFrom_13 fl_RX3_56 rfl e8 ?_
  refine dr_aload_n p0 dX3_copyFrom_16 rfl ?_
  refine dr_aload_n p1 dX3_copyFrom_17 rfl ?_
  obtain ⟨x9, e10, h⟩ := dtBind h
  refine dr_getI x9 dX3_copyFrom_18 fl_RX3_59 e10 ?_
  obtain ⟨μ11, e12, h⟩ := dtBind h
  refine dr_putI μ11 dX3_copyFrom_21 fl_RX3_59 rfl e12 ?_
  refine dr_aload_n p0 dX3_copyFrom_24 rfl ?_
  refine dr_aload_n p1 dX3_copyFrom_25 rfl ?_
  obtain ⟨x13, e14, h⟩ := dtBind h
  refine dr_getI x13 dX3_copyFrom_26 fl_RX3_62 e14 ?_
  obtain ⟨μ15, e16, h⟩ := dtBind h
  refine dr_putI μ15 dX3_copyFrom_29 fl_RX3_62 rfl e16 ?_
  refine dr_aload_n p0 dX3_copyFrom_32 rfl ?_
  refine dr_aload_n p1 dX3_copyFrom_33 rfl ?_
  obtain ⟨x17, e18, h⟩ := dtBind h
  refine dr_getI x17 dX3_copyFrom_34 fl_RX3_9 e18 ?_
  obtain ⟨μ19, e20, h⟩ := dtBind h
  refine dr_putI μ19 dX3_copyFrom_37 fl_RX3_9 rfl e20 ?_
  refine dr_aload_n p0 dX3_copyFrom_40 rfl ?_
  refine dr_aload_n p1 dX3_copyFrom_41 rfl ?_
  obtain ⟨x21, e22, h⟩ := dtBind h
  refine dr_getI x21 dX3_copyFrom_42 fl_RX3_65 e22 ?_
  obtain ⟨μ23, e24, h⟩ := dtBind h
  refine dr_putI μ23 dX3_copyFrom_45 fl_RX3_65 rfl e24 ?_
  refine dr_aload_n p0 dX3_copyFrom_48 rfl ?_
  refine dr_aload_n p1 dX3_copyFrom_49 rfl ?_
  obtain ⟨x25, e26, h⟩ := dtBind h
  refine dr_getI x25 dX3_copyFrom_50 fl_RX3_68 e26 ?_
  obtain ⟨μ27, e28, h⟩ := dtBind h
  refine dr_putI μ27 dX3_copyFrom_53 fl_RX3_68 rfl e28 ?_
  refine dr_aload_n p1 dX3_copyFrom_56 rfl ?_
  obtain ⟨x29, e30, h⟩ := dtBind h
  refine dr_getR x29 dX3_copyFrom_57 fl_RX3_15 e30 ?_
  refine dr_iconst (0 : Int32) dX3_copyFrom_60 (by decide) ?_
  refine dr_aload_n p0 dX3_copyFrom_61 rfl ?_
  obtain ⟨x31, e32, h⟩ := dtBind h
  refine dr_getR x31 dX3_copyFrom_62 fl_RX3_15 e32 ?_
  refine dr_iconst (0 : Int32) dX3_copyFrom_65 (by decide) ?_
  refine dr_aload_n p0 dX3_copyFrom_66 rfl ?_
  obtain ⟨x33, e34, h⟩ := dtBind h
  refine dr_getR x33 dX3_copyFrom_67 fl_RX3_15 e34 ?_
  obtain ⟨x35, e36, h⟩ := dtBind h
  refine dr_arraylength x35 dX3_copyFrom_70 e36 ?_
  obtain ⟨μ37, e38, h⟩ := dtBind h
  refine dr_copy_l μ37 dX3_copyFrom_71 wt_1323 wt_522 wt_521 wt_14 (Nat.le_of_ble_eq_true rfl) rfl e38 ?_
  refine dr_aload_n p1 dX3_copyFrom_74 rfl ?_
  obtain ⟨x39, e40, h⟩ := dtBind h
  refine dr_getR x39 dX3_copyFrom_75 fl_RX3_19 e40 ?_
  refine dr_iconst (0 : Int32) dX3_copyFrom_78 (by decide) ?_
  refine dr_aload_n p0 dX3_copyFrom_79 rfl ?_
  obtain ⟨x41, e42, h⟩ := dtBind h
  refine dr_getR x41 dX3_copyFrom_80 fl_RX3_19 e42 ?_
  refine dr_iconst (0 : Int32) dX3_copyFrom_83 (by decide) ?_
  refine dr_aload_n p0 dX3_copyFrom_84 rfl ?_
  obtain ⟨x43, e44, h⟩ := dtBind h
  refine dr_getR x43 dX3_copyFrom_85 fl_RX3_19 e44 ?_
  obtain ⟨x45, e46, h⟩ := dtBind h
  refine dr_arraylength x45 dX3_copyFrom_88 e46 ?_
  obtain ⟨μ47, e48, h⟩ := dtBind h
  refine dr_copy_l μ47 dX3_copyFrom_89 wt_1323 wt_522 wt_521 wt_14 (Nat.le_of_ble_eq_true rfl) rfl e48 ?_
  refine dr_aload_n p1 dX3_copyFrom_92 rfl ?_
  obtain ⟨x49, e50, h⟩ := dtBind h
  refine dr_getR x49 dX3_copyFrom_93 fl_RX3_22 e50 ?_
  refine dr_iconst (0 : Int32) dX3_copyFrom_96 (by decide) ?_
  refine dr_aload_n p0 dX3_copyFrom_97 rfl ?_
  obtain ⟨x51, e52, h⟩ := dtBind h
  refine dr_getR x51 dX3_copyFrom_98 fl_RX3_22 e52 ?_
  refine dr_iconst (0 : Int32) dX3_copyFrom_101 (by decide) ?_
  refine dr_aload_n p0 dX3_copyFrom_102 rfl ?_
  obtain ⟨x53, e54, h⟩ := dtBind h
  refine dr_getR x53 dX3_copyFrom_103 fl_RX3_22 e54 ?_
  obtain ⟨x55, e56, h⟩ := dtBind h
  refine dr_arraylength x55 dX3_copyFrom_106 e56 ?_
  obtain ⟨μ57, e58, h⟩ := dtBind h
  refine dr_copy_i μ57 dX3_copyFrom_107 wt_1323 wt_522 wt_521 wt_14 (Nat.le_of_ble_eq_true rfl) rfl e58 ?_
  refine dr_aload_n p1 dX3_copyFrom_110 rfl ?_
  obtain ⟨x59, e60, h⟩ := dtBind h
  refine dr_getR x59 dX3_copyFrom_111 fl_RX3_26 e60 ?_
  refine dr_iconst (0 : Int32) dX3_copyFrom_114 (by decide) ?_
  refine dr_aload_n p0 dX3_copyFrom_115 rfl ?_
  obtain ⟨x61, e62, h⟩ := dtBind h
  refine dr_getR x61 dX3_copyFrom_116 fl_RX3_26 e62 ?_
  refine dr_iconst (0 : Int32) dX3_copyFrom_119 (by decide) ?_
  refine dr_aload_n p0 dX3_copyFrom_120 rfl ?_
  obtain ⟨x63, e64, h⟩ := dtBind h
  refine dr_getR x63 dX3_copyFrom_121 fl_RX3_26 e64 ?_
  obtain ⟨x65, e66, h⟩ := dtBind h
  refine dr_arraylength x65 dX3_copyFrom_124 e66 ?_
  obtain ⟨μ67, e68, h⟩ := dtBind h
  refine dr_copy_i μ67 dX3_copyFrom_125 wt_1323 wt_522 wt_521 wt_14 (Nat.le_of_ble_eq_true rfl) rfl e68 ?_
  refine dr_aload_n p1 dX3_copyFrom_128 rfl ?_
  obtain ⟨x69, e70, h⟩ := dtBind h
  refine dr_getR x69 dX3_copyFrom_129 fl_RX3_29 e70 ?_
  refine dr_iconst (0 : Int32) dX3_copyFrom_132 (by decide) ?_
  refine dr_aload_n p0 dX3_copyFrom_133 rfl ?_
  obtain ⟨x71, e72, h⟩ := dtBind h
  refine dr_getR x71 dX3_copyFrom_134 fl_RX3_29 e72 ?_
  refine dr_iconst (0 : Int32) dX3_copyFrom_137 (by decide) ?_
  refine dr_aload_n p0 dX3_copyFrom_138 rfl ?_
  obtain ⟨x73, e74, h⟩ := dtBind h
  refine dr_getR x73 dX3_copyFrom_139 fl_RX3_29 e74 ?_
  obtain ⟨x75, e76, h⟩ := dtBind h
  refine dr_arraylength x75 dX3_copyFrom_142 e76 ?_
  obtain ⟨μ77, e78, h⟩ := dtBind h
  refine dr_copy_i μ77 dX3_copyFrom_143 wt_1323 wt_522 wt_521 wt_14 (Nat.le_of_ble_eq_true rfl) rfl e78 ?_
  refine dr_aload_n p1 dX3_copyFrom_146 rfl ?_
  obtain ⟨x79, e80, h⟩ := dtBind h
  refine dr_getR x79 dX3_copyFrom_147 fl_RX3_32 e80 ?_
  refine dr_iconst (0 : Int32) dX3_copyFrom_150 (by decide) ?_
  refine dr_aload_n p0 dX3_copyFrom_151 rfl ?_
  obtain ⟨x81, e82, h⟩ := dtBind h
  refine dr_getR x81 dX3_copyFrom_152 fl_RX3_32 e82 ?_
  refine dr_iconst (0 : Int32) dX3_copyFrom_155 (by decide) ?_
  refine dr_aload_n p0 dX3_copyFrom_156 rfl ?_
  obtain ⟨x83, e84, h⟩ := dtBind h
  refine dr_getR x83 dX3_copyFrom_157 fl_RX3_32 e84 ?_
  obtain ⟨x85, e86, h⟩ := dtBind h
  refine dr_arraylength x85 dX3_copyFrom_160 e86 ?_
  obtain ⟨μ87, e88, h⟩ := dtBind h
  refine dr_copy_i μ87 dX3_copyFrom_161 wt_1323 wt_522 wt_521 wt_14 (Nat.le_of_ble_eq_true rfl) rfl e88 ?_
  refine dr_aload_n p1 dX3_copyFrom_164 rfl ?_
  obtain ⟨x89, e90, h⟩ := dtBind h
  refine dr_getR x89 dX3_copyFrom_165 fl_RX3_35 e90 ?_
  refine dr_iconst (0 : Int32) dX3_copyFrom_168 (by decide) ?_
  refine dr_aload_n p0 dX3_copyFrom_169 rfl ?_
  obtain ⟨x91, e92, h⟩ := dtBind h
  refine dr_getR x91 dX3_copyFrom_170 fl_RX3_35 e92 ?_
  refine dr_iconst (0 : Int32) dX3_copyFrom_173 (by decide) ?_
  refine dr_aload_n p0 dX3_copyFrom_174 rfl ?_
  obtain ⟨x93, e94, h⟩ := dtBind h
  refine dr_getR x93 dX3_copyFrom_175 fl_RX3_35 e94 ?_
  obtain ⟨x95, e96, h⟩ := dtBind h
  refine dr_arraylength x95 dX3_copyFrom_178 e96 ?_
  obtain ⟨μ97, e98, h⟩ := dtBind h
  refine dr_copy_i μ97 dX3_copyFrom_179 wt_1323 wt_522 wt_521 wt_14 (Nat.le_of_ble_eq_true rfl) rfl e98 ?_
  refine dr_aload_n p1 dX3_copyFrom_182 rfl ?_
  obtain ⟨x99, e100, h⟩ := dtBind h
  refine dr_getR x99 dX3_copyFrom_183 fl_RX3_38 e100 ?_
  refine dr_iconst (0 : Int32) dX3_copyFrom_186 (by decide) ?_
  refine dr_aload_n p0 dX3_copyFrom_187 rfl ?_
  obtain ⟨x101, e102, h⟩ := dtBind h
  refine dr_getR x101 dX3_copyFrom_188 fl_RX3_38 e102 ?_
  refine dr_iconst (0 : Int32) dX3_copyFrom_191 (by decide) ?_
  refine dr_aload_n p0 dX3_copyFrom_192 rfl ?_
  obtain ⟨x103, e104, h⟩ := dtBind h
  refine dr_getR x103 dX3_copyFrom_193 fl_RX3_38 e104 ?_
  obtain ⟨x105, e106, h⟩ := dtBind h
  refine dr_arraylength x105 dX3_copyFrom_196 e106 ?_
  obtain ⟨μ107, e108, h⟩ := dtBind h
  refine dr_copy_i μ107 dX3_copyFrom_197 wt_1323 wt_522 wt_521 wt_14 (Nat.le_of_ble_eq_true rfl) rfl e108 ?_
  refine dr_aload_n p1 dX3_copyFrom_200 rfl ?_
  obtain ⟨x109, e110, h⟩ := dtBind h
  refine dr_getR x109 dX3_copyFrom_201 fl_RX3_41 e110 ?_
  refine dr_iconst (0 : Int32) dX3_copyFrom_204 (by decide) ?_
  refine dr_aload_n p0 dX3_copyFrom_205 rfl ?_
  obtain ⟨x111, e112, h⟩ := dtBind h
  refine dr_getR x111 dX3_copyFrom_206 fl_RX3_41 e112 ?_
  refine dr_iconst (0 : Int32) dX3_copyFrom_209 (by decide) ?_
  refine dr_aload_n p0 dX3_copyFrom_210 rfl ?_
  obtain ⟨x113, e114, h⟩ := dtBind h
  refine dr_getR x113 dX3_copyFrom_211 fl_RX3_41 e114 ?_
  obtain ⟨x115, e116, h⟩ := dtBind h
  refine dr_arraylength x115 dX3_copyFrom_214 e116 ?_
  obtain ⟨μ117, e118, h⟩ := dtBind h
  refine dr_copy_i μ117 dX3_copyFrom_215 wt_1323 wt_522 wt_521 wt_14 (Nat.le_of_ble_eq_true rfl) rfl e118 ?_
  refine dr_aload_n p1 dX3_copyFrom_218 rfl ?_
  obtain ⟨x119, e120, h⟩ := dtBind h
  refine dr_getR x119 dX3_copyFrom_219 fl_RX3_44 e120 ?_
  refine dr_iconst (0 : Int32) dX3_copyFrom_222 (by decide) ?_
  refine dr_aload_n p0 dX3_copyFrom_223 rfl ?_
  obtain ⟨x121, e122, h⟩ := dtBind h
  refine dr_getR x121 dX3_copyFrom_224 fl_RX3_44 e122 ?_
  refine dr_iconst (0 : Int32) dX3_copyFrom_227 (by decide) ?_
  refine dr_aload_n p0 dX3_copyFrom_228 rfl ?_
  obtain ⟨x123, e124, h⟩ := dtBind h
  refine dr_getR x123 dX3_copyFrom_229 fl_RX3_44 e124 ?_
  obtain ⟨x125, e126, h⟩ := dtBind h
  refine dr_arraylength x125 dX3_copyFrom_232 e126 ?_
  obtain ⟨μ127, e128, h⟩ := dtBind h
  refine dr_copy_i μ127 dX3_copyFrom_233 wt_1323 wt_522 wt_521 wt_14 (Nat.le_of_ble_eq_true rfl) rfl e128 ?_
  refine dr_aload_n p1 dX3_copyFrom_236 rfl ?_
  obtain ⟨x129, e130, h⟩ := dtBind h
  refine dr_getR x129 dX3_copyFrom_237 fl_RX3_47 e130 ?_
  refine dr_iconst (0 : Int32) dX3_copyFrom_240 (by decide) ?_
  refine dr_aload_n p0 dX3_copyFrom_241 rfl ?_
  obtain ⟨x131, e132, h⟩ := dtBind h
  refine dr_getR x131 dX3_copyFrom_242 fl_RX3_47 e132 ?_
  refine dr_iconst (0 : Int32) dX3_copyFrom_245 (by decide) ?_
  refine dr_aload_n p0 dX3_copyFrom_246 rfl ?_
  obtain ⟨x133, e134, h⟩ := dtBind h
  refine dr_getR x133 dX3_copyFrom_247 fl_RX3_47 e134 ?_
  obtain ⟨x135, e136, h⟩ := dtBind h
  refine dr_arraylength x135 dX3_copyFrom_250 e136 ?_
  obtain ⟨μ137, e138, h⟩ := dtBind h
  refine dr_copy_i μ137 dX3_copyFrom_251 wt_1323 wt_522 wt_521 wt_14 (Nat.le_of_ble_eq_true rfl) rfl e138 ?_
  refine dr_aload_n p1 dX3_copyFrom_254 rfl ?_
  obtain ⟨x139, e140, h⟩ := dtBind h
  refine dr_getR x139 dX3_copyFrom_255 fl_RX3_50 e140 ?_
  refine dr_iconst (0 : Int32) dX3_copyFrom_258 (by decide) ?_
  refine dr_aload_n p0 dX3_copyFrom_259 rfl ?_
  obtain ⟨x141, e142, h⟩ := dtBind h
  refine dr_getR x141 dX3_copyFrom_260 fl_RX3_50 e142 ?_
  refine dr_iconst (0 : Int32) dX3_copyFrom_263 (by decide) ?_
  refine dr_aload_n p0 dX3_copyFrom_264 rfl ?_
  obtain ⟨x143, e144, h⟩ := dtBind h
  refine dr_getR x143 dX3_copyFrom_265 fl_RX3_50 e144 ?_
  obtain ⟨x145, e146, h⟩ := dtBind h
  refine dr_arraylength x145 dX3_copyFrom_268 e146 ?_
  obtain ⟨μ147, e148, h⟩ := dtBind h
  refine dr_copy_i μ147 dX3_copyFrom_269 wt_1323 wt_522 wt_521 wt_14 (Nat.le_of_ble_eq_true rfl) rfl e148 ?_
  cases h
  exact dr_return dX3_copyFrom_272
