/-! X12_ahead -/
theorem dX12_ahead_0 : decode cX12_ahead 0 = .ok (.aload_n 0, 1) := by decide +kernel
theorem dX12_ahead_1 : decode cX12_ahead 1 = .ok (.aload_n 0, 1) := by decide +kernel
theorem dX12_ahead_2 : decode cX12_ahead 2 = .ok (.getfield 126, 3) := by decide +kernel
theorem dX12_ahead_5 : decode cX12_ahead 5 = .ok (.invokevirtual 129, 3) := by decide +kernel
theorem dX12_ahead_8 : decode cX12_ahead 8 = .ok (.bipush 32, 2) := by decide +kernel
theorem dX12_ahead_10 : decode cX12_ahead 10 = .ok (.if_icmp .eq 16, 3) := by decide +kernel
theorem dX12_ahead_13 : decode cX12_ahead 13 = .ok (.aload_n 0, 1) := by decide +kernel
theorem dX12_ahead_14 : decode cX12_ahead 14 = .ok (.aload_n 0, 1) := by decide +kernel
theorem dX12_ahead_15 : decode cX12_ahead 15 = .ok (.getfield 126, 3) := by decide +kernel
theorem dX12_ahead_18 : decode cX12_ahead 18 = .ok (.invokevirtual 129, 3) := by decide +kernel
theorem dX12_ahead_21 : decode cX12_ahead 21 = .ok (.bipush 10, 2) := by decide +kernel
theorem dX12_ahead_23 : decode cX12_ahead 23 = .ok (.if_icmp .ne 16, 3) := by decide +kernel
theorem dX12_ahead_26 : decode cX12_ahead 26 = .ok (.aload_n 0, 1) := by decide +kernel
theorem dX12_ahead_27 : decode cX12_ahead 27 = .ok (.dup, 1) := by decide +kernel
theorem dX12_ahead_28 : decode cX12_ahead 28 = .ok (.getfield 126, 3) := by decide +kernel
theorem dX12_ahead_31 : decode cX12_ahead 31 = .ok (.iconst 1, 1) := by decide +kernel
theorem dX12_ahead_32 : decode cX12_ahead 32 = .ok (.iadd, 1) := by decide +kernel
theorem dX12_ahead_33 : decode cX12_ahead 33 = .ok (.putfield 126, 3) := by decide +kernel
theorem dX12_ahead_36 : decode cX12_ahead 36 = .ok (.goto (-36), 3) := by decide +kernel
theorem dX12_ahead_39 : decode cX12_ahead 39 = .ok (.aload_n 0, 1) := by decide +kernel
theorem dX12_ahead_40 : decode cX12_ahead 40 = .ok (.aload_n 0, 1) := by decide +kernel
theorem dX12_ahead_41 : decode cX12_ahead 41 = .ok (.getfield 126, 3) := by decide +kernel
theorem dX12_ahead_44 : decode cX12_ahead 44 = .ok (.putfield 132, 3) := by decide +kernel
theorem dX12_ahead_47 : decode cX12_ahead 47 = .ok (.aload_n 0, 1) := by decide +kernel
theorem dX12_ahead_48 : decode cX12_ahead 48 = .ok (.aload_n 0, 1) := by decide +kernel
theorem dX12_ahead_49 : decode cX12_ahead 49 = .ok (.getfield 126, 3) := by decide +kernel
theorem dX12_ahead_52 : decode cX12_ahead 52 = .ok (.invokevirtual 129, 3) := by decide +kernel
theorem dX12_ahead_55 : decode cX12_ahead 55 = .ok (.istore_n 1, 1) := by decide +kernel
theorem dX12_ahead_56 : decode cX12_ahead 56 = .ok (.aload_n 0, 1) := by decide +kernel
theorem dX12_ahead_57 : decode cX12_ahead 57 = .ok (.iload_n 1, 1) := by decide +kernel
theorem dX12_ahead_58 : decode cX12_ahead 58 = .ok (.putfield 135, 3) := by decide +kernel
theorem dX12_ahead_61 : decode cX12_ahead 61 = .ok (.iload_n 1, 1) := by decide +kernel
theorem dX12_ahead_62 : decode cX12_ahead 62 = .ok (.iconst (-1), 1) := by decide +kernel
theorem dX12_ahead_63 : decode cX12_ahead 63 = .ok (.if_icmp .ne 11, 3) := by decide +kernel
theorem dX12_ahead_66 : decode cX12_ahead 66 = .ok (.aload_n 0, 1) := by decide +kernel
theorem dX12_ahead_67 : decode cX12_ahead 67 = .ok (.iconst 0, 1) := by decide +kernel
theorem dX12_ahead_68 : decode cX12_ahead 68 = .ok (.putfield 138, 3) := by decide +kernel
theorem dX12_ahead_71 : decode cX12_ahead 71 = .ok (.goto 180, 3) := by decide +kernel
theorem dX12_ahead_74 : decode cX12_ahead 74 = .ok (.iload_n 1, 1) := by decide +kernel
theorem dX12_ahead_75 : decode cX12_ahead 75 = .ok (.invokestatic 141, 3) := by decide +kernel
theorem dX12_ahead_78 : decode cX12_ahead 78 = .ok (.ifCond .eq 38, 3) := by decide +kernel
theorem dX12_ahead_81 : decode cX12_ahead 81 = .ok (.aload_n 0, 1) := by decide +kernel
theorem dX12_ahead_82 : decode cX12_ahead 82 = .ok (.aload_n 0, 1) := by decide +kernel
theorem dX12_ahead_83 : decode cX12_ahead 83 = .ok (.getfield 126, 3) := by decide +kernel
theorem dX12_ahead_86 : decode cX12_ahead 86 = .ok (.invokevirtual 129, 3) := by decide +kernel
theorem dX12_ahead_89 : decode cX12_ahead 89 = .ok (.invokestatic 141, 3) := by decide +kernel
theorem dX12_ahead_92 : decode cX12_ahead 92 = .ok (.ifCond .eq 16, 3) := by decide +kernel
theorem dX12_ahead_95 : decode cX12_ahead 95 = .ok (.aload_n 0, 1) := by decide +kernel
theorem dX12_ahead_96 : decode cX12_ahead 96 = .ok (.dup, 1) := by decide +kernel
theorem dX12_ahead_97 : decode cX12_ahead 97 = .ok (.getfield 126, 3) := by decide +kernel
theorem dX12_ahead_100 : decode cX12_ahead 100 = .ok (.iconst 1, 1) := by decide +kernel
theorem dX12_ahead_101 : decode cX12_ahead 101 = .ok (.iadd, 1) := by decide +kernel
theorem dX12_ahead_102 : decode cX12_ahead 102 = .ok (.putfield 126, 3) := by decide +kernel
theorem dX12_ahead_105 : decode cX12_ahead 105 = .ok (.goto (-24), 3) := by decide +kernel
theorem dX12_ahead_108 : decode cX12_ahead 108 = .ok (.aload_n 0, 1) := by decide +kernel
theorem dX12_ahead_109 : decode cX12_ahead 109 = .ok (.iconst 2, 1) := by decide +kernel
theorem dX12_ahead_110 : decode cX12_ahead 110 = .ok (.putfield 138, 3) := by decide +kernel
theorem dX12_ahead_113 : decode cX12_ahead 113 = .ok (.goto 138, 3) := by decide +kernel
theorem dX12_ahead_116 : decode cX12_ahead 116 = .ok (.iload_n 1, 1) := by decide +kernel
theorem dX12_ahead_117 : decode cX12_ahead 117 = .ok (.invokestatic 144, 3) := by decide +kernel
theorem dX12_ahead_120 : decode cX12_ahead 120 = .ok (.ifCond .eq 88, 3) := by decide +kernel
theorem dX12_ahead_123 : decode cX12_ahead 123 = .ok (.aload_n 0, 1) := by decide +kernel
theorem dX12_ahead_124 : decode cX12_ahead 124 = .ok (.iconst 0, 1) := by decide +kernel
theorem dX12_ahead_125 : decode cX12_ahead 125 = .ok (.putfield 135, 3) := by decide +kernel
theorem dX12_ahead_128 : decode cX12_ahead 128 = .ok (.aload_n 0, 1) := by decide +kernel
theorem dX12_ahead_129 : decode cX12_ahead 129 = .ok (.aload_n 0, 1) := by decide +kernel
theorem dX12_ahead_130 : decode cX12_ahead 130 = .ok (.getfield 126, 3) := by decide +kernel
theorem dX12_ahead_133 : decode cX12_ahead 133 = .ok (.invokevirtual 129, 3) := by decide +kernel
theorem dX12_ahead_136 : decode cX12_ahead 136 = .ok (.invokestatic 144, 3) := by decide +kernel
theorem dX12_ahead_139 : decode cX12_ahead 139 = .ok (.ifCond .eq 44, 3) := by decide +kernel
theorem dX12_ahead_142 : decode cX12_ahead 142 = .ok (.aload_n 0, 1) := by decide +kernel
theorem dX12_ahead_143 : decode cX12_ahead 143 = .ok (.ldc 147, 2) := by decide +kernel
theorem dX12_ahead_145 : decode cX12_ahead 145 = .ok (.bipush 10, 2) := by decide +kernel
theorem dX12_ahead_147 : decode cX12_ahead 147 = .ok (.aload_n 0, 1) := by decide +kernel
theorem dX12_ahead_148 : decode cX12_ahead 148 = .ok (.getfield 135, 3) := by decide +kernel
theorem dX12_ahead_151 : decode cX12_ahead 151 = .ok (.imul, 1) := by decide +kernel
theorem dX12_ahead_152 : decode cX12_ahead 152 = .ok (.aload_n 0, 1) := by decide +kernel
theorem dX12_ahead_153 : decode cX12_ahead 153 = .ok (.aload_n 0, 1) := by decide +kernel
theorem dX12_ahead_154 : decode cX12_ahead 154 = .ok (.getfield 126, 3) := by decide +kernel
theorem dX12_ahead_157 : decode cX12_ahead 157 = .ok (.invokevirtual 129, 3) := by decide +kernel
theorem dX12_ahead_160 : decode cX12_ahead 160 = .ok (.iadd, 1) := by decide +kernel
theorem dX12_ahead_161 : decode cX12_ahead 161 = .ok (.bipush 48, 2) := by decide +kernel
theorem dX12_ahead_163 : decode cX12_ahead 163 = .ok (.isub, 1) := by decide +kernel
theorem dX12_ahead_164 : decode cX12_ahead 164 = .ok (.invokestatic 148, 3) := by decide +kernel
theorem dX12_ahead_167 : decode cX12_ahead 167 = .ok (.putfield 135, 3) := by decide +kernel
theorem dX12_ahead_170 : decode cX12_ahead 170 = .ok (.aload_n 0, 1) := by decide +kernel
theorem dX12_ahead_171 : decode cX12_ahead 171 = .ok (.dup, 1) := by decide +kernel
theorem dX12_ahead_172 : decode cX12_ahead 172 = .ok (.getfield 126, 3) := by decide +kernel
theorem dX12_ahead_175 : decode cX12_ahead 175 = .ok (.iconst 1, 1) := by decide +kernel
theorem dX12_ahead_176 : decode cX12_ahead 176 = .ok (.iadd, 1) := by decide +kernel
theorem dX12_ahead_177 : decode cX12_ahead 177 = .ok (.putfield 126, 3) := by decide +kernel
theorem dX12_ahead_180 : decode cX12_ahead 180 = .ok (.goto (-52), 3) := by decide +kernel
theorem dX12_ahead_183 : decode cX12_ahead 183 = .ok (.aload_n 0, 1) := by decide +kernel
theorem dX12_ahead_184 : decode cX12_ahead 184 = .ok (.aload_n 0, 1) := by decide +kernel
theorem dX12_ahead_185 : decode cX12_ahead 185 = .ok (.getfield 126, 3) := by decide +kernel
theorem dX12_ahead_188 : decode cX12_ahead 188 = .ok (.aload_n 0, 1) := by decide +kernel
theorem dX12_ahead_189 : decode cX12_ahead 189 = .ok (.getfield 132, 3) := by decide +kernel
theorem dX12_ahead_192 : decode cX12_ahead 192 = .ok (.isub, 1) := by decide +kernel
theorem dX12_ahead_193 : decode cX12_ahead 193 = .ok (.iconst 4, 1) := by decide +kernel
theorem dX12_ahead_194 : decode cX12_ahead 194 = .ok (.if_icmp .le 7, 3) := by decide +kernel
theorem dX12_ahead_197 : decode cX12_ahead 197 = .ok (.iconst 1, 1) := by decide +kernel
theorem dX12_ahead_198 : decode cX12_ahead 198 = .ok (.goto 4, 3) := by decide +kernel
theorem dX12_ahead_201 : decode cX12_ahead 201 = .ok (.iconst 3, 1) := by decide +kernel
theorem dX12_ahead_202 : decode cX12_ahead 202 = .ok (.putfield 138, 3) := by decide +kernel
theorem dX12_ahead_205 : decode cX12_ahead 205 = .ok (.goto 46, 3) := by decide +kernel
theorem dX12_ahead_208 : decode cX12_ahead 208 = .ok (.aload_n 0, 1) := by decide +kernel
theorem dX12_ahead_209 : decode cX12_ahead 209 = .ok (.dup, 1) := by decide +kernel
theorem dX12_ahead_210 : decode cX12_ahead 210 = .ok (.getfield 126, 3) := by decide +kernel
theorem dX12_ahead_213 : decode cX12_ahead 213 = .ok (.iconst 1, 1) := by decide +kernel
theorem dX12_ahead_214 : decode cX12_ahead 214 = .ok (.iadd, 1) := by decide +kernel
theorem dX12_ahead_215 : decode cX12_ahead 215 = .ok (.putfield 126, 3) := by decide +kernel
theorem dX12_ahead_218 : decode cX12_ahead 218 = .ok (.aload_n 0, 1) := by decide +kernel
theorem dX12_ahead_219 : decode cX12_ahead 219 = .ok (.iload_n 1, 1) := by decide +kernel
theorem dX12_ahead_220 : decode cX12_ahead 220 = .ok (.bipush 59, 2) := by decide +kernel
theorem dX12_ahead_222 : decode cX12_ahead 222 = .ok (.if_icmp .eq 21, 3) := by decide +kernel
theorem dX12_ahead_225 : decode cX12_ahead 225 = .ok (.iload_n 1, 1) := by decide +kernel
theorem dX12_ahead_226 : decode cX12_ahead 226 = .ok (.bipush 60, 2) := by decide +kernel
theorem dX12_ahead_228 : decode cX12_ahead 228 = .ok (.if_icmp .eq 15, 3) := by decide +kernel
theorem dX12_ahead_231 : decode cX12_ahead 231 = .ok (.iload_n 1, 1) := by decide +kernel
theorem dX12_ahead_232 : decode cX12_ahead 232 = .ok (.bipush 62, 2) := by decide +kernel
theorem dX12_ahead_234 : decode cX12_ahead 234 = .ok (.if_icmp .eq 9, 3) := by decide +kernel
theorem dX12_ahead_237 : decode cX12_ahead 237 = .ok (.iload_n 1, 1) := by decide +kernel
theorem dX12_ahead_238 : decode cX12_ahead 238 = .ok (.bipush 61, 2) := by decide +kernel
theorem dX12_ahead_240 : decode cX12_ahead 240 = .ok (.if_icmp .ne 7, 3) := by decide +kernel
theorem dX12_ahead_243 : decode cX12_ahead 243 = .ok (.iconst 4, 1) := by decide +kernel
theorem dX12_ahead_244 : decode cX12_ahead 244 = .ok (.goto 4, 3) := by decide +kernel
theorem dX12_ahead_247 : decode cX12_ahead 247 = .ok (.iconst 1, 1) := by decide +kernel
theorem dX12_ahead_248 : decode cX12_ahead 248 = .ok (.putfield 138, 3) := by decide +kernel
theorem dX12_ahead_251 : decode cX12_ahead 251 = .ok (.return_, 1) := by decide +kernel
set_option maxRecDepth 100000 in
def f_X12_ahead_26 (k0 : Nat → dtM → Option dtM) (l0 : Nat) (μ : dtM) : Option dtM :=
  (opGI 12 14 μ l0).bind fun x1 => (opPI 12 14 μ l0 (x1 + (1 : Int32))).bind fun μ3 => k0 l0 μ3
set_option maxRecDepth 100000 in
def f_X12_ahead_251  (μ : dtM) : Option dtM :=
  some μ
set_option maxRecDepth 100000 in
def f_X12_ahead_248 (s0 : Nat) (s1 : Int32) (μ : dtM) : Option dtM :=
  (opPI 12 12 μ s0 s1).bind fun μ1 => f_X12_ahead_251 μ1
set_option maxRecDepth 100000 in
def f_X12_ahead_243 (s0 : Nat) (μ : dtM) : Option dtM :=
  f_X12_ahead_248 s0 (4 : Int32) μ
set_option maxRecDepth 100000 in
def f_X12_ahead_202 (s0 : Nat) (s1 : Int32) (μ : dtM) : Option dtM :=
  (opPI 12 12 μ s0 s1).bind fun μ1 => f_X12_ahead_251 μ1
set_option maxRecDepth 100000 in
def f_X12_ahead_128 : Nat → Nat → dtM → Option dtM
  | 0, _, _ => none
  | n + 1, l0, μ =>
    (opGI 12 14 μ l0).bind fun x1 => (opRv 12 μ l0).bind fun _ => opCall (f_X12_byteAt l0 x1 μ) fun x6 μ4 => opCall (f_X12_isDigit x6 μ4) fun x9 μ7 => if x9 = 0 then ((opGI 12 14 μ7 l0).bind fun x13 => (opGI 12 13 μ7 l0).bind fun x15 => if (x13 - x15) ≤ (4 : Int32) then (f_X12_ahead_202 l0 (3 : Int32) μ7) else (f_X12_ahead_202 l0 (1 : Int32) μ7)) else ((opGI 12 15 μ7 l0).bind fun x20 => (opGI 12 14 μ7 l0).bind fun x22 => (opRv 12 μ7 l0).bind fun _ => opCall (f_X12_byteAt l0 x22 μ7) fun x27 μ25 => (some (if ((((10 : Int32) * x20) + x27) - (48 : Int32)) < (100000 : Int32) then ((((10 : Int32) * x20) + x27) - (48 : Int32)) else (100000 : Int32))).bind fun x28 => (opPI 12 15 μ25 l0 x28).bind fun μ30 => (opGI 12 14 μ30 l0).bind fun x32 => (opPI 12 14 μ30 l0 (x32 + (1 : Int32))).bind fun μ34 => f_X12_ahead_128 n l0 μ34)
set_option maxRecDepth 100000 in
def f_X12_ahead_81 : Nat → Nat → dtM → Option dtM
  | 0, _, _ => none
  | n + 1, l0, μ =>
    (opGI 12 14 μ l0).bind fun x1 => (opRv 12 μ l0).bind fun _ => opCall (f_X12_byteAt l0 x1 μ) fun x6 μ4 => opCall (f_X12_isSmall x6 μ4) fun x9 μ7 => if x9 = 0 then ((opPI 12 12 μ7 l0 (2 : Int32)).bind fun μ13 => f_X12_ahead_251 μ13) else ((opGI 12 14 μ7 l0).bind fun x15 => (opPI 12 14 μ7 l0 (x15 + (1 : Int32))).bind fun μ17 => f_X12_ahead_81 n l0 μ17)
set_option maxRecDepth 100000 in
def f_X12_ahead_0 : Nat → Nat → dtM → Option dtM
  | 0, _, _ => none
  | n + 1, l0, μ =>
    (opGI 12 14 μ l0).bind fun x1 => (opRv 12 μ l0).bind fun _ => opCall (f_X12_byteAt l0 x1 μ) fun x6 μ4 => if x6 = (32 : Int32) then (f_X12_ahead_26 (f_X12_ahead_0 n) l0 μ4) else ((opGI 12 14 μ4 l0).bind fun x10 => (opRv 12 μ4 l0).bind fun _ => opCall (f_X12_byteAt l0 x10 μ4) fun x15 μ13 => if x15 = (10 : Int32) then (f_X12_ahead_26 (f_X12_ahead_0 n) l0 μ13) else ((opGI 12 14 μ13 l0).bind fun x19 => (opPI 12 13 μ13 l0 x19).bind fun μ21 => (opGI 12 14 μ21 l0).bind fun x23 => (opRv 12 μ21 l0).bind fun _ => opCall (f_X12_byteAt l0 x23 μ21) fun x28 μ26 => (opPI 12 15 μ26 l0 x28).bind fun μ29 => if x28 = (-1 : Int32) then ((opPI 12 12 μ29 l0 (0 : Int32)).bind fun μ64 => f_X12_ahead_251 μ64) else (opCall (f_X12_isSmall x28 μ29) fun x36 μ34 => if x36 = 0 then (opCall (f_X12_isDigit x28 μ34) fun x42 μ40 => if x42 = 0 then ((opGI 12 14 μ40 l0).bind fun x46 => (opPI 12 14 μ40 l0 (x46 + (1 : Int32))).bind fun μ48 => if x28 = (59 : Int32) then (f_X12_ahead_243 l0 μ48) else (if x28 = (60 : Int32) then (f_X12_ahead_243 l0 μ48) else (if x28 = (62 : Int32) then (f_X12_ahead_243 l0 μ48) else (if x28 = (61 : Int32) then (f_X12_ahead_243 l0 μ48) else (f_X12_ahead_248 l0 (1 : Int32) μ48))))) else ((opPI 12 15 μ40 l0 (0 : Int32)).bind fun μ62 => f_X12_ahead_128 dtFuel l0 μ62)) else (f_X12_ahead_81 dtFuel l0 μ34))))
set_option maxRecDepth 100000 in
def f_X12_ahead (p0 : Nat) (μ : dtM) : Option dtM :=
  f_X12_ahead_0 dtFuel p0 μ
set_option maxRecDepth 100000 in
theorem c_X12_ahead_26 {F : dtM} (k0 : Nat → dtM → Option dtM) (hk0 : ∀ (l0 : Nat) (μ : dtM), k0 l0 μ = some F → dtW yX12_ahead cX12_ahead 2 (none) 2 (none) F 0 [some (.ref l0)] [] μ) (l0 : Nat) (μ : dtM) (h : f_X12_ahead_26 k0 l0 μ = some F) : dtW yX12_ahead cX12_ahead 2 (none) 2 (none) F 26 [some (.ref l0)] [] μ := by
  rw [f_X12_ahead_26] at h
  refine dr_aload_n l0 dX12_ahead_26 rfl ?_
  refine dr_dup dX12_ahead_27 rfl ?_
  obtain ⟨x1, e2, h⟩ := dtBind h
  refine dr_getI x1 dX12_ahead_28 fl_RX12_126 e2 ?_
  refine dr_iconst (1 : Int32) dX12_ahead_31 (by decide) ?_
  refine dr_iadd dX12_ahead_32 ?_
  obtain ⟨μ3, e4, h⟩ := dtBind h
  refine dr_putI μ3 dX12_ahead_33 fl_RX12_126 rfl e4 ?_
  refine dr_goto 0 dX12_ahead_36 (by decide) ?_
  exact hk0 l0 μ3 h
set_option maxRecDepth 100000 in
theorem c_X12_ahead_251 {F : dtM}  (μ : dtM) (h : f_X12_ahead_251  μ = some F) : dtW yX12_ahead cX12_ahead 2 (none) 2 (none) F 251 [] [] μ := by
  rw [f_X12_ahead_251] at h
  cases h
  exact dr_return dX12_ahead_251
set_option maxRecDepth 100000 in
theorem c_X12_ahead_248 {F : dtM} (s0 : Nat) (s1 : Int32) (μ : dtM) (h : f_X12_ahead_248 s0 s1 μ = some F) : dtW yX12_ahead cX12_ahead 2 (none) 2 (none) F 248 [] [.int s1, .ref s0] μ := by
  rw [f_X12_ahead_248] at h
  obtain ⟨μ1, e2, h⟩ := dtBind h
  refine dr_putI μ1 dX12_ahead_248 fl_RX12_138 rfl e2 ?_
  exact c_X12_ahead_251 μ1 h
set_option maxRecDepth 100000 in
theorem c_X12_ahead_243 {F : dtM} (s0 : Nat) (μ : dtM) (h : f_X12_ahead_243 s0 μ = some F) : dtW yX12_ahead cX12_ahead 2 (none) 2 (none) F 243 [] [.ref s0] μ := by
  rw [f_X12_ahead_243] at h
  refine dr_iconst (4 : Int32) dX12_ahead_243 (by decide) ?_
  refine dr_goto 248 dX12_ahead_244 (by decide) ?_
  exact c_X12_ahead_248 s0 (4 : Int32) μ h
set_option maxRecDepth 100000 in
theorem c_X12_ahead_202 {F : dtM} (s0 : Nat) (s1 : Int32) (μ : dtM) (h : f_X12_ahead_202 s0 s1 μ = some F) : dtW yX12_ahead cX12_ahead 2 (none) 2 (none) F 202 [] [.int s1, .ref s0] μ := by
  rw [f_X12_ahead_202] at h
  obtain ⟨μ1, e2, h⟩ := dtBind h
  refine dr_putI μ1 dX12_ahead_202 fl_RX12_138 rfl e2 ?_
  refine dr_goto 251 dX12_ahead_205 (by decide) ?_
  exact c_X12_ahead_251 μ1 h
set_option maxRecDepth 100000 in
theorem c_X12_ahead_128 {F : dtM} : ∀ (n : Nat) (l0 : Nat) (μ : dtM), f_X12_ahead_128 n l0 μ = some F → dtW yX12_ahead cX12_ahead 2 (none) 2 (none) F 128 [some (.ref l0)] [] μ := by
  intro n
  induction n with
  | zero => intro l0 μ h; cases h
  | succ n ih =>
    intro l0 μ h
    have h := (show f_X12_ahead_128 (n + 1) l0 μ = some _ from h)
    rw [f_X12_ahead_128] at h
    refine dr_aload_n l0 dX12_ahead_128 rfl ?_
    refine dr_aload_n l0 dX12_ahead_129 rfl ?_
    obtain ⟨x1, e2, h⟩ := dtBind h
    refine dr_getI x1 dX12_ahead_130 fl_RX12_126 e2 ?_
    obtain ⟨_, hb3, h⟩ := dtBind h
    obtain ⟨x6, μ4, e5, h⟩ := dtCall h
    refine dr_callV_i (S0 := []) [.int x1] x6 μ4 dX12_ahead_133 (c_X12_byteAt l0 x1 μ e5) mf_X12_byteAt wt_1540 ws_58 wt_1538 rfl (dtRv hb3) (by decide) rfl (Nat.le_of_ble_eq_true rfl) (Nat.le_of_ble_eq_true rfl) rfl ?_
    obtain ⟨x9, μ7, e8, h⟩ := dtCall h
    refine dr_callS_i (S0 := []) [.int x6] x9 μ7 dX12_ahead_136 (c_X12_isDigit x6 μ4 e8) mf_X12_isDigit wt_1546 wt_1545 rfl (Nat.le_of_ble_eq_true rfl) (Nat.le_of_ble_eq_true rfl) rfl ?_
    obtain ⟨ht11, hf12⟩ := dtIte h
    refine dr_if_eq 183 dX12_ahead_139 (by decide) (fun hc10 => ?_) (fun hc10 => ?_)
    · have h := ht11 hc10
      refine dr_aload_n l0 dX12_ahead_183 rfl ?_
      refine dr_aload_n l0 dX12_ahead_184 rfl ?_
      obtain ⟨x13, e14, h⟩ := dtBind h
      refine dr_getI x13 dX12_ahead_185 fl_RX12_126 e14 ?_
      refine dr_aload_n l0 dX12_ahead_188 rfl ?_
      obtain ⟨x15, e16, h⟩ := dtBind h
      refine dr_getI x15 dX12_ahead_189 fl_RX12_132 e16 ?_
      refine dr_isub dX12_ahead_192 ?_
      refine dr_iconst (4 : Int32) dX12_ahead_193 (by decide) ?_
      obtain ⟨ht18, hf19⟩ := dtIte h
      refine dr_icmp_le 201 dX12_ahead_194 (by decide) (fun hc17 => ?_) (fun hc17 => ?_)
      · have h := ht18 hc17
        refine dr_iconst (3 : Int32) dX12_ahead_201 (by decide) ?_
        refine dr_mask [] [] rfl ?_
        exact c_X12_ahead_202 l0 (3 : Int32) μ7 h
      · have h := hf19 hc17
        refine dr_iconst (1 : Int32) dX12_ahead_197 (by decide) ?_
        refine dr_goto 202 dX12_ahead_198 (by decide) ?_
        refine dr_mask [] [] rfl ?_
        exact c_X12_ahead_202 l0 (1 : Int32) μ7 h
    · have h := hf12 hc10
      refine dr_aload_n l0 dX12_ahead_142 rfl ?_
      refine dr_ldc (100000 : Int32) dX12_ahead_143 wt_1548 ?_
      refine dr_bipush (10 : Int32) dX12_ahead_145 (by decide) ?_
      refine dr_aload_n l0 dX12_ahead_147 rfl ?_
      obtain ⟨x20, e21, h⟩ := dtBind h
      refine dr_getI x20 dX12_ahead_148 fl_RX12_135 e21 ?_
      refine dr_imul dX12_ahead_151 ?_
      refine dr_aload_n l0 dX12_ahead_152 rfl ?_
      refine dr_aload_n l0 dX12_ahead_153 rfl ?_
      obtain ⟨x22, e23, h⟩ := dtBind h
      refine dr_getI x22 dX12_ahead_154 fl_RX12_126 e23 ?_
      obtain ⟨_, hb24, h⟩ := dtBind h
      obtain ⟨x27, μ25, e26, h⟩ := dtCall h
      refine dr_callV_i (S0 := [.int ((10 : Int32) * x20), .int (100000 : Int32), .ref l0]) [.int x22] x27 μ25 dX12_ahead_157 (c_X12_byteAt l0 x22 μ7 e26) mf_X12_byteAt wt_1540 ws_58 wt_1538 rfl (dtRv hb24) (by decide) rfl (Nat.le_of_ble_eq_true rfl) (Nat.le_of_ble_eq_true rfl) rfl ?_
      refine dr_iadd dX12_ahead_160 ?_
      refine dr_bipush (48 : Int32) dX12_ahead_161 (by decide) ?_
      refine dr_isub dX12_ahead_163 ?_
      refine dr_min dX12_ahead_164 wt_1549 wt_548 wt_15 wt_549 (Nat.le_of_ble_eq_true rfl) rfl ?_
      obtain ⟨x28, e29, h⟩ := dtBind h
      refine dr_nmi e29 ?_
      obtain ⟨μ30, e31, h⟩ := dtBind h
      refine dr_putI μ30 dX12_ahead_167 fl_RX12_135 rfl e31 ?_
      refine dr_aload_n l0 dX12_ahead_170 rfl ?_
      refine dr_dup dX12_ahead_171 rfl ?_
      obtain ⟨x32, e33, h⟩ := dtBind h
      refine dr_getI x32 dX12_ahead_172 fl_RX12_126 e33 ?_
      refine dr_iconst (1 : Int32) dX12_ahead_175 (by decide) ?_
      refine dr_iadd dX12_ahead_176 ?_
      obtain ⟨μ34, e35, h⟩ := dtBind h
      refine dr_putI μ34 dX12_ahead_177 fl_RX12_126 rfl e35 ?_
      refine dr_goto 128 dX12_ahead_180 (by decide) ?_
      exact ih l0 μ34 h
set_option maxRecDepth 100000 in
theorem c_X12_ahead_81 {F : dtM} : ∀ (n : Nat) (l0 : Nat) (μ : dtM), f_X12_ahead_81 n l0 μ = some F → dtW yX12_ahead cX12_ahead 2 (none) 2 (none) F 81 [some (.ref l0)] [] μ := by
  intro n
  induction n with
  | zero => intro l0 μ h; cases h
  | succ n ih =>
    intro l0 μ h
    have h := (show f_X12_ahead_81 (n + 1) l0 μ = some _ from h)
    rw [f_X12_ahead_81] at h
    refine dr_aload_n l0 dX12_ahead_81 rfl ?_
    refine dr_aload_n l0 dX12_ahead_82 rfl ?_
    obtain ⟨x1, e2, h⟩ := dtBind h
    refine dr_getI x1 dX12_ahead_83 fl_RX12_126 e2 ?_
    obtain ⟨_, hb3, h⟩ := dtBind h
    obtain ⟨x6, μ4, e5, h⟩ := dtCall h
    refine dr_callV_i (S0 := []) [.int x1] x6 μ4 dX12_ahead_86 (c_X12_byteAt l0 x1 μ e5) mf_X12_byteAt wt_1540 ws_58 wt_1538 rfl (dtRv hb3) (by decide) rfl (Nat.le_of_ble_eq_true rfl) (Nat.le_of_ble_eq_true rfl) rfl ?_
    obtain ⟨x9, μ7, e8, h⟩ := dtCall h
    refine dr_callS_i (S0 := []) [.int x6] x9 μ7 dX12_ahead_89 (c_X12_isSmall x6 μ4 e8) mf_X12_isSmall wt_1543 wt_1542 rfl (Nat.le_of_ble_eq_true rfl) (Nat.le_of_ble_eq_true rfl) rfl ?_
    obtain ⟨ht11, hf12⟩ := dtIte h
    refine dr_if_eq 108 dX12_ahead_92 (by decide) (fun hc10 => ?_) (fun hc10 => ?_)
    · have h := ht11 hc10
      refine dr_aload_n l0 dX12_ahead_108 rfl ?_
      refine dr_iconst (2 : Int32) dX12_ahead_109 (by decide) ?_
      obtain ⟨μ13, e14, h⟩ := dtBind h
      refine dr_putI μ13 dX12_ahead_110 fl_RX12_138 rfl e14 ?_
      refine dr_goto 251 dX12_ahead_113 (by decide) ?_
      refine dr_mask [] [] rfl ?_
      exact c_X12_ahead_251 μ13 h
    · have h := hf12 hc10
      refine dr_aload_n l0 dX12_ahead_95 rfl ?_
      refine dr_dup dX12_ahead_96 rfl ?_
      obtain ⟨x15, e16, h⟩ := dtBind h
      refine dr_getI x15 dX12_ahead_97 fl_RX12_126 e16 ?_
      refine dr_iconst (1 : Int32) dX12_ahead_100 (by decide) ?_
      refine dr_iadd dX12_ahead_101 ?_
      obtain ⟨μ17, e18, h⟩ := dtBind h
      refine dr_putI μ17 dX12_ahead_102 fl_RX12_126 rfl e18 ?_
      refine dr_goto 81 dX12_ahead_105 (by decide) ?_
      exact ih l0 μ17 h
set_option maxRecDepth 100000 in
theorem c_X12_ahead_0 {F : dtM} : ∀ (n : Nat) (l0 : Nat) (μ : dtM), f_X12_ahead_0 n l0 μ = some F → dtW yX12_ahead cX12_ahead 2 (none) 2 (none) F 0 [some (.ref l0)] [] μ := by
  intro n
  induction n with
  | zero => intro l0 μ h; cases h
  | succ n ih =>
    intro l0 μ h
    have h := (show f_X12_ahead_0 (n + 1) l0 μ = some _ from h)
    rw [f_X12_ahead_0] at h
    refine dr_aload_n l0 dX12_ahead_0 rfl ?_
    refine dr_aload_n l0 dX12_ahead_1 rfl ?_
    obtain ⟨x1, e2, h⟩ := dtBind h
    refine dr_getI x1 dX12_ahead_2 fl_RX12_126 e2 ?_
    obtain ⟨_, hb3, h⟩ := dtBind h
    obtain ⟨x6, μ4, e5, h⟩ := dtCall h
    refine dr_callV_i (S0 := []) [.int x1] x6 μ4 dX12_ahead_5 (c_X12_byteAt l0 x1 μ e5) mf_X12_byteAt wt_1540 ws_58 wt_1538 rfl (dtRv hb3) (by decide) rfl (Nat.le_of_ble_eq_true rfl) (Nat.le_of_ble_eq_true rfl) rfl ?_
    refine dr_bipush (32 : Int32) dX12_ahead_8 (by decide) ?_
    obtain ⟨ht8, hf9⟩ := dtIte h
    refine dr_icmp_eq 26 dX12_ahead_10 (by decide) (fun hc7 => ?_) (fun hc7 => ?_)
    · have h := ht8 hc7
      exact c_X12_ahead_26 (f_X12_ahead_0 n) ih l0 μ4 h
    · have h := hf9 hc7
      refine dr_aload_n l0 dX12_ahead_13 rfl ?_
      refine dr_aload_n l0 dX12_ahead_14 rfl ?_
      obtain ⟨x10, e11, h⟩ := dtBind h
      refine dr_getI x10 dX12_ahead_15 fl_RX12_126 e11 ?_
      obtain ⟨_, hb12, h⟩ := dtBind h
      obtain ⟨x15, μ13, e14, h⟩ := dtCall h
      refine dr_callV_i (S0 := []) [.int x10] x15 μ13 dX12_ahead_18 (c_X12_byteAt l0 x10 μ4 e14) mf_X12_byteAt wt_1540 ws_58 wt_1538 rfl (dtRv hb12) (by decide) rfl (Nat.le_of_ble_eq_true rfl) (Nat.le_of_ble_eq_true rfl) rfl ?_
      refine dr_bipush (10 : Int32) dX12_ahead_21 (by decide) ?_
      obtain ⟨ht17, hf18⟩ := dtIte h
      refine dr_icmp_ne 39 dX12_ahead_23 (by decide) (fun hc16 => ?_) (fun hc16 => ?_)
      · have h := hf18 hc16
        refine dr_aload_n l0 dX12_ahead_39 rfl ?_
        refine dr_aload_n l0 dX12_ahead_40 rfl ?_
        obtain ⟨x19, e20, h⟩ := dtBind h
        refine dr_getI x19 dX12_ahead_41 fl_RX12_126 e20 ?_
        obtain ⟨μ21, e22, h⟩ := dtBind h
        refine dr_putI μ21 dX12_ahead_44 fl_RX12_132 rfl e22 ?_
        refine dr_aload_n l0 dX12_ahead_47 rfl ?_
        refine dr_aload_n l0 dX12_ahead_48 rfl ?_
        obtain ⟨x23, e24, h⟩ := dtBind h
        refine dr_getI x23 dX12_ahead_49 fl_RX12_126 e24 ?_
        obtain ⟨_, hb25, h⟩ := dtBind h
        obtain ⟨x28, μ26, e27, h⟩ := dtCall h
        refine dr_callV_i (S0 := []) [.int x23] x28 μ26 dX12_ahead_52 (c_X12_byteAt l0 x23 μ21 e27) mf_X12_byteAt wt_1540 ws_58 wt_1538 rfl (dtRv hb25) (by decide) rfl (Nat.le_of_ble_eq_true rfl) (Nat.le_of_ble_eq_true rfl) rfl ?_
        refine dr_istore_n 1 [some (.ref l0), some (.int x28)] dX12_ahead_55 rfl rfl rfl rfl ?_
        refine dr_aload_n l0 dX12_ahead_56 rfl ?_
        refine dr_iload_n x28 dX12_ahead_57 rfl ?_
        obtain ⟨μ29, e30, h⟩ := dtBind h
        refine dr_putI μ29 dX12_ahead_58 fl_RX12_135 rfl e30 ?_
        refine dr_iload_n x28 dX12_ahead_61 rfl ?_
        refine dr_iconst (-1 : Int32) dX12_ahead_62 (by decide) ?_
        obtain ⟨ht32, hf33⟩ := dtIte h
        refine dr_icmp_ne 74 dX12_ahead_63 (by decide) (fun hc31 => ?_) (fun hc31 => ?_)
        · have h := hf33 hc31
          refine dr_iload_n x28 dX12_ahead_74 rfl ?_
          obtain ⟨x36, μ34, e35, h⟩ := dtCall h
          refine dr_callS_i (S0 := []) [.int x28] x36 μ34 dX12_ahead_75 (c_X12_isSmall x28 μ29 e35) mf_X12_isSmall wt_1543 wt_1542 rfl (Nat.le_of_ble_eq_true rfl) (Nat.le_of_ble_eq_true rfl) rfl ?_
          obtain ⟨ht38, hf39⟩ := dtIte h
          refine dr_if_eq 116 dX12_ahead_78 (by decide) (fun hc37 => ?_) (fun hc37 => ?_)
          · have h := ht38 hc37
            refine dr_iload_n x28 dX12_ahead_116 rfl ?_
            obtain ⟨x42, μ40, e41, h⟩ := dtCall h
            refine dr_callS_i (S0 := []) [.int x28] x42 μ40 dX12_ahead_117 (c_X12_isDigit x28 μ34 e41) mf_X12_isDigit wt_1546 wt_1545 rfl (Nat.le_of_ble_eq_true rfl) (Nat.le_of_ble_eq_true rfl) rfl ?_
            obtain ⟨ht44, hf45⟩ := dtIte h
            refine dr_if_eq 208 dX12_ahead_120 (by decide) (fun hc43 => ?_) (fun hc43 => ?_)
            · have h := ht44 hc43
              refine dr_aload_n l0 dX12_ahead_208 rfl ?_
              refine dr_dup dX12_ahead_209 rfl ?_
              obtain ⟨x46, e47, h⟩ := dtBind h
              refine dr_getI x46 dX12_ahead_210 fl_RX12_126 e47 ?_
              refine dr_iconst (1 : Int32) dX12_ahead_213 (by decide) ?_
              refine dr_iadd dX12_ahead_214 ?_
              obtain ⟨μ48, e49, h⟩ := dtBind h
              refine dr_putI μ48 dX12_ahead_215 fl_RX12_126 rfl e49 ?_
              refine dr_aload_n l0 dX12_ahead_218 rfl ?_
              refine dr_iload_n x28 dX12_ahead_219 rfl ?_
              refine dr_bipush (59 : Int32) dX12_ahead_220 (by decide) ?_
              obtain ⟨ht51, hf52⟩ := dtIte h
              refine dr_icmp_eq 243 dX12_ahead_222 (by decide) (fun hc50 => ?_) (fun hc50 => ?_)
              · have h := ht51 hc50
                refine dr_mask [] [] rfl ?_
                exact c_X12_ahead_243 l0 μ48 h
              · have h := hf52 hc50
                refine dr_iload_n x28 dX12_ahead_225 rfl ?_
                refine dr_bipush (60 : Int32) dX12_ahead_226 (by decide) ?_
                obtain ⟨ht54, hf55⟩ := dtIte h
                refine dr_icmp_eq 243 dX12_ahead_228 (by decide) (fun hc53 => ?_) (fun hc53 => ?_)
                · have h := ht54 hc53
                  refine dr_mask [] [] rfl ?_
                  exact c_X12_ahead_243 l0 μ48 h
                · have h := hf55 hc53
                  refine dr_iload_n x28 dX12_ahead_231 rfl ?_
                  refine dr_bipush (62 : Int32) dX12_ahead_232 (by decide) ?_
                  obtain ⟨ht57, hf58⟩ := dtIte h
                  refine dr_icmp_eq 243 dX12_ahead_234 (by decide) (fun hc56 => ?_) (fun hc56 => ?_)
                  · have h := ht57 hc56
                    refine dr_mask [] [] rfl ?_
                    exact c_X12_ahead_243 l0 μ48 h
                  · have h := hf58 hc56
                    refine dr_iload_n x28 dX12_ahead_237 rfl ?_
                    refine dr_bipush (61 : Int32) dX12_ahead_238 (by decide) ?_
                    obtain ⟨ht60, hf61⟩ := dtIte h
                    refine dr_icmp_ne 247 dX12_ahead_240 (by decide) (fun hc59 => ?_) (fun hc59 => ?_)
                    · have h := hf61 hc59
                      refine dr_iconst (1 : Int32) dX12_ahead_247 (by decide) ?_
                      refine dr_mask [] [] rfl ?_
                      exact c_X12_ahead_248 l0 (1 : Int32) μ48 h
                    · have h := ht60 hc59
                      refine dr_mask [] [] rfl ?_
                      exact c_X12_ahead_243 l0 μ48 h
            · have h := hf45 hc43
              refine dr_aload_n l0 dX12_ahead_123 rfl ?_
              refine dr_iconst (0 : Int32) dX12_ahead_124 (by decide) ?_
              obtain ⟨μ62, e63, h⟩ := dtBind h
              refine dr_putI μ62 dX12_ahead_125 fl_RX12_135 rfl e63 ?_
              refine dr_mask [true] [some (.ref l0)] rfl ?_
              exact c_X12_ahead_128 dtFuel l0 μ62 h
          · have h := hf39 hc37
            refine dr_mask [true] [some (.ref l0)] rfl ?_
            exact c_X12_ahead_81 dtFuel l0 μ34 h
        · have h := ht32 hc31
          refine dr_aload_n l0 dX12_ahead_66 rfl ?_
          refine dr_iconst (0 : Int32) dX12_ahead_67 (by decide) ?_
          obtain ⟨μ64, e65, h⟩ := dtBind h
          refine dr_putI μ64 dX12_ahead_68 fl_RX12_138 rfl e65 ?_
          refine dr_goto 251 dX12_ahead_71 (by decide) ?_
          refine dr_mask [] [] rfl ?_
          exact c_X12_ahead_251 μ64 h
      · have h := ht17 hc16
        exact c_X12_ahead_26 (f_X12_ahead_0 n) ih l0 μ13 h
set_option maxRecDepth 100000 in
theorem c_X12_ahead {F : dtM} (p0 : Nat) (μ : dtM) (h : f_X12_ahead p0 μ = some F) : dtMet yX12_ahead cX12_ahead 2 (none) 2 [.ref p0] μ (none) F := by
  refine dtMet.of (by decide +kernel) (Nat.le_of_ble_eq_true rfl) (show dtW yX12_ahead cX12_ahead 2 (none) 2 (none) F 0 [some (.ref p0)] [] μ from ?_)
  rw [f_X12_ahead] at h
  exact c_X12_ahead_0 dtFuel p0 μ h
/-! X12_isSign -/
theorem dX12_isSign_0 : decode cX12_isSign 0 = .ok (.aload_n 0, 1) := by decide +kernel
theorem dX12_isSign_1 : decode cX12_isSign 1 = .ok (.getfield 138, 3) := by decide +kernel
theorem dX12_isSign_4 : decode cX12_isSign 4 = .ok (.iconst 4, 1) := by decide +kernel
theorem dX12_isSign_5 : decode cX12_isSign 5 = .ok (.if_icmp .ne 15, 3) := by decide +kernel
theorem dX12_isSign_8 : decode cX12_isSign 8 = .ok (.aload_n 0, 1) := by decide +kernel
theorem dX12_isSign_9 : decode cX12_isSign 9 = .ok (.getfield 135, 3) := by decide +kernel
theorem dX12_isSign_12 : decode cX12_isSign 12 = .ok (.iload_n 1, 1) := by decide +kernel
theorem dX12_isSign_13 : decode cX12_isSign 13 = .ok (.if_icmp .ne 7, 3) := by decide +kernel
theorem dX12_isSign_16 : decode cX12_isSign 16 = .ok (.iconst 1, 1) := by decide +kernel
theorem dX12_isSign_17 : decode cX12_isSign 17 = .ok (.goto 4, 3) := by decide +kernel
theorem dX12_isSign_20 : decode cX12_isSign 20 = .ok (.iconst 0, 1) := by decide +kernel
theorem dX12_isSign_21 : decode cX12_isSign 21 = .ok (.ireturn, 1) := by decide +kernel
set_option maxRecDepth 100000 in
def f_X12_isSign_21 (s0 : Int32) (μ : dtM) : Option (Int32 × dtM) :=
  opRet s0 μ
set_option maxRecDepth 100000 in
def f_X12_isSign_20  (μ : dtM) : Option (Int32 × dtM) :=
  f_X12_isSign_21 (0 : Int32) μ
set_option maxRecDepth 100000 in
def f_X12_isSign (p0 : Nat) (p1 : Int32) (μ : dtM) : Option (Int32 × dtM) :=
  (opGI 12 12 μ p0).bind fun x1 => if x1 = (4 : Int32) then ((opGI 12 15 μ p0).bind fun x6 => if x6 = p1 then (f_X12_isSign_21 (1 : Int32) μ) else (f_X12_isSign_20 μ)) else (f_X12_isSign_20 μ)
set_option maxRecDepth 100000 in
theorem c_X12_isSign_21 {r : Int32} {F : dtM} (s0 : Int32) (μ : dtM) (h : f_X12_isSign_21 s0 μ = some (r, F)) : dtW yX12_isSign cX12_isSign 2 (some .boolean) 1 (some (.int r)) F 21 [] [.int s0] μ := by
  rw [f_X12_isSign_21] at h
  obtain ⟨hz, rfl, rfl⟩ := dtRet h
  exact dr_ireturn dX12_isSign_21 (dtNz hz)
set_option maxRecDepth 100000 in
theorem c_X12_isSign_20 {r : Int32} {F : dtM}  (μ : dtM) (h : f_X12_isSign_20  μ = some (r, F)) : dtW yX12_isSign cX12_isSign 2 (some .boolean) 1 (some (.int r)) F 20 [] [] μ := by
  rw [f_X12_isSign_20] at h
  refine dr_iconst (0 : Int32) dX12_isSign_20 (by decide) ?_
  exact c_X12_isSign_21 (0 : Int32) μ h
set_option maxRecDepth 100000 in
theorem c_X12_isSign {r : Int32} {F : dtM} (p0 : Nat) (p1 : Int32) (μ : dtM) (h : f_X12_isSign p0 p1 μ = some (r, F)) : dtMet yX12_isSign cX12_isSign 2 (some .boolean) 1 [.ref p0, .int p1] μ (some (.int r)) F := by
  refine dtMet.of (by decide +kernel) (Nat.le_of_ble_eq_true rfl) (show dtW yX12_isSign cX12_isSign 2 (some .boolean) 1 (some (.int r)) F 0 [some (.ref p0), some (.int p1)] [] μ from ?_)
  rw [f_X12_isSign] at h
  refine dr_aload_n p0 dX12_isSign_0 rfl ?_
  obtain ⟨x1, e2, h⟩ := dtBind h
  refine dr_getI x1 dX12_isSign_1 fl_RX12_138 e2 ?_
  refine dr_iconst (4 : Int32) dX12_isSign_4 (by decide) ?_
  obtain ⟨ht4, hf5⟩ := dtIte h
  refine dr_icmp_ne 20 dX12_isSign_5 (by decide) (fun hc3 => ?_) (fun hc3 => ?_)
  · have h := hf5 hc3
    refine dr_mask [] [] rfl ?_
    exact c_X12_isSign_20 μ h
  · have h := ht4 hc3
    refine dr_aload_n p0 dX12_isSign_8 rfl ?_
    obtain ⟨x6, e7, h⟩ := dtBind h
    refine dr_getI x6 dX12_isSign_9 fl_RX12_135 e7 ?_
    refine dr_iload_n p1 dX12_isSign_12 rfl ?_
    obtain ⟨ht9, hf10⟩ := dtIte h
    refine dr_icmp_ne 20 dX12_isSign_13 (by decide) (fun hc8 => ?_) (fun hc8 => ?_)
    · have h := hf10 hc8
      refine dr_mask [] [] rfl ?_
      exact c_X12_isSign_20 μ h
    · have h := ht9 hc8
      refine dr_iconst (1 : Int32) dX12_isSign_16 (by decide) ?_
      refine dr_goto 21 dX12_isSign_17 (by decide) ?_
      refine dr_mask [] [] rfl ?_
      exact c_X12_isSign_21 (1 : Int32) μ h
/-! X12_inWords -/
theorem dX12_inWords_0 : decode cX12_inWords 0 = .ok (.aload_n 0, 1) := by decide +kernel
theorem dX12_inWords_1 : decode cX12_inWords 1 = .ok (.getfield 138, 3) := by decide +kernel
theorem dX12_inWords_4 : decode cX12_inWords 4 = .ok (.iconst 2, 1) := by decide +kernel
theorem dX12_inWords_5 : decode cX12_inWords 5 = .ok (.if_icmp .eq 5, 3) := by decide +kernel
theorem dX12_inWords_8 : decode cX12_inWords 8 = .ok (.iconst (-1), 1) := by decide +kernel
theorem dX12_inWords_9 : decode cX12_inWords 9 = .ok (.ireturn, 1) := by decide +kernel
theorem dX12_inWords_10 : decode cX12_inWords 10 = .ok (.iconst 0, 1) := by decide +kernel
theorem dX12_inWords_11 : decode cX12_inWords 11 = .ok (.istore_n 2, 1) := by decide +kernel
theorem dX12_inWords_12 : decode cX12_inWords 12 = .ok (.iconst 1, 1) := by decide +kernel
theorem dX12_inWords_13 : decode cX12_inWords 13 = .ok (.istore_n 3, 1) := by decide +kernel
theorem dX12_inWords_14 : decode cX12_inWords 14 = .ok (.iload_n 3, 1) := by decide +kernel
theorem dX12_inWords_15 : decode cX12_inWords 15 = .ok (.aload_n 1, 1) := by decide +kernel
theorem dX12_inWords_16 : decode cX12_inWords 16 = .ok (.invokevirtual 153, 3) := by decide +kernel
theorem dX12_inWords_19 : decode cX12_inWords 19 = .ok (.if_icmp .ge 114, 3) := by decide +kernel
theorem dX12_inWords_22 : decode cX12_inWords 22 = .ok (.iload_n 3, 1) := by decide +kernel
theorem dX12_inWords_23 : decode cX12_inWords 23 = .ok (.istore 4, 2) := by decide +kernel
theorem dX12_inWords_25 : decode cX12_inWords 25 = .ok (.aload_n 1, 1) := by decide +kernel
theorem dX12_inWords_26 : decode cX12_inWords 26 = .ok (.iload 4, 2) := by decide +kernel
theorem dX12_inWords_28 : decode cX12_inWords 28 = .ok (.invokevirtual 159, 3) := by decide +kernel
theorem dX12_inWords_31 : decode cX12_inWords 31 = .ok (.bipush 32, 2) := by decide +kernel
theorem dX12_inWords_33 : decode cX12_inWords 33 = .ok (.if_icmp .eq 9, 3) := by decide +kernel
theorem dX12_inWords_36 : decode cX12_inWords 36 = .ok (.iinc 4 1, 3) := by decide +kernel
theorem dX12_inWords_39 : decode cX12_inWords 39 = .ok (.goto (-14), 3) := by decide +kernel
theorem dX12_inWords_42 : decode cX12_inWords 42 = .ok (.iload 4, 2) := by decide +kernel
theorem dX12_inWords_44 : decode cX12_inWords 44 = .ok (.iload_n 3, 1) := by decide +kernel
theorem dX12_inWords_45 : decode cX12_inWords 45 = .ok (.isub, 1) := by decide +kernel
theorem dX12_inWords_46 : decode cX12_inWords 46 = .ok (.aload_n 0, 1) := by decide +kernel
theorem dX12_inWords_47 : decode cX12_inWords 47 = .ok (.getfield 126, 3) := by decide +kernel
theorem dX12_inWords_50 : decode cX12_inWords 50 = .ok (.aload_n 0, 1) := by decide +kernel
theorem dX12_inWords_51 : decode cX12_inWords 51 = .ok (.getfield 132, 3) := by decide +kernel
theorem dX12_inWords_54 : decode cX12_inWords 54 = .ok (.isub, 1) := by decide +kernel
theorem dX12_inWords_55 : decode cX12_inWords 55 = .ok (.if_icmp .ne 7, 3) := by decide +kernel
theorem dX12_inWords_58 : decode cX12_inWords 58 = .ok (.iconst 1, 1) := by decide +kernel
theorem dX12_inWords_59 : decode cX12_inWords 59 = .ok (.goto 4, 3) := by decide +kernel
theorem dX12_inWords_62 : decode cX12_inWords 62 = .ok (.iconst 0, 1) := by decide +kernel
theorem dX12_inWords_63 : decode cX12_inWords 63 = .ok (.istore 5, 2) := by decide +kernel
theorem dX12_inWords_65 : decode cX12_inWords 65 = .ok (.iload_n 3, 1) := by decide +kernel
theorem dX12_inWords_66 : decode cX12_inWords 66 = .ok (.istore 6, 2) := by decide +kernel
theorem dX12_inWords_68 : decode cX12_inWords 68 = .ok (.iload 6, 2) := by decide +kernel
theorem dX12_inWords_70 : decode cX12_inWords 70 = .ok (.iload 4, 2) := by decide +kernel
theorem dX12_inWords_72 : decode cX12_inWords 72 = .ok (.if_icmp .ge 43, 3) := by decide +kernel
theorem dX12_inWords_75 : decode cX12_inWords 75 = .ok (.iload 5, 2) := by decide +kernel
theorem dX12_inWords_77 : decode cX12_inWords 77 = .ok (.ifCond .eq 38, 3) := by decide +kernel
theorem dX12_inWords_80 : decode cX12_inWords 80 = .ok (.aload_n 1, 1) := by decide +kernel
theorem dX12_inWords_81 : decode cX12_inWords 81 = .ok (.iload 6, 2) := by decide +kernel
theorem dX12_inWords_83 : decode cX12_inWords 83 = .ok (.invokevirtual 159, 3) := by decide +kernel
theorem dX12_inWords_86 : decode cX12_inWords 86 = .ok (.aload_n 0, 1) := by decide +kernel
theorem dX12_inWords_87 : decode cX12_inWords 87 = .ok (.aload_n 0, 1) := by decide +kernel
theorem dX12_inWords_88 : decode cX12_inWords 88 = .ok (.getfield 132, 3) := by decide +kernel
theorem dX12_inWords_91 : decode cX12_inWords 91 = .ok (.iload 6, 2) := by decide +kernel
theorem dX12_inWords_93 : decode cX12_inWords 93 = .ok (.iadd, 1) := by decide +kernel
theorem dX12_inWords_94 : decode cX12_inWords 94 = .ok (.iload_n 3, 1) := by decide +kernel
theorem dX12_inWords_95 : decode cX12_inWords 95 = .ok (.isub, 1) := by decide +kernel
theorem dX12_inWords_96 : decode cX12_inWords 96 = .ok (.invokevirtual 129, 3) := by decide +kernel
theorem dX12_inWords_99 : decode cX12_inWords 99 = .ok (.if_icmp .ne 7, 3) := by decide +kernel
theorem dX12_inWords_102 : decode cX12_inWords 102 = .ok (.iconst 1, 1) := by decide +kernel
theorem dX12_inWords_103 : decode cX12_inWords 103 = .ok (.goto 4, 3) := by decide +kernel
theorem dX12_inWords_106 : decode cX12_inWords 106 = .ok (.iconst 0, 1) := by decide +kernel
theorem dX12_inWords_107 : decode cX12_inWords 107 = .ok (.istore 5, 2) := by decide +kernel
theorem dX12_inWords_109 : decode cX12_inWords 109 = .ok (.iinc 6 1, 3) := by decide +kernel
theorem dX12_inWords_112 : decode cX12_inWords 112 = .ok (.goto (-44), 3) := by decide +kernel
theorem dX12_inWords_115 : decode cX12_inWords 115 = .ok (.iload 5, 2) := by decide +kernel
theorem dX12_inWords_117 : decode cX12_inWords 117 = .ok (.ifCond .eq 5, 3) := by decide +kernel
theorem dX12_inWords_120 : decode cX12_inWords 120 = .ok (.iload_n 2, 1) := by decide +kernel
theorem dX12_inWords_121 : decode cX12_inWords 121 = .ok (.ireturn, 1) := by decide +kernel
theorem dX12_inWords_122 : decode cX12_inWords 122 = .ok (.iinc 2 1, 3) := by decide +kernel
theorem dX12_inWords_125 : decode cX12_inWords 125 = .ok (.iload 4, 2) := by decide +kernel
theorem dX12_inWords_127 : decode cX12_inWords 127 = .ok (.iconst 1, 1) := by decide +kernel
theorem dX12_inWords_128 : decode cX12_inWords 128 = .ok (.iadd, 1) := by decide +kernel
theorem dX12_inWords_129 : decode cX12_inWords 129 = .ok (.istore_n 3, 1) := by decide +kernel
theorem dX12_inWords_130 : decode cX12_inWords 130 = .ok (.goto (-116), 3) := by decide +kernel
theorem dX12_inWords_133 : decode cX12_inWords 133 = .ok (.iconst (-1), 1) := by decide +kernel
theorem dX12_inWords_134 : decode cX12_inWords 134 = .ok (.ireturn, 1) := by decide +kernel
set_option maxRecDepth 100000 in
def f_X12_inWords_115 (k14 : Nat → Nat → Int32 → Int32 → dtM → Option (Int32 × dtM)) (l0 : Nat) (l1 : Nat) (l2 : Int32) (l4 : Int32) (l5 : Int32) (μ : dtM) : Option (Int32 × dtM) :=
  if l5 = 0 then ((some (l4 + (1 : Int32))).bind fun x4 => k14 l0 l1 (l2 + 1) x4 μ) else (some (l2, μ))
set_option maxRecDepth 100000 in
def f_X12_inWords_107 (k14 : Nat → Nat → Int32 → Int32 → dtM → Option (Int32 × dtM)) (k68 : Nat → Nat → Int32 → Int32 → Int32 → Int32 → Int32 → dtM → Option (Int32 × dtM)) (l0 : Nat) (l1 : Nat) (l2 : Int32) (l3 : Int32) (l4 : Int32) (l6 : Int32) (s0 : Int32) (μ : dtM) : Option (Int32 × dtM) :=
  k68 l0 l1 l2 l3 l4 s0 (l6 + 1) μ
set_option maxRecDepth 100000 in
def f_X12_inWords_68 (k14 : Nat → Nat → Int32 → Int32 → dtM → Option (Int32 × dtM)) : Nat → Nat → Nat → Int32 → Int32 → Int32 → Int32 → Int32 → dtM → Option (Int32 × dtM)
  | 0, _, _, _, _, _, _, _, _ => none
  | n + 1, l0, l1, l2, l3, l4, l5, l6, μ =>
    if l4 ≤ l6 then (f_X12_inWords_115 k14 l0 l1 l2 l4 l5 μ) else (if l5 = 0 then (f_X12_inWords_115 k14 l0 l1 l2 l4 l5 μ) else ((opChar l1 l6).bind fun x7 => (opGI 12 13 μ l0).bind fun x9 => (opRv 12 μ l0).bind fun _ => opCall (f_X12_byteAt l0 ((x9 + l6) - l3) μ) fun x14 μ12 => if x7 = x14 then (f_X12_inWords_107 k14 (f_X12_inWords_68 k14 n) l0 l1 l2 l3 l4 l6 (1 : Int32) μ12) else (f_X12_inWords_107 k14 (f_X12_inWords_68 k14 n) l0 l1 l2 l3 l4 l6 (0 : Int32) μ12)))
set_option maxRecDepth 100000 in
def f_X12_inWords_63 (k14 : Nat → Nat → Int32 → Int32 → dtM → Option (Int32 × dtM)) (l0 : Nat) (l1 : Nat) (l2 : Int32) (l3 : Int32) (l4 : Int32) (s0 : Int32) (μ : dtM) : Option (Int32 × dtM) :=
  f_X12_inWords_68 k14 dtFuel l0 l1 l2 l3 l4 s0 l3 μ
set_option maxRecDepth 100000 in
def f_X12_inWords_25 (k14 : Nat → Nat → Int32 → Int32 → dtM → Option (Int32 × dtM)) : Nat → Nat → Nat → Int32 → Int32 → Int32 → dtM → Option (Int32 × dtM)
  | 0, _, _, _, _, _, _ => none
  | n + 1, l0, l1, l2, l3, l4, μ =>
    (opChar l1 l4).bind fun x1 => if x1 = (32 : Int32) then ((opGI 12 14 μ l0).bind fun x6 => (opGI 12 13 μ l0).bind fun x8 => if (l4 - l3) = (x6 - x8) then (f_X12_inWords_63 k14 l0 l1 l2 l3 l4 (1 : Int32) μ) else (f_X12_inWords_63 k14 l0 l1 l2 l3 l4 (0 : Int32) μ)) else (f_X12_inWords_25 k14 n l0 l1 l2 l3 (l4 + 1) μ)
set_option maxRecDepth 100000 in
def f_X12_inWords_14 : Nat → Nat → Nat → Int32 → Int32 → dtM → Option (Int32 × dtM)
  | 0, _, _, _, _, _ => none
  | n + 1, l0, l1, l2, l3, μ =>
    (opLen l1).bind fun x1 => if x1 ≤ l3 then (some ((-1 : Int32), μ)) else (f_X12_inWords_25 (f_X12_inWords_14 n) dtFuel l0 l1 l2 l3 l3 μ)
set_option maxRecDepth 100000 in
def f_X12_inWords (p0 : Nat) (p1 : Nat) (μ : dtM) : Option (Int32 × dtM) :=
  (opGI 12 12 μ p0).bind fun x1 => if x1 = (2 : Int32) then (f_X12_inWords_14 dtFuel p0 p1 (0 : Int32) (1 : Int32) μ) else (some ((-1 : Int32), μ))
set_option maxRecDepth 100000 in
theorem c_X12_inWords_115 {r : Int32} {F : dtM} (k14 : Nat → Nat → Int32 → Int32 → dtM → Option (Int32 × dtM)) (hk14 : ∀ (l0 : Nat) (l1 : Nat) (l2 : Int32) (l3 : Int32) (μ : dtM), k14 l0 l1 l2 l3 μ = some (r, F) → dtW yX12_inWords cX12_inWords 7 (some .int) 6 (some (.int r)) F 14 [some (.ref l0), some (.ref l1), some (.int l2), some (.int l3)] [] μ) (l0 : Nat) (l1 : Nat) (l2 : Int32) (l4 : Int32) (l5 : Int32) (μ : dtM) (h : f_X12_inWords_115 k14 l0 l1 l2 l4 l5 μ = some (r, F)) : dtW yX12_inWords cX12_inWords 7 (some .int) 6 (some (.int r)) F 115 [some (.ref l0), some (.ref l1), some (.int l2), none, some (.int l4), some (.int l5)] [] μ := by
  rw [f_X12_inWords_115] at h
  refine dr_iload l5 dX12_inWords_115 rfl ?_
  obtain ⟨ht2, hf3⟩ := dtIte h
  refine dr_if_eq 122 dX12_inWords_117 (by decide) (fun hc1 => ?_) (fun hc1 => ?_)
  · have h := ht2 hc1
    refine dr_iinc l2 (l2 + 1) [some (.ref l0), some (.ref l1), some (.int (l2 + 1)), none, some (.int l4), some (.int l5)] dX12_inWords_122 rfl rfl rfl rfl rfl ?_
    refine dr_iload l4 dX12_inWords_125 rfl ?_
    refine dr_iconst (1 : Int32) dX12_inWords_127 (by decide) ?_
    refine dr_iadd dX12_inWords_128 ?_
    obtain ⟨x4, e5, h⟩ := dtBind h
    refine dr_nmi e5 ?_
    refine dr_istore_n 3 [some (.ref l0), some (.ref l1), some (.int (l2 + 1)), some (.int x4), some (.int l4), some (.int l5)] dX12_inWords_129 rfl rfl rfl rfl ?_
    refine dr_goto 14 dX12_inWords_130 (by decide) ?_
    refine dr_mask [true, true, true, true] [some (.ref l0), some (.ref l1), some (.int (l2 + 1)), some (.int x4)] rfl ?_
    exact hk14 l0 l1 (l2 + 1) x4 μ h
  · have h := hf3 hc1
    refine dr_iload_n l2 dX12_inWords_120 rfl ?_
    cases h
    exact dr_ireturn dX12_inWords_121 rfl
set_option maxRecDepth 100000 in
theorem c_X12_inWords_107 {r : Int32} {F : dtM} (k14 : Nat → Nat → Int32 → Int32 → dtM → Option (Int32 × dtM)) (k68 : Nat → Nat → Int32 → Int32 → Int32 → Int32 → Int32 → dtM → Option (Int32 × dtM)) (hk14 : ∀ (l0 : Nat) (l1 : Nat) (l2 : Int32) (l3 : Int32) (μ : dtM), k14 l0 l1 l2 l3 μ = some (r, F) → dtW yX12_inWords cX12_inWords 7 (some .int) 6 (some (.int r)) F 14 [some (.ref l0), some (.ref l1), some (.int l2), some (.int l3)] [] μ) (hk68 : ∀ (l0 : Nat) (l1 : Nat) (l2 : Int32) (l3 : Int32) (l4 : Int32) (l5 : Int32) (l6 : Int32) (μ : dtM), k68 l0 l1 l2 l3 l4 l5 l6 μ = some (r, F) → dtW yX12_inWords cX12_inWords 7 (some .int) 6 (some (.int r)) F 68 [some (.ref l0), some (.ref l1), some (.int l2), some (.int l3), some (.int l4), some (.int l5), some (.int l6)] [] μ) (l0 : Nat) (l1 : Nat) (l2 : Int32) (l3 : Int32) (l4 : Int32) (l6 : Int32) (s0 : Int32) (μ : dtM) (h : f_X12_inWords_107 k14 k68 l0 l1 l2 l3 l4 l6 s0 μ = some (r, F)) : dtW yX12_inWords cX12_inWords 7 (some .int) 6 (some (.int r)) F 107 [some (.ref l0), some (.ref l1), some (.int l2), some (.int l3), some (.int l4), none, some (.int l6)] [.int s0] μ := by
  rw [f_X12_inWords_107] at h
  refine dr_istore [some (.ref l0), some (.ref l1), some (.int l2), some (.int l3), some (.int l4), some (.int s0), some (.int l6)] dX12_inWords_107 rfl rfl rfl ?_
  refine dr_iinc l6 (l6 + 1) [some (.ref l0), some (.ref l1), some (.int l2), some (.int l3), some (.int l4), some (.int s0), some (.int (l6 + 1))] dX12_inWords_109 rfl rfl rfl rfl rfl ?_
  refine dr_goto 68 dX12_inWords_112 (by decide) ?_
  exact hk68 l0 l1 l2 l3 l4 s0 (l6 + 1) μ h
set_option maxRecDepth 100000 in
theorem c_X12_inWords_68 {r : Int32} {F : dtM} (k14 : Nat → Nat → Int32 → Int32 → dtM → Option (Int32 × dtM)) (hk14 : ∀ (l0 : Nat) (l1 : Nat) (l2 : Int32) (l3 : Int32) (μ : dtM), k14 l0 l1 l2 l3 μ = some (r, F) → dtW yX12_inWords cX12_inWords 7 (some .int) 6 (some (.int r)) F 14 [some (.ref l0), some (.ref l1), some (.int l2), some (.int l3)] [] μ) : ∀ (n : Nat) (l0 : Nat) (l1 : Nat) (l2 : Int32) (l3 : Int32) (l4 : Int32) (l5 : Int32) (l6 : Int32) (μ : dtM), f_X12_inWords_68 k14 n l0 l1 l2 l3 l4 l5 l6 μ = some (r, F) → dtW yX12_inWords cX12_inWords 7 (some .int) 6 (some (.int r)) F 68 [some (.ref l0), some (.ref l1), some (.int l2), some (.int l3), some (.int l4), some (.int l5), some (.int l6)] [] μ := by
  intro n
  induction n with
  | zero => intro l0 l1 l2 l3 l4 l5 l6 μ h; cases h
  | succ n ih =>
    intro l0 l1 l2 l3 l4 l5 l6 μ h
    have h := (show f_X12_inWords_68 k14 (n + 1) l0 l1 l2 l3 l4 l5 l6 μ = some _ from h)
    rw [f_X12_inWords_68] at h
    refine dr_iload l6 dX12_inWords_68 rfl ?_
    refine dr_iload l4 dX12_inWords_70 rfl ?_
    obtain ⟨ht2, hf3⟩ := dtIte h
    refine dr_icmp_ge 115 dX12_inWords_72 (by decide) (fun hc1 => ?_) (fun hc1 => ?_)
    · have h := ht2 hc1
      refine dr_mask [true, true, true, false, true, true] [some (.ref l0), some (.ref l1), some (.int l2), none, some (.int l4), some (.int l5)] rfl ?_
      exact c_X12_inWords_115 k14 hk14 l0 l1 l2 l4 l5 μ h
    · have h := hf3 hc1
      refine dr_iload l5 dX12_inWords_75 rfl ?_
      obtain ⟨ht5, hf6⟩ := dtIte h
      refine dr_if_eq 115 dX12_inWords_77 (by decide) (fun hc4 => ?_) (fun hc4 => ?_)
      · have h := ht5 hc4
        refine dr_mask [true, true, true, false, true, true] [some (.ref l0), some (.ref l1), some (.int l2), none, some (.int l4), some (.int l5)] rfl ?_
        exact c_X12_inWords_115 k14 hk14 l0 l1 l2 l4 l5 μ h
      · have h := hf6 hc4
        refine dr_aload_n l1 dX12_inWords_80 rfl ?_
        refine dr_iload l6 dX12_inWords_81 rfl ?_
        obtain ⟨x7, e8, h⟩ := dtBind h
        refine dr_strcharAt x7 dX12_inWords_83 wt_1564 e8 (Nat.le_of_ble_eq_true rfl) rfl ?_
        refine dr_aload_n l0 dX12_inWords_86 rfl ?_
        refine dr_aload_n l0 dX12_inWords_87 rfl ?_
        obtain ⟨x9, e10, h⟩ := dtBind h
        refine dr_getI x9 dX12_inWords_88 fl_RX12_132 e10 ?_
        refine dr_iload l6 dX12_inWords_91 rfl ?_
        refine dr_iadd dX12_inWords_93 ?_
        refine dr_iload_n l3 dX12_inWords_94 rfl ?_
        refine dr_isub dX12_inWords_95 ?_
        obtain ⟨_, hb11, h⟩ := dtBind h
        obtain ⟨x14, μ12, e13, h⟩ := dtCall h
        refine dr_callV_i (S0 := [.int x7]) [.int ((x9 + l6) - l3)] x14 μ12 dX12_inWords_96 (c_X12_byteAt l0 ((x9 + l6) - l3) μ e13) mf_X12_byteAt wt_1540 ws_58 wt_1538 rfl (dtRv hb11) (by decide) rfl (Nat.le_of_ble_eq_true rfl) (Nat.le_of_ble_eq_true rfl) rfl ?_
        obtain ⟨ht16, hf17⟩ := dtIte h
        refine dr_icmp_ne 106 dX12_inWords_99 (by decide) (fun hc15 => ?_) (fun hc15 => ?_)
        · have h := hf17 hc15
          refine dr_iconst (0 : Int32) dX12_inWords_106 (by decide) ?_
          refine dr_mask [true, true, true, true, true, false, true] [some (.ref l0), some (.ref l1), some (.int l2), some (.int l3), some (.int l4), none, some (.int l6)] rfl ?_
          exact c_X12_inWords_107 k14 (f_X12_inWords_68 k14 n) hk14 ih l0 l1 l2 l3 l4 l6 (0 : Int32) μ12 h
        · have h := ht16 hc15
          refine dr_iconst (1 : Int32) dX12_inWords_102 (by decide) ?_
          refine dr_goto 107 dX12_inWords_103 (by decide) ?_
          refine dr_mask [true, true, true, true, true, false, true] [some (.ref l0), some (.ref l1), some (.int l2), some (.int l3), some (.int l4), none, some (.int l6)] rfl ?_
          exact c_X12_inWords_107 k14 (f_X12_inWords_68 k14 n) hk14 ih l0 l1 l2 l3 l4 l6 (1 : Int32) μ12 h
set_option maxRecDepth 100000 in
theorem c_X12_inWords_63 {r : Int32} {F : dtM} (k14 : Nat → Nat → Int32 → Int32 → dtM → Option (Int32 × dtM)) (hk14 : ∀ (l0 : Nat) (l1 : Nat) (l2 : Int32) (l3 : Int32) (μ : dtM), k14 l0 l1 l2 l3 μ = some (r, F) → dtW yX12_inWords cX12_inWords 7 (some .int) 6 (some (.int r)) F 14 [some (.ref l0), some (.ref l1), some (.int l2), some (.int l3)] [] μ) (l0 : Nat) (l1 : Nat) (l2 : Int32) (l3 : Int32) (l4 : Int32) (s0 : Int32) (μ : dtM) (h : f_X12_inWords_63 k14 l0 l1 l2 l3 l4 s0 μ = some (r, F)) : dtW yX12_inWords cX12_inWords 7 (some .int) 6 (some (.int r)) F 63 [some (.ref l0), some (.ref l1), some (.int l2), some (.int l3), some (.int l4)] [.int s0] μ := by
  rw [f_X12_inWords_63] at h
  refine dr_istore [some (.ref l0), some (.ref l1), some (.int l2), some (.int l3), some (.int l4), some (.int s0)] dX12_inWords_63 rfl rfl rfl ?_
  refine dr_iload_n l3 dX12_inWords_65 rfl ?_
  refine dr_istore [some (.ref l0), some (.ref l1), some (.int l2), some (.int l3), some (.int l4), some (.int s0), some (.int l3)] dX12_inWords_66 rfl rfl rfl ?_
  exact c_X12_inWords_68 k14 hk14 dtFuel l0 l1 l2 l3 l4 s0 l3 μ h
set_option maxRecDepth 100000 in
theorem c_X12_inWords_25 {r : Int32} {F : dtM} (k14 : Nat → Nat → Int32 → Int32 → dtM → Option (Int32 × dtM)) (hk14 : ∀ (l0 : Nat) (l1 : Nat) (l2 : Int32) (l3 : Int32) (μ : dtM), k14 l0 l1 l2 l3 μ = some (r, F) → dtW yX12_inWords cX12_inWords 7 (some .int) 6 (some (.int r)) F 14 [some (.ref l0), some (.ref l1), some (.int l2), some (.int l3)] [] μ) : ∀ (n : Nat) (l0 : Nat) (l1 : Nat) (l2 : Int32) (l3 : Int32) (l4 : Int32) (μ : dtM), f_X12_inWords_25 k14 n l0 l1 l2 l3 l4 μ = some (r, F) → dtW yX12_inWords cX12_inWords 7 (some .int) 6 (some (.int r)) F 25 [some (.ref l0), some (.ref l1), some (.int l2), some (.int l3), some (.int l4)] [] μ := by
  intro n
  induction n with
  | zero => intro l0 l1 l2 l3 l4 μ h; cases h
  | succ n ih =>
    intro l0 l1 l2 l3 l4 μ h
    have h := (show f_X12_inWords_25 k14 (n + 1) l0 l1 l2 l3 l4 μ = some _ from h)
    rw [f_X12_inWords_25] at h
    refine dr_aload_n l1 dX12_inWords_25 rfl ?_
    refine dr_iload l4 dX12_inWords_26 rfl ?_
    obtain ⟨x1, e2, h⟩ := dtBind h
    refine dr_strcharAt x1 dX12_inWords_28 wt_1564 e2 (Nat.le_of_ble_eq_true rfl) rfl ?_
    refine dr_bipush (32 : Int32) dX12_inWords_31 (by decide) ?_
    obtain ⟨ht4, hf5⟩ := dtIte h
    refine dr_icmp_eq 42 dX12_inWords_33 (by decide) (fun hc3 => ?_) (fun hc3 => ?_)
    · have h := ht4 hc3
      refine dr_iload l4 dX12_inWords_42 rfl ?_
      refine dr_iload_n l3 dX12_inWords_44 rfl ?_
      refine dr_isub dX12_inWords_45 ?_
      refine dr_aload_n l0 dX12_inWords_46 rfl ?_
      obtain ⟨x6, e7, h⟩ := dtBind h
      refine dr_getI x6 dX12_inWords_47 fl_RX12_126 e7 ?_
      refine dr_aload_n l0 dX12_inWords_50 rfl ?_
      obtain ⟨x8, e9, h⟩ := dtBind h
      refine dr_getI x8 dX12_inWords_51 fl_RX12_132 e9 ?_
      refine dr_isub dX12_inWords_54 ?_
      obtain ⟨ht11, hf12⟩ := dtIte h
      refine dr_icmp_ne 62 dX12_inWords_55 (by decide) (fun hc10 => ?_) (fun hc10 => ?_)
      · have h := hf12 hc10
        refine dr_iconst (0 : Int32) dX12_inWords_62 (by decide) ?_
        exact c_X12_inWords_63 k14 hk14 l0 l1 l2 l3 l4 (0 : Int32) μ h
      · have h := ht11 hc10
        refine dr_iconst (1 : Int32) dX12_inWords_58 (by decide) ?_
        refine dr_goto 63 dX12_inWords_59 (by decide) ?_
        exact c_X12_inWords_63 k14 hk14 l0 l1 l2 l3 l4 (1 : Int32) μ h
    · have h := hf5 hc3
      refine dr_iinc l4 (l4 + 1) [some (.ref l0), some (.ref l1), some (.int l2), some (.int l3), some (.int (l4 + 1))] dX12_inWords_36 rfl rfl rfl rfl rfl ?_
      refine dr_goto 25 dX12_inWords_39 (by decide) ?_
      exact ih l0 l1 l2 l3 (l4 + 1) μ h
set_option maxRecDepth 100000 in
theorem c_X12_inWords_14 {r : Int32} {F : dtM} : ∀ (n : Nat) (l0 : Nat) (l1 : Nat) (l2 : Int32) (l3 : Int32) (μ : dtM), f_X12_inWords_14 n l0 l1 l2 l3 μ = some (r, F) → dtW yX12_inWords cX12_inWords 7 (some .int) 6 (some (.int r)) F 14 [some (.ref l0), some (.ref l1), some (.int l2), some (.int l3)] [] μ := by
  intro n
  induction n with
  | zero => intro l0 l1 l2 l3 μ h; cases h
  | succ n ih =>
    intro l0 l1 l2 l3 μ h
    have h := (show f_X12_inWords_14 (n + 1) l0 l1 l2 l3 μ = some _ from h)
    rw [f_X12_inWords_14] at h
    refine dr_iload_n l3 dX12_inWords_14 rfl ?_
    refine dr_aload_n l1 dX12_inWords_15 rfl ?_
    obtain ⟨x1, e2, h⟩ := dtBind h
    refine dr_strlength x1 dX12_inWords_16 wt_1563 e2 (Nat.le_of_ble_eq_true rfl) rfl ?_
    obtain ⟨ht4, hf5⟩ := dtIte h
    refine dr_icmp_ge 133 dX12_inWords_19 (by decide) (fun hc3 => ?_) (fun hc3 => ?_)
    · have h := ht4 hc3
      refine dr_iconst (-1 : Int32) dX12_inWords_133 (by decide) ?_
      cases h
      exact dr_ireturn dX12_inWords_134 rfl
    · have h := hf5 hc3
      refine dr_iload_n l3 dX12_inWords_22 rfl ?_
      refine dr_istore [some (.ref l0), some (.ref l1), some (.int l2), some (.int l3), some (.int l3)] dX12_inWords_23 rfl rfl rfl ?_
      exact c_X12_inWords_25 (f_X12_inWords_14 n) ih dtFuel l0 l1 l2 l3 l3 μ h
set_option maxRecDepth 100000 in
theorem c_X12_inWords {r : Int32} {F : dtM} (p0 : Nat) (p1 : Nat) (μ : dtM) (h : f_X12_inWords p0 p1 μ = some (r, F)) : dtMet yX12_inWords cX12_inWords 7 (some .int) 6 [.ref p0, .ref p1] μ (some (.int r)) F := by
  refine dtMet.of (by decide +kernel) (Nat.le_of_ble_eq_true rfl) (show dtW yX12_inWords cX12_inWords 7 (some .int) 6 (some (.int r)) F 0 [some (.ref p0), some (.ref p1)] [] μ from ?_)
  rw [f_X12_inWords] at h
  refine dr_aload_n p0 dX12_inWords_0 rfl ?_
  obtain ⟨x1, e2, h⟩ := dtBind h
  refine dr_getI x1 dX12_inWords_1 fl_RX12_138 e2 ?_
  refine dr_iconst (2 : Int32) dX12_inWords_4 (by decide) ?_
  obtain ⟨ht4, hf5⟩ := dtIte h
  refine dr_icmp_eq 10 dX12_inWords_5 (by decide) (fun hc3 => ?_) (fun hc3 => ?_)
  · have h := ht4 hc3
    refine dr_iconst (0 : Int32) dX12_inWords_10 (by decide) ?_
    refine dr_istore_n 2 [some (.ref p0), some (.ref p1), some (.int (0 : Int32))] dX12_inWords_11 rfl rfl rfl rfl ?_
    refine dr_iconst (1 : Int32) dX12_inWords_12 (by decide) ?_
    refine dr_istore_n 3 [some (.ref p0), some (.ref p1), some (.int (0 : Int32)), some (.int (1 : Int32))] dX12_inWords_13 rfl rfl rfl rfl ?_
    exact c_X12_inWords_14 dtFuel p0 p1 (0 : Int32) (1 : Int32) μ h
  · have h := hf5 hc3
    refine dr_iconst (-1 : Int32) dX12_inWords_8 (by decide) ?_
    cases h
    exact dr_ireturn dX12_inWords_9 rfl
/-! X12_fails -/
theorem dX12_fails_0 : decode cX12_fails 0 = .ok (.aload_n 0, 1) := by decide +kernel
theorem dX12_fails_1 : decode cX12_fails 1 = .ok (.getfield 163, 3) := by decide +kernel
theorem dX12_fails_4 : decode cX12_fails 4 = .ok (.ifCond .ne 28, 3) := by decide +kernel
theorem dX12_fails_7 : decode cX12_fails 7 = .ok (.aload_n 0, 1) := by decide +kernel
theorem dX12_fails_8 : decode cX12_fails 8 = .ok (.aload_n 0, 1) := by decide +kernel
theorem dX12_fails_9 : decode cX12_fails 9 = .ok (.getfield 138, 3) := by decide +kernel
theorem dX12_fails_12 : decode cX12_fails 12 = .ok (.iconst 1, 1) := by decide +kernel
theorem dX12_fails_13 : decode cX12_fails 13 = .ok (.if_icmp .ne 7, 3) := by decide +kernel
theorem dX12_fails_16 : decode cX12_fails 16 = .ok (.iconst 1, 1) := by decide +kernel
theorem dX12_fails_17 : decode cX12_fails 17 = .ok (.goto 4, 3) := by decide +kernel
theorem dX12_fails_20 : decode cX12_fails 20 = .ok (.iload_n 1, 1) := by decide +kernel
theorem dX12_fails_21 : decode cX12_fails 21 = .ok (.putfield 163, 3) := by decide +kernel
theorem dX12_fails_24 : decode cX12_fails 24 = .ok (.aload_n 0, 1) := by decide +kernel
theorem dX12_fails_25 : decode cX12_fails 25 = .ok (.aload_n 0, 1) := by decide +kernel
theorem dX12_fails_26 : decode cX12_fails 26 = .ok (.getfield 132, 3) := by decide +kernel
theorem dX12_fails_29 : decode cX12_fails 29 = .ok (.putfield 41, 3) := by decide +kernel
theorem dX12_fails_32 : decode cX12_fails 32 = .ok (.iconst 0, 1) := by decide +kernel
theorem dX12_fails_33 : decode cX12_fails 33 = .ok (.ireturn, 1) := by decide +kernel
set_option maxRecDepth 100000 in
def f_X12_fails_32  (μ : dtM) : Option (Int32 × dtM) :=
  opRet (0 : Int32) μ
set_option maxRecDepth 100000 in
def f_X12_fails_21 (l0 : Nat) (s0 : Nat) (s1 : Int32) (μ : dtM) : Option (Int32 × dtM) :=
  (opPI 12 18 μ s0 s1).bind fun μ1 => (opGI 12 13 μ1 l0).bind fun x3 => (opPI 12 17 μ1 l0 x3).bind fun μ5 => f_X12_fails_32 μ5
set_option maxRecDepth 100000 in
def f_X12_fails (p0 : Nat) (p1 : Int32) (μ : dtM) : Option (Int32 × dtM) :=
  (opGI 12 18 μ p0).bind fun x1 => if x1 = 0 then ((opGI 12 12 μ p0).bind fun x6 => if x6 = (1 : Int32) then (f_X12_fails_21 p0 p0 (1 : Int32) μ) else (f_X12_fails_21 p0 p0 p1 μ)) else (f_X12_fails_32 μ)
set_option maxRecDepth 100000 in
theorem c_X12_fails_32 {r : Int32} {F : dtM}  (μ : dtM) (h : f_X12_fails_32  μ = some (r, F)) : dtW yX12_fails cX12_fails 2 (some .boolean) 1 (some (.int r)) F 32 [] [] μ := by
  rw [f_X12_fails_32] at h
  refine dr_iconst (0 : Int32) dX12_fails_32 (by decide) ?_
  obtain ⟨hz, rfl, rfl⟩ := dtRet h
  exact dr_ireturn dX12_fails_33 (dtNz hz)
set_option maxRecDepth 100000 in
theorem c_X12_fails_21 {r : Int32} {F : dtM} (l0 : Nat) (s0 : Nat) (s1 : Int32) (μ : dtM) (h : f_X12_fails_21 l0 s0 s1 μ = some (r, F)) : dtW yX12_fails cX12_fails 2 (some .boolean) 1 (some (.int r)) F 21 [some (.ref l0)] [.int s1, .ref s0] μ := by
  rw [f_X12_fails_21] at h
  obtain ⟨μ1, e2, h⟩ := dtBind h
  refine dr_putI μ1 dX12_fails_21 fl_RX12_163 rfl e2 ?_
  refine dr_aload_n l0 dX12_fails_24 rfl ?_
  refine dr_aload_n l0 dX12_fails_25 rfl ?_
  obtain ⟨x3, e4, h⟩ := dtBind h
  refine dr_getI x3 dX12_fails_26 fl_RX12_132 e4 ?_
  obtain ⟨μ5, e6, h⟩ := dtBind h
  refine dr_putI μ5 dX12_fails_29 fl_RX12_41 rfl e6 ?_
  refine dr_mask [] [] rfl ?_
  exact c_X12_fails_32 μ5 h
set_option maxRecDepth 100000 in
theorem c_X12_fails {r : Int32} {F : dtM} (p0 : Nat) (p1 : Int32) (μ : dtM) (h : f_X12_fails p0 p1 μ = some (r, F)) : dtMet yX12_fails cX12_fails 2 (some .boolean) 1 [.ref p0, .int p1] μ (some (.int r)) F := by
  refine dtMet.of (by decide +kernel) (Nat.le_of_ble_eq_true rfl) (show dtW yX12_fails cX12_fails 2 (some .boolean) 1 (some (.int r)) F 0 [some (.ref p0), some (.int p1)] [] μ from ?_)
  rw [f_X12_fails] at h
  refine dr_aload_n p0 dX12_fails_0 rfl ?_
  obtain ⟨x1, e2, h⟩ := dtBind h
  refine dr_getI x1 dX12_fails_1 fl_RX12_163 e2 ?_
  obtain ⟨ht4, hf5⟩ := dtIte h
  refine dr_if_ne 32 dX12_fails_4 (by decide) (fun hc3 => ?_) (fun hc3 => ?_)
  · have h := hf5 hc3
    refine dr_mask [] [] rfl ?_
    exact c_X12_fails_32 μ h
  · have h := ht4 hc3
    refine dr_aload_n p0 dX12_fails_7 rfl ?_
    refine dr_aload_n p0 dX12_fails_8 rfl ?_
    obtain ⟨x6, e7, h⟩ := dtBind h
    refine dr_getI x6 dX12_fails_9 fl_RX12_138 e7 ?_
    refine dr_iconst (1 : Int32) dX12_fails_12 (by decide) ?_
    obtain ⟨ht9, hf10⟩ := dtIte h
    refine dr_icmp_ne 20 dX12_fails_13 (by decide) (fun hc8 => ?_) (fun hc8 => ?_)
    · have h := hf10 hc8
      refine dr_iload_n p1 dX12_fails_20 rfl ?_
      refine dr_mask [true] [some (.ref p0)] rfl ?_
      exact c_X12_fails_21 p0 p0 p1 μ h
    · have h := ht9 hc8
      refine dr_iconst (1 : Int32) dX12_fails_16 (by decide) ?_
      refine dr_goto 21 dX12_fails_17 (by decide) ?_
      refine dr_mask [true] [some (.ref p0)] rfl ?_
      exact c_X12_fails_21 p0 p0 (1 : Int32) μ h
/-! X12_begins -/
theorem dX12_begins_0 : decode cX12_begins 0 = .ok (.iload_n 1, 1) := by decide +kernel
theorem dX12_begins_1 : decode cX12_begins 1 = .ok (.ifCond .lt 16, 3) := by decide +kernel
theorem dX12_begins_4 : decode cX12_begins 4 = .ok (.iload_n 1, 1) := by decide +kernel
theorem dX12_begins_5 : decode cX12_begins 5 = .ok (.aload_n 0, 1) := by decide +kernel
theorem dX12_begins_6 : decode cX12_begins 6 = .ok (.getfield 117, 3) := by decide +kernel
theorem dX12_begins_9 : decode cX12_begins 9 = .ok (.if_icmp .gt 8, 3) := by decide +kernel
theorem dX12_begins_12 : decode cX12_begins 12 = .ok (.iload_n 1, 1) := by decide +kernel
theorem dX12_begins_13 : decode cX12_begins 13 = .ok (.iload_n 2, 1) := by decide +kernel
theorem dX12_begins_14 : decode cX12_begins 14 = .ok (.if_icmp .le 5, 3) := by decide +kernel
theorem dX12_begins_17 : decode cX12_begins 17 = .ok (.iconst 0, 1) := by decide +kernel
theorem dX12_begins_18 : decode cX12_begins 18 = .ok (.ireturn, 1) := by decide +kernel
theorem dX12_begins_19 : decode cX12_begins 19 = .ok (.aload_n 0, 1) := by decide +kernel
theorem dX12_begins_20 : decode cX12_begins 20 = .ok (.iload_n 1, 1) := by decide +kernel
theorem dX12_begins_21 : decode cX12_begins 21 = .ok (.putfield 123, 3) := by decide +kernel
theorem dX12_begins_24 : decode cX12_begins 24 = .ok (.iconst 0, 1) := by decide +kernel
theorem dX12_begins_25 : decode cX12_begins 25 = .ok (.istore_n 3, 1) := by decide +kernel
theorem dX12_begins_26 : decode cX12_begins 26 = .ok (.iload_n 3, 1) := by decide +kernel
theorem dX12_begins_27 : decode cX12_begins 27 = .ok (.iload_n 1, 1) := by decide +kernel
theorem dX12_begins_28 : decode cX12_begins 28 = .ok (.if_icmp .ge 21, 3) := by decide +kernel
theorem dX12_begins_31 : decode cX12_begins 31 = .ok (.aload_n 0, 1) := by decide +kernel
theorem dX12_begins_32 : decode cX12_begins 32 = .ok (.getfield 34, 3) := by decide +kernel
theorem dX12_begins_35 : decode cX12_begins 35 = .ok (.iload_n 3, 1) := by decide +kernel
theorem dX12_begins_36 : decode cX12_begins 36 = .ok (.aload_n 0, 1) := by decide +kernel
theorem dX12_begins_37 : decode cX12_begins 37 = .ok (.getfield 30, 3) := by decide +kernel
theorem dX12_begins_40 : decode cX12_begins 40 = .ok (.iload_n 3, 1) := by decide +kernel
theorem dX12_begins_41 : decode cX12_begins 41 = .ok (.baload, 1) := by decide +kernel
theorem dX12_begins_42 : decode cX12_begins 42 = .ok (.bastore, 1) := by decide +kernel
theorem dX12_begins_43 : decode cX12_begins 43 = .ok (.iinc 3 1, 3) := by decide +kernel
theorem dX12_begins_46 : decode cX12_begins 46 = .ok (.goto (-20), 3) := by decide +kernel
theorem dX12_begins_49 : decode cX12_begins 49 = .ok (.aload_n 0, 1) := by decide +kernel
theorem dX12_begins_50 : decode cX12_begins 50 = .ok (.iconst 0, 1) := by decide +kernel
theorem dX12_begins_51 : decode cX12_begins 51 = .ok (.putfield 117, 3) := by decide +kernel
theorem dX12_begins_54 : decode cX12_begins 54 = .ok (.aload_n 0, 1) := by decide +kernel
theorem dX12_begins_55 : decode cX12_begins 55 = .ok (.iconst 0, 1) := by decide +kernel
theorem dX12_begins_56 : decode cX12_begins 56 = .ok (.putfield 163, 3) := by decide +kernel
theorem dX12_begins_59 : decode cX12_begins 59 = .ok (.aload_n 0, 1) := by decide +kernel
theorem dX12_begins_60 : decode cX12_begins 60 = .ok (.iconst (-1), 1) := by decide +kernel
theorem dX12_begins_61 : decode cX12_begins 61 = .ok (.putfield 41, 3) := by decide +kernel
theorem dX12_begins_64 : decode cX12_begins 64 = .ok (.aload_n 0, 1) := by decide +kernel
theorem dX12_begins_65 : decode cX12_begins 65 = .ok (.iconst 0, 1) := by decide +kernel
theorem dX12_begins_66 : decode cX12_begins 66 = .ok (.putfield 126, 3) := by decide +kernel
theorem dX12_begins_69 : decode cX12_begins 69 = .ok (.aload_n 0, 1) := by decide +kernel
theorem dX12_begins_70 : decode cX12_begins 70 = .ok (.iconst 0, 1) := by decide +kernel
theorem dX12_begins_71 : decode cX12_begins 71 = .ok (.putfield 166, 3) := by decide +kernel
theorem dX12_begins_74 : decode cX12_begins 74 = .ok (.aload_n 0, 1) := by decide +kernel
theorem dX12_begins_75 : decode cX12_begins 75 = .ok (.invokevirtual 169, 3) := by decide +kernel
theorem dX12_begins_78 : decode cX12_begins 78 = .ok (.iconst 1, 1) := by decide +kernel
theorem dX12_begins_79 : decode cX12_begins 79 = .ok (.ireturn, 1) := by decide +kernel
set_option maxRecDepth 100000 in
def f_X12_begins_17  (μ : dtM) : Option (Int32 × dtM) :=
  opRet (0 : Int32) μ
set_option maxRecDepth 100000 in
def f_X12_begins_26 : Nat → Nat → Int32 → Int32 → dtM → Option (Int32 × dtM)
  | 0, _, _, _, _ => none
  | n + 1, l0, l1, l3, μ =>
    if l1 ≤ l3 then ((opPI 12 10 μ l0 (0 : Int32)).bind fun μ4 => (opPI 12 18 μ4 l0 (0 : Int32)).bind fun μ6 => (opPI 12 17 μ6 l0 (-1 : Int32)).bind fun μ8 => (opPI 12 14 μ8 l0 (0 : Int32)).bind fun μ10 => (opPI 12 19 μ10 l0 (0 : Int32)).bind fun μ12 => (opRv 12 μ12 l0).bind fun _ => (f_X12_ahead l0 μ12).bind fun μ15 => opRet (1 : Int32) μ15) else ((opGR 12 9 μ l0).bind fun x17 => (opGR 12 8 μ l0).bind fun x19 => (opLI 2 μ x19 l3).bind fun x21 => (opSB μ x17 l3 x21).bind fun μ23 => f_X12_begins_26 n l0 l1 (l3 + 1) μ23)
set_option maxRecDepth 100000 in
def f_X12_begins (p0 : Nat) (p1 : Int32) (p2 : Int32) (μ : dtM) : Option (Int32 × dtM) :=
  if p1 < 0 then (f_X12_begins_17 μ) else ((opGI 12 10 μ p0).bind fun x4 => if x4 < p1 then (f_X12_begins_17 μ) else (if p1 ≤ p2 then ((opPI 12 11 μ p0 p1).bind fun μ12 => f_X12_begins_26 dtFuel p0 p1 (0 : Int32) μ12) else (f_X12_begins_17 μ)))
set_option maxRecDepth 100000 in
theorem c_X12_begins_17 {r : Int32} {F : dtM}  (μ : dtM) (h : f_X12_begins_17  μ = some (r, F)) : dtW yX12_begins cX12_begins 4 (some .boolean) 3 (some (.int r)) F 17 [] [] μ := by
  rw [f_X12_begins_17] at h
  refine dr_iconst (0 : Int32) dX12_begins_17 (by decide) ?_
  obtain ⟨hz, rfl, rfl⟩ := dtRet h
  exact dr_ireturn dX12_begins_18 (dtNz hz)
set_option maxRecDepth 100000 in
theorem c_X12_begins_26 {r : Int32} {F : dtM} : ∀ (n : Nat) (l0 : Nat) (l1 : Int32) (l3 : Int32) (μ : dtM), f_X12_begins_26 n l0 l1 l3 μ = some (r, F) → dtW yX12_begins cX12_begins 4 (some .boolean) 3 (some (.int r)) F 26 [some (.ref l0), some (.int l1), none, some (.int l3)] [] μ := by
  intro n
  induction n with
  | zero => intro l0 l1 l3 μ h; cases h
  | succ n ih =>
    intro l0 l1 l3 μ h
    have h := (show f_X12_begins_26 (n + 1) l0 l1 l3 μ = some _ from h)
    rw [f_X12_begins_26] at h
    refine dr_iload_n l3 dX12_begins_26 rfl ?_
    refine dr_iload_n l1 dX12_begins_27 rfl ?_
    obtain ⟨ht2, hf3⟩ := dtIte h
    refine dr_icmp_ge 49 dX12_begins_28 (by decide) (fun hc1 => ?_) (fun hc1 => ?_)
    · have h := ht2 hc1
      refine dr_aload_n l0 dX12_begins_49 rfl ?_
      refine dr_iconst (0 : Int32) dX12_begins_50 (by decide) ?_
      obtain ⟨μ4, e5, h⟩ := dtBind h
      refine dr_putI μ4 dX12_begins_51 fl_RX12_117 rfl e5 ?_
      refine dr_aload_n l0 dX12_begins_54 rfl ?_
      refine dr_iconst (0 : Int32) dX12_begins_55 (by decide) ?_
      obtain ⟨μ6, e7, h⟩ := dtBind h
      refine dr_putI μ6 dX12_begins_56 fl_RX12_163 rfl e7 ?_
      refine dr_aload_n l0 dX12_begins_59 rfl ?_
      refine dr_iconst (-1 : Int32) dX12_begins_60 (by decide) ?_
      obtain ⟨μ8, e9, h⟩ := dtBind h
      refine dr_putI μ8 dX12_begins_61 fl_RX12_41 rfl e9 ?_
      refine dr_aload_n l0 dX12_begins_64 rfl ?_
      refine dr_iconst (0 : Int32) dX12_begins_65 (by decide) ?_
      obtain ⟨μ10, e11, h⟩ := dtBind h
      refine dr_putI μ10 dX12_begins_66 fl_RX12_126 rfl e11 ?_
      refine dr_aload_n l0 dX12_begins_69 rfl ?_
      refine dr_iconst (0 : Int32) dX12_begins_70 (by decide) ?_
      obtain ⟨μ12, e13, h⟩ := dtBind h
      refine dr_putI μ12 dX12_begins_71 fl_RX12_166 rfl e13 ?_
      refine dr_aload_n l0 dX12_begins_74 rfl ?_
      obtain ⟨_, hb14, h⟩ := dtBind h
      obtain ⟨μ15, e16, h⟩ := dtBind h
      refine dr_callV_v (S0 := []) [] μ15 dX12_begins_75 (c_X12_ahead l0 μ12 e16) mf_X12_ahead wt_1536 ws_57 wt_1534 rfl (dtRv hb14) (by decide) rfl (Nat.le_of_ble_eq_true rfl) (Nat.le_of_ble_eq_true rfl) rfl ?_
      refine dr_iconst (1 : Int32) dX12_begins_78 (by decide) ?_
      obtain ⟨hz, rfl, rfl⟩ := dtRet h
      exact dr_ireturn dX12_begins_79 (dtNz hz)
    · have h := hf3 hc1
      refine dr_aload_n l0 dX12_begins_31 rfl ?_
      obtain ⟨x17, e18, h⟩ := dtBind h
      refine dr_getR x17 dX12_begins_32 fl_RX12_34 e18 ?_
      refine dr_iload_n l3 dX12_begins_35 rfl ?_
      refine dr_aload_n l0 dX12_begins_36 rfl ?_
      obtain ⟨x19, e20, h⟩ := dtBind h
      refine dr_getR x19 dX12_begins_37 fl_RX12_30 e20 ?_
      refine dr_iload_n l3 dX12_begins_40 rfl ?_
      obtain ⟨x21, e22, h⟩ := dtBind h
      refine dr_baload x21 dX12_begins_41 e22 ?_
      obtain ⟨μ23, e24, h⟩ := dtBind h
      refine dr_bastore μ23 dX12_begins_42 e24 ?_
      refine dr_iinc l3 (l3 + 1) [some (.ref l0), some (.int l1), none, some (.int (l3 + 1))] dX12_begins_43 rfl rfl rfl rfl rfl ?_
      refine dr_goto 26 dX12_begins_46 (by decide) ?_
      exact ih l0 l1 (l3 + 1) μ23 h
set_option maxRecDepth 100000 in
theorem c_X12_begins {r : Int32} {F : dtM} (p0 : Nat) (p1 : Int32) (p2 : Int32) (μ : dtM) (h : f_X12_begins p0 p1 p2 μ = some (r, F)) : dtMet yX12_begins cX12_begins 4 (some .boolean) 3 [.ref p0, .int p1, .int p2] μ (some (.int r)) F := by
  refine dtMet.of (by decide +kernel) (Nat.le_of_ble_eq_true rfl) (show dtW yX12_begins cX12_begins 4 (some .boolean) 3 (some (.int r)) F 0 [some (.ref p0), some (.int p1), some (.int p2)] [] μ from ?_)
  rw [f_X12_begins] at h
  refine dr_iload_n p1 dX12_begins_0 rfl ?_
  obtain ⟨ht2, hf3⟩ := dtIte h
  refine dr_if_lt 17 dX12_begins_1 (by decide) (fun hc1 => ?_) (fun hc1 => ?_)
  · have h := ht2 hc1
    refine dr_mask [] [] rfl ?_
    exact c_X12_begins_17 μ h
  · have h := hf3 hc1
    refine dr_iload_n p1 dX12_begins_4 rfl ?_
    refine dr_aload_n p0 dX12_begins_5 rfl ?_
    obtain ⟨x4, e5, h⟩ := dtBind h
    refine dr_getI x4 dX12_begins_6 fl_RX12_117 e5 ?_
    obtain ⟨ht7, hf8⟩ := dtIte h
    refine dr_icmp_gt 17 dX12_begins_9 (by decide) (fun hc6 => ?_) (fun hc6 => ?_)
    · have h := ht7 hc6
      refine dr_mask [] [] rfl ?_
      exact c_X12_begins_17 μ h
    · have h := hf8 hc6
      refine dr_iload_n p1 dX12_begins_12 rfl ?_
      refine dr_iload_n p2 dX12_begins_13 rfl ?_
      obtain ⟨ht10, hf11⟩ := dtIte h
      refine dr_icmp_le 19 dX12_begins_14 (by decide) (fun hc9 => ?_) (fun hc9 => ?_)
      · have h := ht10 hc9
        refine dr_aload_n p0 dX12_begins_19 rfl ?_
        refine dr_iload_n p1 dX12_begins_20 rfl ?_
        obtain ⟨μ12, e13, h⟩ := dtBind h
        refine dr_putI μ12 dX12_begins_21 fl_RX12_123 rfl e13 ?_
        refine dr_iconst (0 : Int32) dX12_begins_24 (by decide) ?_
        refine dr_istore_n 3 [some (.ref p0), some (.int p1), some (.int p2), some (.int (0 : Int32))] dX12_begins_25 rfl rfl rfl rfl ?_
        refine dr_mask [true, true, false, true] [some (.ref p0), some (.int p1), none, some (.int (0 : Int32))] rfl ?_
        exact c_X12_begins_26 dtFuel p0 p1 (0 : Int32) μ12 h
      · have h := hf11 hc9
        refine dr_mask [] [] rfl ?_
        exact c_X12_begins_17 μ h
/-! X12_wantSign -/
theorem dX12_wantSign_0 : decode cX12_wantSign 0 = .ok (.aload_n 0, 1) := by decide +kernel
theorem dX12_wantSign_1 : decode cX12_wantSign 1 = .ok (.iload_n 1, 1) := by decide +kernel
theorem dX12_wantSign_2 : decode cX12_wantSign 2 = .ok (.invokevirtual 172, 3) := by decide +kernel
theorem dX12_wantSign_5 : decode cX12_wantSign 5 = .ok (.ifCond .ne 9, 3) := by decide +kernel
theorem dX12_wantSign_8 : decode cX12_wantSign 8 = .ok (.aload_n 0, 1) := by decide +kernel
theorem dX12_wantSign_9 : decode cX12_wantSign 9 = .ok (.iconst 2, 1) := by decide +kernel
theorem dX12_wantSign_10 : decode cX12_wantSign 10 = .ok (.invokevirtual 175, 3) := by decide +kernel
theorem dX12_wantSign_13 : decode cX12_wantSign 13 = .ok (.ireturn, 1) := by decide +kernel
theorem dX12_wantSign_14 : decode cX12_wantSign 14 = .ok (.aload_n 0, 1) := by decide +kernel
theorem dX12_wantSign_15 : decode cX12_wantSign 15 = .ok (.invokevirtual 169, 3) := by decide +kernel
theorem dX12_wantSign_18 : decode cX12_wantSign 18 = .ok (.iconst 1, 1) := by decide +kernel
theorem dX12_wantSign_19 : decode cX12_wantSign 19 = .ok (.ireturn, 1) := by decide +kernel
set_option maxRecDepth 100000 in
def f_X12_wantSign (p0 : Nat) (p1 : Int32) (μ : dtM) : Option (Int32 × dtM) :=
  (opRv 12 μ p0).bind fun _ => opCall (f_X12_isSign p0 p1 μ) fun x4 μ2 => if x4 = 0 then ((opRv 12 μ2 p0).bind fun _ => opCall (f_X12_fails p0 (2 : Int32) μ2) fun x14 μ12 => opRet x14 μ12) else ((opRv 12 μ2 p0).bind fun _ => (f_X12_ahead p0 μ2).bind fun μ9 => opRet (1 : Int32) μ9)
set_option maxRecDepth 100000 in
theorem c_X12_wantSign {r : Int32} {F : dtM} (p0 : Nat) (p1 : Int32) (μ : dtM) (h : f_X12_wantSign p0 p1 μ = some (r, F)) : dtMet yX12_wantSign cX12_wantSign 2 (some .boolean) 3 [.ref p0, .int p1] μ (some (.int r)) F := by
  refine dtMet.of (by decide +kernel) (Nat.le_of_ble_eq_true rfl) (show dtW yX12_wantSign cX12_wantSign 2 (some .boolean) 3 (some (.int r)) F 0 [some (.ref p0), some (.int p1)] [] μ from ?_)
  rw [f_X12_wantSign] at h
  refine dr_aload_n p0 dX12_wantSign_0 rfl ?_
  refine dr_iload_n p1 dX12_wantSign_1 rfl ?_
  obtain ⟨_, hb1, h⟩ := dtBind h
  obtain ⟨x4, μ2, e3, h⟩ := dtCall h
  refine dr_callV_i (S0 := []) [.int p1] x4 μ2 dX12_wantSign_2 (c_X12_isSign p0 p1 μ e3) mf_X12_isSign wt_1637 ws_78 wt_1635 rfl (dtRv hb1) (by decide) rfl (Nat.le_of_ble_eq_true rfl) (Nat.le_of_ble_eq_true rfl) rfl ?_
  obtain ⟨ht6, hf7⟩ := dtIte h
  refine dr_if_ne 14 dX12_wantSign_5 (by decide) (fun hc5 => ?_) (fun hc5 => ?_)
  · have h := hf7 hc5
    refine dr_aload_n p0 dX12_wantSign_14 rfl ?_
    obtain ⟨_, hb8, h⟩ := dtBind h
    obtain ⟨μ9, e10, h⟩ := dtBind h
    refine dr_callV_v (S0 := []) [] μ9 dX12_wantSign_15 (c_X12_ahead p0 μ2 e10) mf_X12_ahead wt_1536 ws_57 wt_1534 rfl (dtRv hb8) (by decide) rfl (Nat.le_of_ble_eq_true rfl) (Nat.le_of_ble_eq_true rfl) rfl ?_
    refine dr_iconst (1 : Int32) dX12_wantSign_18 (by decide) ?_
    obtain ⟨hz, rfl, rfl⟩ := dtRet h
    exact dr_ireturn dX12_wantSign_19 (dtNz hz)
  · have h := ht6 hc5
    refine dr_aload_n p0 dX12_wantSign_8 rfl ?_
    refine dr_iconst (2 : Int32) dX12_wantSign_9 (by decide) ?_
    obtain ⟨_, hb11, h⟩ := dtBind h
    obtain ⟨x14, μ12, e13, h⟩ := dtCall h
    refine dr_callV_i (S0 := []) [.int (2 : Int32)] x14 μ12 dX12_wantSign_10 (c_X12_fails p0 (2 : Int32) μ2 e13) mf_X12_fails wt_1567 ws_62 wt_1565 rfl (dtRv hb11) (by decide) rfl (Nat.le_of_ble_eq_true rfl) (Nat.le_of_ble_eq_true rfl) rfl ?_
    obtain ⟨hz, rfl, rfl⟩ := dtRet h
    exact dr_ireturn dX12_wantSign_13 (dtNz hz)
/-! X12_wantWord -/
theorem dX12_wantWord_0 : decode cX12_wantWord 0 = .ok (.aload_n 0, 1) := by decide +kernel
theorem dX12_wantWord_1 : decode cX12_wantWord 1 = .ok (.aload_n 1, 1) := by decide +kernel
theorem dX12_wantWord_2 : decode cX12_wantWord 2 = .ok (.invokevirtual 178, 3) := by decide +kernel
theorem dX12_wantWord_5 : decode cX12_wantWord 5 = .ok (.iload_n 2, 1) := by decide +kernel
theorem dX12_wantWord_6 : decode cX12_wantWord 6 = .ok (.if_icmp .eq 9, 3) := by decide +kernel
theorem dX12_wantWord_9 : decode cX12_wantWord 9 = .ok (.aload_n 0, 1) := by decide +kernel
theorem dX12_wantWord_10 : decode cX12_wantWord 10 = .ok (.iconst 2, 1) := by decide +kernel
theorem dX12_wantWord_11 : decode cX12_wantWord 11 = .ok (.invokevirtual 175, 3) := by decide +kernel
theorem dX12_wantWord_14 : decode cX12_wantWord 14 = .ok (.ireturn, 1) := by decide +kernel
theorem dX12_wantWord_15 : decode cX12_wantWord 15 = .ok (.aload_n 0, 1) := by decide +kernel
theorem dX12_wantWord_16 : decode cX12_wantWord 16 = .ok (.invokevirtual 169, 3) := by decide +kernel
theorem dX12_wantWord_19 : decode cX12_wantWord 19 = .ok (.iconst 1, 1) := by decide +kernel
theorem dX12_wantWord_20 : decode cX12_wantWord 20 = .ok (.ireturn, 1) := by decide +kernel
set_option maxRecDepth 100000 in
def f_X12_wantWord (p0 : Nat) (p1 : Nat) (p2 : Int32) (μ : dtM) : Option (Int32 × dtM) :=
  (opRv 12 μ p0).bind fun _ => opCall (f_X12_inWords p0 p1 μ) fun x4 μ2 => if x4 = p2 then ((opRv 12 μ2 p0).bind fun _ => (f_X12_ahead p0 μ2).bind fun μ9 => opRet (1 : Int32) μ9) else ((opRv 12 μ2 p0).bind fun _ => opCall (f_X12_fails p0 (2 : Int32) μ2) fun x14 μ12 => opRet x14 μ12)
set_option maxRecDepth 100000 in
theorem c_X12_wantWord {r : Int32} {F : dtM} (p0 : Nat) (p1 : Nat) (p2 : Int32) (μ : dtM) (h : f_X12_wantWord p0 p1 p2 μ = some (r, F)) : dtMet yX12_wantWord cX12_wantWord 3 (some .boolean) 7 [.ref p0, .ref p1, .int p2] μ (some (.int r)) F := by
  refine dtMet.of (by decide +kernel) (Nat.le_of_ble_eq_true rfl) (show dtW yX12_wantWord cX12_wantWord 3 (some .boolean) 7 (some (.int r)) F 0 [some (.ref p0), some (.ref p1), some (.int p2)] [] μ from ?_)
  rw [f_X12_wantWord] at h
  refine dr_aload_n p0 dX12_wantWord_0 rfl ?_
  refine dr_aload_n p1 dX12_wantWord_1 rfl ?_
  obtain ⟨_, hb1, h⟩ := dtBind h
  obtain ⟨x4, μ2, e3, h⟩ := dtCall h
  refine dr_callV_i (S0 := []) [.ref p1] x4 μ2 dX12_wantWord_2 (c_X12_inWords p0 p1 μ e3) mf_X12_inWords wt_1561 ws_61 wt_1559 rfl (dtRv hb1) (by decide) rfl (Nat.le_of_ble_eq_true rfl) (Nat.le_of_ble_eq_true rfl) rfl ?_
  refine dr_iload_n p2 dX12_wantWord_5 rfl ?_
  obtain ⟨ht6, hf7⟩ := dtIte h
  refine dr_icmp_eq 15 dX12_wantWord_6 (by decide) (fun hc5 => ?_) (fun hc5 => ?_)
  · have h := ht6 hc5
    refine dr_aload_n p0 dX12_wantWord_15 rfl ?_
    obtain ⟨_, hb8, h⟩ := dtBind h
    obtain ⟨μ9, e10, h⟩ := dtBind h
    refine dr_callV_v (S0 := []) [] μ9 dX12_wantWord_16 (c_X12_ahead p0 μ2 e10) mf_X12_ahead wt_1536 ws_57 wt_1534 rfl (dtRv hb8) (by decide) rfl (Nat.le_of_ble_eq_true rfl) (Nat.le_of_ble_eq_true rfl) rfl ?_
    refine dr_iconst (1 : Int32) dX12_wantWord_19 (by decide) ?_
    obtain ⟨hz, rfl, rfl⟩ := dtRet h
    exact dr_ireturn dX12_wantWord_20 (dtNz hz)
  · have h := hf7 hc5
    refine dr_aload_n p0 dX12_wantWord_9 rfl ?_
    refine dr_iconst (2 : Int32) dX12_wantWord_10 (by decide) ?_
    obtain ⟨_, hb11, h⟩ := dtBind h
    obtain ⟨x14, μ12, e13, h⟩ := dtCall h
    refine dr_callV_i (S0 := []) [.int (2 : Int32)] x14 μ12 dX12_wantWord_11 (c_X12_fails p0 (2 : Int32) μ2 e13) mf_X12_fails wt_1567 ws_62 wt_1565 rfl (dtRv hb11) (by decide) rfl (Nat.le_of_ble_eq_true rfl) (Nat.le_of_ble_eq_true rfl) rfl ?_
    obtain ⟨hz, rfl, rfl⟩ := dtRet h
    exact dr_ireturn dX12_wantWord_14 (dtNz hz)
/-! X12_number -/
theorem dX12_number_0 : decode cX12_number 0 = .ok (.aload_n 0, 1) := by decide +kernel
theorem dX12_number_1 : decode cX12_number 1 = .ok (.getfield 138, 3) := by decide +kernel
theorem dX12_number_4 : decode cX12_number 4 = .ok (.iconst 3, 1) := by decide +kernel
theorem dX12_number_5 : decode cX12_number 5 = .ok (.if_icmp .eq 9, 3) := by decide +kernel
theorem dX12_number_8 : decode cX12_number 8 = .ok (.aload_n 0, 1) := by decide +kernel
theorem dX12_number_9 : decode cX12_number 9 = .ok (.iconst 2, 1) := by decide +kernel
theorem dX12_number_10 : decode cX12_number 10 = .ok (.invokevirtual 175, 3) := by decide +kernel
theorem dX12_number_13 : decode cX12_number 13 = .ok (.ireturn, 1) := by decide +kernel
theorem dX12_number_14 : decode cX12_number 14 = .ok (.aload_n 0, 1) := by decide +kernel
theorem dX12_number_15 : decode cX12_number 15 = .ok (.getfield 135, 3) := by decide +kernel
theorem dX12_number_18 : decode cX12_number 18 = .ok (.iload_n 2, 1) := by decide +kernel
theorem dX12_number_19 : decode cX12_number 19 = .ok (.if_icmp .lt 11, 3) := by decide +kernel
theorem dX12_number_22 : decode cX12_number 22 = .ok (.aload_n 0, 1) := by decide +kernel
theorem dX12_number_23 : decode cX12_number 23 = .ok (.getfield 135, 3) := by decide +kernel
theorem dX12_number_26 : decode cX12_number 26 = .ok (.iload_n 3, 1) := by decide +kernel
theorem dX12_number_27 : decode cX12_number 27 = .ok (.if_icmp .le 9, 3) := by decide +kernel
theorem dX12_number_30 : decode cX12_number 30 = .ok (.aload_n 0, 1) := by decide +kernel
theorem dX12_number_31 : decode cX12_number 31 = .ok (.iconst 4, 1) := by decide +kernel
theorem dX12_number_32 : decode cX12_number 32 = .ok (.invokevirtual 175, 3) := by decide +kernel
theorem dX12_number_35 : decode cX12_number 35 = .ok (.ireturn, 1) := by decide +kernel
theorem dX12_number_36 : decode cX12_number 36 = .ok (.aload_n 0, 1) := by decide +kernel
theorem dX12_number_37 : decode cX12_number 37 = .ok (.getfield 7, 3) := by decide +kernel
theorem dX12_number_40 : decode cX12_number 40 = .ok (.iload_n 1, 1) := by decide +kernel
theorem dX12_number_41 : decode cX12_number 41 = .ok (.aload_n 0, 1) := by decide +kernel
theorem dX12_number_42 : decode cX12_number 42 = .ok (.getfield 135, 3) := by decide +kernel
theorem dX12_number_45 : decode cX12_number 45 = .ok (.iastore, 1) := by decide +kernel
theorem dX12_number_46 : decode cX12_number 46 = .ok (.aload_n 0, 1) := by decide +kernel
theorem dX12_number_47 : decode cX12_number 47 = .ok (.invokevirtual 169, 3) := by decide +kernel
theorem dX12_number_50 : decode cX12_number 50 = .ok (.iconst 1, 1) := by decide +kernel
theorem dX12_number_51 : decode cX12_number 51 = .ok (.ireturn, 1) := by decide +kernel
set_option maxRecDepth 100000 in
def f_X12_number_30 (l0 : Nat) (μ : dtM) : Option (Int32 × dtM) :=
  (opRv 12 μ l0).bind fun _ => opCall (f_X12_fails l0 (4 : Int32) μ) fun x4 μ2 => opRet x4 μ2
set_option maxRecDepth 100000 in
def f_X12_number (p0 : Nat) (p1 : Int32) (p2 : Int32) (p3 : Int32) (μ : dtM) : Option (Int32 × dtM) :=
  (opGI 12 12 μ p0).bind fun x1 => if x1 = (3 : Int32) then ((opGI 12 15 μ p0).bind fun x6 => if x6 < p2 then (f_X12_number_30 p0 μ) else ((opGI 12 15 μ p0).bind fun x11 => if x11 ≤ p3 then ((opGR 12 0 μ p0).bind fun x16 => (opGI 12 15 μ p0).bind fun x18 => (opSI μ x16 p1 x18).bind fun μ20 => (opRv 12 μ20 p0).bind fun _ => (f_X12_ahead p0 μ20).bind fun μ23 => opRet (1 : Int32) μ23) else (f_X12_number_30 p0 μ))) else ((opRv 12 μ p0).bind fun _ => opCall (f_X12_fails p0 (2 : Int32) μ) fun x28 μ26 => opRet x28 μ26)
set_option maxRecDepth 100000 in
theorem c_X12_number_30 {r : Int32} {F : dtM} (l0 : Nat) (μ : dtM) (h : f_X12_number_30 l0 μ = some (r, F)) : dtW yX12_number cX12_number 4 (some .boolean) 3 (some (.int r)) F 30 [some (.ref l0)] [] μ := by
  rw [f_X12_number_30] at h
  refine dr_aload_n l0 dX12_number_30 rfl ?_
  refine dr_iconst (4 : Int32) dX12_number_31 (by decide) ?_
  obtain ⟨_, hb1, h⟩ := dtBind h
  obtain ⟨x4, μ2, e3, h⟩ := dtCall h
  refine dr_callV_i (S0 := []) [.int (4 : Int32)] x4 μ2 dX12_number_32 (c_X12_fails l0 (4 : Int32) μ e3) mf_X12_fails wt_1567 ws_62 wt_1565 rfl (dtRv hb1) (by decide) rfl (Nat.le_of_ble_eq_true rfl) (Nat.le_of_ble_eq_true rfl) rfl ?_
  obtain ⟨hz, rfl, rfl⟩ := dtRet h
  exact dr_ireturn dX12_number_35 (dtNz hz)
set_option maxRecDepth 100000 in
theorem c_X12_number {r : Int32} {F : dtM} (p0 : Nat) (p1 : Int32) (p2 : Int32) (p3 : Int32) (μ : dtM) (h : f_X12_number p0 p1 p2 p3 μ = some (r, F)) : dtMet yX12_number cX12_number 4 (some .boolean) 3 [.ref p0, .int p1, .int p2, .int p3] μ (some (.int r)) F := by
  refine dtMet.of (by decide +kernel) (Nat.le_of_ble_eq_true rfl) (show dtW yX12_number cX12_number 4 (some .boolean) 3 (some (.int r)) F 0 [some (.ref p0), some (.int p1), some (.int p2), some (.int p3)] [] μ from ?_)
  rw [f_X12_number] at h
  refine dr_aload_n p0 dX12_number_0 rfl ?_
  obtain ⟨x1, e2, h⟩ := dtBind h
  refine dr_getI x1 dX12_number_1 fl_RX12_138 e2 ?_
  refine dr_iconst (3 : Int32) dX12_number_4 (by decide) ?_
  obtain ⟨ht4, hf5⟩ := dtIte h
  refine dr_icmp_eq 14 dX12_number_5 (by decide) (fun hc3 => ?_) (fun hc3 => ?_)
  · have h := ht4 hc3
    refine dr_aload_n p0 dX12_number_14 rfl ?_
    obtain ⟨x6, e7, h⟩ := dtBind h
    refine dr_getI x6 dX12_number_15 fl_RX12_135 e7 ?_
    refine dr_iload_n p2 dX12_number_18 rfl ?_
    obtain ⟨ht9, hf10⟩ := dtIte h
    refine dr_icmp_lt 30 dX12_number_19 (by decide) (fun hc8 => ?_) (fun hc8 => ?_)
    · have h := ht9 hc8
      refine dr_mask [true] [some (.ref p0)] rfl ?_
      exact c_X12_number_30 p0 μ h
    · have h := hf10 hc8
      refine dr_aload_n p0 dX12_number_22 rfl ?_
      obtain ⟨x11, e12, h⟩ := dtBind h
      refine dr_getI x11 dX12_number_23 fl_RX12_135 e12 ?_
      refine dr_iload_n p3 dX12_number_26 rfl ?_
      obtain ⟨ht14, hf15⟩ := dtIte h
      refine dr_icmp_le 36 dX12_number_27 (by decide) (fun hc13 => ?_) (fun hc13 => ?_)
      · have h := ht14 hc13
        refine dr_aload_n p0 dX12_number_36 rfl ?_
        obtain ⟨x16, e17, h⟩ := dtBind h
        refine dr_getR x16 dX12_number_37 fl_RX12_7 e17 ?_
        refine dr_iload_n p1 dX12_number_40 rfl ?_
        refine dr_aload_n p0 dX12_number_41 rfl ?_
        obtain ⟨x18, e19, h⟩ := dtBind h
        refine dr_getI x18 dX12_number_42 fl_RX12_135 e19 ?_
        obtain ⟨μ20, e21, h⟩ := dtBind h
        refine dr_iastore μ20 dX12_number_45 e21 ?_
        refine dr_aload_n p0 dX12_number_46 rfl ?_
        obtain ⟨_, hb22, h⟩ := dtBind h
        obtain ⟨μ23, e24, h⟩ := dtBind h
        refine dr_callV_v (S0 := []) [] μ23 dX12_number_47 (c_X12_ahead p0 μ20 e24) mf_X12_ahead wt_1536 ws_57 wt_1534 rfl (dtRv hb22) (by decide) rfl (Nat.le_of_ble_eq_true rfl) (Nat.le_of_ble_eq_true rfl) rfl ?_
        refine dr_iconst (1 : Int32) dX12_number_50 (by decide) ?_
        obtain ⟨hz, rfl, rfl⟩ := dtRet h
        exact dr_ireturn dX12_number_51 (dtNz hz)
      · have h := hf15 hc13
        refine dr_mask [true] [some (.ref p0)] rfl ?_
        exact c_X12_number_30 p0 μ h
  · have h := hf5 hc3
    refine dr_aload_n p0 dX12_number_8 rfl ?_
    refine dr_iconst (2 : Int32) dX12_number_9 (by decide) ?_
    obtain ⟨_, hb25, h⟩ := dtBind h
    obtain ⟨x28, μ26, e27, h⟩ := dtCall h
    refine dr_callV_i (S0 := []) [.int (2 : Int32)] x28 μ26 dX12_number_10 (c_X12_fails p0 (2 : Int32) μ e27) mf_X12_fails wt_1567 ws_62 wt_1565 rfl (dtRv hb25) (by decide) rfl (Nat.le_of_ble_eq_true rfl) (Nat.le_of_ble_eq_true rfl) rfl ?_
    obtain ⟨hz, rfl, rfl⟩ := dtRet h
    exact dr_ireturn dX12_number_13 (dtNz hz)
/-! X12_isName -/
theorem dX12_isName_0 : decode cX12_isName 0 = .ok (.aload_n 0, 1) := by decide +kernel
theorem dX12_isName_1 : decode cX12_isName 1 = .ok (.getfield 138, 3) := by decide +kernel
theorem dX12_isName_4 : decode cX12_isName 4 = .ok (.iconst 2, 1) := by decide +kernel
theorem dX12_isName_5 : decode cX12_isName 5 = .ok (.if_icmp .ne 30, 3) := by decide +kernel
theorem dX12_isName_8 : decode cX12_isName 8 = .ok (.aload_n 0, 1) := by decide +kernel
theorem dX12_isName_9 : decode cX12_isName 9 = .ok (.getfield 126, 3) := by decide +kernel
theorem dX12_isName_12 : decode cX12_isName 12 = .ok (.aload_n 0, 1) := by decide +kernel
theorem dX12_isName_13 : decode cX12_isName 13 = .ok (.getfield 132, 3) := by decide +kernel
theorem dX12_isName_16 : decode cX12_isName 16 = .ok (.isub, 1) := by decide +kernel
theorem dX12_isName_17 : decode cX12_isName 17 = .ok (.bipush 8, 2) := by decide +kernel
theorem dX12_isName_19 : decode cX12_isName 19 = .ok (.if_icmp .gt 16, 3) := by decide +kernel
theorem dX12_isName_22 : decode cX12_isName 22 = .ok (.aload_n 0, 1) := by decide +kernel
theorem dX12_isName_23 : decode cX12_isName 23 = .ok (.aload_n 1, 1) := by decide +kernel
theorem dX12_isName_24 : decode cX12_isName 24 = .ok (.invokevirtual 178, 3) := by decide +kernel
theorem dX12_isName_27 : decode cX12_isName 27 = .ok (.iconst (-1), 1) := by decide +kernel
theorem dX12_isName_28 : decode cX12_isName 28 = .ok (.if_icmp .ne 7, 3) := by decide +kernel
theorem dX12_isName_31 : decode cX12_isName 31 = .ok (.iconst 1, 1) := by decide +kernel
theorem dX12_isName_32 : decode cX12_isName 32 = .ok (.goto 4, 3) := by decide +kernel
theorem dX12_isName_35 : decode cX12_isName 35 = .ok (.iconst 0, 1) := by decide +kernel
theorem dX12_isName_36 : decode cX12_isName 36 = .ok (.ireturn, 1) := by decide +kernel
set_option maxRecDepth 100000 in
def f_X12_isName_36 (s0 : Int32) (μ : dtM) : Option (Int32 × dtM) :=
  opRet s0 μ
set_option maxRecDepth 100000 in
def f_X12_isName_35  (μ : dtM) : Option (Int32 × dtM) :=
  f_X12_isName_36 (0 : Int32) μ
set_option maxRecDepth 100000 in
def f_X12_isName (p0 : Nat) (p1 : Nat) (μ : dtM) : Option (Int32 × dtM) :=
  (opGI 12 12 μ p0).bind fun x1 => if x1 = (2 : Int32) then ((opGI 12 14 μ p0).bind fun x6 => (opGI 12 13 μ p0).bind fun x8 => if (8 : Int32) < (x6 - x8) then (f_X12_isName_35 μ) else ((opRv 12 μ p0).bind fun _ => opCall (f_X12_inWords p0 p1 μ) fun x16 μ14 => if x16 = (-1 : Int32) then (f_X12_isName_36 (1 : Int32) μ14) else (f_X12_isName_35 μ14))) else (f_X12_isName_35 μ)
set_option maxRecDepth 100000 in
theorem c_X12_isName_36 {r : Int32} {F : dtM} (s0 : Int32) (μ : dtM) (h : f_X12_isName_36 s0 μ = some (r, F)) : dtW yX12_isName cX12_isName 2 (some .boolean) 7 (some (.int r)) F 36 [] [.int s0] μ := by
  rw [f_X12_isName_36] at h
  obtain ⟨hz, rfl, rfl⟩ := dtRet h
  exact dr_ireturn dX12_isName_36 (dtNz hz)
set_option maxRecDepth 100000 in
theorem c_X12_isName_35 {r : Int32} {F : dtM}  (μ : dtM) (h : f_X12_isName_35  μ = some (r, F)) : dtW yX12_isName cX12_isName 2 (some .boolean) 7 (some (.int r)) F 35 [] [] μ := by
  rw [f_X12_isName_35] at h
  refine dr_iconst (0 : Int32) dX12_isName_35 (by decide) ?_
  exact c_X12_isName_36 (0 : Int32) μ h
set_option maxRecDepth 100000 in
theorem c_X12_isName {r : Int32} {F : dtM} (p0 : Nat) (p1 : Nat) (μ : dtM) (h : f_X12_isName p0 p1 μ = some (r, F)) : dtMet yX12_isName cX12_isName 2 (some .boolean) 7 [.ref p0, .ref p1] μ (some (.int r)) F := by
  refine dtMet.of (by decide +kernel) (Nat.le_of_ble_eq_true rfl) (show dtW yX12_isName cX12_isName 2 (some .boolean) 7 (some (.int r)) F 0 [some (.ref p0), some (.ref p1)] [] μ from ?_)
  rw [f_X12_isName] at h
  refine dr_aload_n p0 dX12_isName_0 rfl ?_
  obtain ⟨x1, e2, h⟩ := dtBind h
  refine dr_getI x1 dX12_isName_1 fl_RX12_138 e2 ?_
  refine dr_iconst (2 : Int32) dX12_isName_4 (by decide) ?_
  obtain ⟨ht4, hf5⟩ := dtIte h
  refine dr_icmp_ne 35 dX12_isName_5 (by decide) (fun hc3 => ?_) (fun hc3 => ?_)
  · have h := hf5 hc3
    refine dr_mask [] [] rfl ?_
    exact c_X12_isName_35 μ h
  · have h := ht4 hc3
    refine dr_aload_n p0 dX12_isName_8 rfl ?_
    obtain ⟨x6, e7, h⟩ := dtBind h
    refine dr_getI x6 dX12_isName_9 fl_RX12_126 e7 ?_
    refine dr_aload_n p0 dX12_isName_12 rfl ?_
    obtain ⟨x8, e9, h⟩ := dtBind h
    refine dr_getI x8 dX12_isName_13 fl_RX12_132 e9 ?_
    refine dr_isub dX12_isName_16 ?_
    refine dr_bipush (8 : Int32) dX12_isName_17 (by decide) ?_
    obtain ⟨ht11, hf12⟩ := dtIte h
    refine dr_icmp_gt 35 dX12_isName_19 (by decide) (fun hc10 => ?_) (fun hc10 => ?_)
    · have h := ht11 hc10
      refine dr_mask [] [] rfl ?_
      exact c_X12_isName_35 μ h
    · have h := hf12 hc10
      refine dr_aload_n p0 dX12_isName_22 rfl ?_
      refine dr_aload_n p1 dX12_isName_23 rfl ?_
      obtain ⟨_, hb13, h⟩ := dtBind h
      obtain ⟨x16, μ14, e15, h⟩ := dtCall h
      refine dr_callV_i (S0 := []) [.ref p1] x16 μ14 dX12_isName_24 (c_X12_inWords p0 p1 μ e15) mf_X12_inWords wt_1561 ws_61 wt_1559 rfl (dtRv hb13) (by decide) rfl (Nat.le_of_ble_eq_true rfl) (Nat.le_of_ble_eq_true rfl) rfl ?_
      refine dr_iconst (-1 : Int32) dX12_isName_27 (by decide) ?_
      obtain ⟨ht18, hf19⟩ := dtIte h
      refine dr_icmp_ne 35 dX12_isName_28 (by decide) (fun hc17 => ?_) (fun hc17 => ?_)
      · have h := hf19 hc17
        refine dr_mask [] [] rfl ?_
        exact c_X12_isName_35 μ14 h
      · have h := ht18 hc17
        refine dr_iconst (1 : Int32) dX12_isName_31 (by decide) ?_
        refine dr_goto 36 dX12_isName_32 (by decide) ?_
        refine dr_mask [] [] rfl ?_
        exact c_X12_isName_36 (1 : Int32) μ14 h
/-! X12_nameHere -/
theorem dX12_nameHere_0 : decode cX12_nameHere 0 = .ok (.lconst 0, 1) := by decide +kernel
theorem dX12_nameHere_1 : decode cX12_nameHere 1 = .ok (.lstore_n 1, 1) := by decide +kernel
theorem dX12_nameHere_2 : decode cX12_nameHere 2 = .ok (.aload_n 0, 1) := by decide +kernel
theorem dX12_nameHere_3 : decode cX12_nameHere 3 = .ok (.getfield 132, 3) := by decide +kernel
theorem dX12_nameHere_6 : decode cX12_nameHere 6 = .ok (.istore_n 3, 1) := by decide +kernel
theorem dX12_nameHere_7 : decode cX12_nameHere 7 = .ok (.iload_n 3, 1) := by decide +kernel
theorem dX12_nameHere_8 : decode cX12_nameHere 8 = .ok (.aload_n 0, 1) := by decide +kernel
theorem dX12_nameHere_9 : decode cX12_nameHere 9 = .ok (.getfield 126, 3) := by decide +kernel
theorem dX12_nameHere_12 : decode cX12_nameHere 12 = .ok (.if_icmp .ge 21, 3) := by decide +kernel
theorem dX12_nameHere_15 : decode cX12_nameHere 15 = .ok (.lload_n 1, 1) := by decide +kernel
theorem dX12_nameHere_16 : decode cX12_nameHere 16 = .ok (.bipush 8, 2) := by decide +kernel
theorem dX12_nameHere_18 : decode cX12_nameHere 18 = .ok (.lshl, 1) := by decide +kernel
theorem dX12_nameHere_19 : decode cX12_nameHere 19 = .ok (.aload_n 0, 1) := by decide +kernel
theorem dX12_nameHere_20 : decode cX12_nameHere 20 = .ok (.iload_n 3, 1) := by decide +kernel
theorem dX12_nameHere_21 : decode cX12_nameHere 21 = .ok (.invokevirtual 129, 3) := by decide +kernel
theorem dX12_nameHere_24 : decode cX12_nameHere 24 = .ok (.i2l, 1) := by decide +kernel
theorem dX12_nameHere_25 : decode cX12_nameHere 25 = .ok (.lor, 1) := by decide +kernel
theorem dX12_nameHere_26 : decode cX12_nameHere 26 = .ok (.lstore_n 1, 1) := by decide +kernel
theorem dX12_nameHere_27 : decode cX12_nameHere 27 = .ok (.iinc 3 1, 3) := by decide +kernel
theorem dX12_nameHere_30 : decode cX12_nameHere 30 = .ok (.goto (-23), 3) := by decide +kernel
theorem dX12_nameHere_33 : decode cX12_nameHere 33 = .ok (.lload_n 1, 1) := by decide +kernel
theorem dX12_nameHere_34 : decode cX12_nameHere 34 = .ok (.lreturn, 1) := by decide +kernel
set_option maxRecDepth 100000 in
def f_X12_nameHere_7 : Nat → Nat → Int64 → Int32 → dtM → Option (Int64 × dtM)
  | 0, _, _, _, _ => none
  | n + 1, l0, l1, l3, μ =>
    (opGI 12 14 μ l0).bind fun x1 => if x1 ≤ l3 then (some (l1, μ)) else ((opRv 12 μ l0).bind fun _ => opCall (f_X12_byteAt l0 l3 μ) fun x9 μ7 => (some ((l1 <<< ((8 : Int32).toInt64 &&& 63)) ||| (x9.toInt64))).bind fun x10 => f_X12_nameHere_7 n l0 x10 (l3 + 1) μ7)
set_option maxRecDepth 100000 in
def f_X12_nameHere (p0 : Nat) (μ : dtM) : Option (Int64 × dtM) :=
  (opGI 12 13 μ p0).bind fun x1 => f_X12_nameHere_7 dtFuel p0 (0 : Int64) x1 μ
set_option maxRecDepth 100000 in
theorem c_X12_nameHere_7 {r : Int64} {F : dtM} : ∀ (n : Nat) (l0 : Nat) (l1 : Int64) (l3 : Int32) (μ : dtM), f_X12_nameHere_7 n l0 l1 l3 μ = some (r, F) → dtW yX12_nameHere cX12_nameHere 4 (some .long) 2 (some (.long r)) F 7 [some (.ref l0), some (.long l1), none, some (.int l3)] [] μ := by
  intro n
  induction n with
  | zero => intro l0 l1 l3 μ h; cases h
  | succ n ih =>
    intro l0 l1 l3 μ h
    have h := (show f_X12_nameHere_7 (n + 1) l0 l1 l3 μ = some _ from h)
    rw [f_X12_nameHere_7] at h
    refine dr_iload_n l3 dX12_nameHere_7 rfl ?_
    refine dr_aload_n l0 dX12_nameHere_8 rfl ?_
    obtain ⟨x1, e2, h⟩ := dtBind h
    refine dr_getI x1 dX12_nameHere_9 fl_RX12_126 e2 ?_
    obtain ⟨ht4, hf5⟩ := dtIte h
    refine dr_icmp_ge 33 dX12_nameHere_12 (by decide) (fun hc3 => ?_) (fun hc3 => ?_)
    · have h := ht4 hc3
      refine dr_lload_n l1 dX12_nameHere_33 rfl ?_
      cases h
      exact dr_lreturn dX12_nameHere_34
    · have h := hf5 hc3
      refine dr_lload_n l1 dX12_nameHere_15 rfl ?_
      refine dr_bipush (8 : Int32) dX12_nameHere_16 (by decide) ?_
      refine dr_lshl dX12_nameHere_18 ?_
      refine dr_aload_n l0 dX12_nameHere_19 rfl ?_
      refine dr_iload_n l3 dX12_nameHere_20 rfl ?_
      obtain ⟨_, hb6, h⟩ := dtBind h
      obtain ⟨x9, μ7, e8, h⟩ := dtCall h
      refine dr_callV_i (S0 := [.long (l1 <<< ((8 : Int32).toInt64 &&& 63))]) [.int l3] x9 μ7 dX12_nameHere_21 (c_X12_byteAt l0 l3 μ e8) mf_X12_byteAt wt_1540 ws_58 wt_1538 rfl (dtRv hb6) (by decide) rfl (Nat.le_of_ble_eq_true rfl) (Nat.le_of_ble_eq_true rfl) rfl ?_
      refine dr_i2l dX12_nameHere_24 ?_
      refine dr_lor dX12_nameHere_25 ?_
      obtain ⟨x10, e11, h⟩ := dtBind h
      refine dr_nmj e11 ?_
      refine dr_lstore_n 1 [some (.ref l0), some (.long x10), none, some (.int l3)] dX12_nameHere_26 rfl rfl rfl rfl ?_
      refine dr_iinc l3 (l3 + 1) [some (.ref l0), some (.long x10), none, some (.int (l3 + 1))] dX12_nameHere_27 rfl rfl rfl rfl rfl ?_
      refine dr_goto 7 dX12_nameHere_30 (by decide) ?_
      exact ih l0 x10 (l3 + 1) μ7 h
set_option maxRecDepth 100000 in
theorem c_X12_nameHere {r : Int64} {F : dtM} (p0 : Nat) (μ : dtM) (h : f_X12_nameHere p0 μ = some (r, F)) : dtMet yX12_nameHere cX12_nameHere 4 (some .long) 2 [.ref p0] μ (some (.long r)) F := by
  refine dtMet.of (by decide +kernel) (Nat.le_of_ble_eq_true rfl) (show dtW yX12_nameHere cX12_nameHere 4 (some .long) 2 (some (.long r)) F 0 [some (.ref p0)] [] μ from ?_)
  rw [f_X12_nameHere] at h
  refine dr_lconst (0 : Int64) dX12_nameHere_0 (by decide) ?_
  refine dr_lstore_n 1 [some (.ref p0), some (.long (0 : Int64)), none] dX12_nameHere_1 rfl rfl rfl rfl ?_
  refine dr_aload_n p0 dX12_nameHere_2 rfl ?_
  obtain ⟨x1, e2, h⟩ := dtBind h
  refine dr_getI x1 dX12_nameHere_3 fl_RX12_132 e2 ?_
  refine dr_istore_n 3 [some (.ref p0), some (.long (0 : Int64)), none, some (.int x1)] dX12_nameHere_6 rfl rfl rfl rfl ?_
  exact c_X12_nameHere_7 dtFuel p0 (0 : Int64) x1 μ h
/-! X12_findHere -/
theorem dX12_findHere_0 : decode cX12_findHere 0 = .ok (.iconst 0, 1) := by decide +kernel
theorem dX12_findHere_1 : decode cX12_findHere 1 = .ok (.istore_n 3, 1) := by decide +kernel
theorem dX12_findHere_2 : decode cX12_findHere 2 = .ok (.iload_n 3, 1) := by decide +kernel
theorem dX12_findHere_3 : decode cX12_findHere 3 = .ok (.iload_n 2, 1) := by decide +kernel
theorem dX12_findHere_4 : decode cX12_findHere 4 = .ok (.if_icmp .ge 27, 3) := by decide +kernel
theorem dX12_findHere_7 : decode cX12_findHere 7 = .ok (.aload_n 0, 1) := by decide +kernel
theorem dX12_findHere_8 : decode cX12_findHere 8 = .ok (.getfield 13, 3) := by decide +kernel
theorem dX12_findHere_11 : decode cX12_findHere 11 = .ok (.iload_n 1, 1) := by decide +kernel
theorem dX12_findHere_12 : decode cX12_findHere 12 = .ok (.iload_n 3, 1) := by decide +kernel
theorem dX12_findHere_13 : decode cX12_findHere 13 = .ok (.iadd, 1) := by decide +kernel
theorem dX12_findHere_14 : decode cX12_findHere 14 = .ok (.laload, 1) := by decide +kernel
theorem dX12_findHere_15 : decode cX12_findHere 15 = .ok (.aload_n 0, 1) := by decide +kernel
theorem dX12_findHere_16 : decode cX12_findHere 16 = .ok (.invokevirtual 182, 3) := by decide +kernel
theorem dX12_findHere_19 : decode cX12_findHere 19 = .ok (.lcmp, 1) := by decide +kernel
theorem dX12_findHere_20 : decode cX12_findHere 20 = .ok (.ifCond .ne 5, 3) := by decide +kernel
theorem dX12_findHere_23 : decode cX12_findHere 23 = .ok (.iload_n 3, 1) := by decide +kernel
theorem dX12_findHere_24 : decode cX12_findHere 24 = .ok (.ireturn, 1) := by decide +kernel
theorem dX12_findHere_25 : decode cX12_findHere 25 = .ok (.iinc 3 1, 3) := by decide +kernel
theorem dX12_findHere_28 : decode cX12_findHere 28 = .ok (.goto (-26), 3) := by decide +kernel
theorem dX12_findHere_31 : decode cX12_findHere 31 = .ok (.iconst (-1), 1) := by decide +kernel
theorem dX12_findHere_32 : decode cX12_findHere 32 = .ok (.ireturn, 1) := by decide +kernel
set_option maxRecDepth 100000 in
def f_X12_findHere_2 : Nat → Nat → Int32 → Int32 → Int32 → dtM → Option (Int32 × dtM)
  | 0, _, _, _, _, _ => none
  | n + 1, l0, l1, l2, l3, μ =>
    if l2 ≤ l3 then (some ((-1 : Int32), μ)) else ((opGR 12 1 μ l0).bind fun x4 => (opLJ 3 μ x4 (l1 + l3)).bind fun x6 => (opRv 12 μ l0).bind fun _ => opCall (f_X12_nameHere l0 μ) fun x11 μ9 => if (lg_cmp x6 x11) = 0 then (some (l3, μ9)) else (f_X12_findHere_2 n l0 l1 l2 (l3 + 1) μ9))
set_option maxRecDepth 100000 in
def f_X12_findHere (p0 : Nat) (p1 : Int32) (p2 : Int32) (μ : dtM) : Option (Int32 × dtM) :=
  f_X12_findHere_2 dtFuel p0 p1 p2 (0 : Int32) μ
set_option maxRecDepth 100000 in
theorem c_X12_findHere_2 {r : Int32} {F : dtM} : ∀ (n : Nat) (l0 : Nat) (l1 : Int32) (l2 : Int32) (l3 : Int32) (μ : dtM), f_X12_findHere_2 n l0 l1 l2 l3 μ = some (r, F) → dtW yX12_findHere cX12_findHere 4 (some .int) 3 (some (.int r)) F 2 [some (.ref l0), some (.int l1), some (.int l2), some (.int l3)] [] μ := by
  intro n
  induction n with
  | zero => intro l0 l1 l2 l3 μ h; cases h
  | succ n ih =>
    intro l0 l1 l2 l3 μ h
    have h := (show f_X12_findHere_2 (n + 1) l0 l1 l2 l3 μ = some _ from h)
    rw [f_X12_findHere_2] at h
    refine dr_iload_n l3 dX12_findHere_2 rfl ?_
    refine dr_iload_n l2 dX12_findHere_3 rfl ?_
    obtain ⟨ht2, hf3⟩ := dtIte h
    refine dr_icmp_ge 31 dX12_findHere_4 (by decide) (fun hc1 => ?_) (fun hc1 => ?_)
    · have h := ht2 hc1
      refine dr_iconst (-1 : Int32) dX12_findHere_31 (by decide) ?_
      cases h
      exact dr_ireturn dX12_findHere_32 rfl
    · have h := hf3 hc1
      refine dr_aload_n l0 dX12_findHere_7 rfl ?_
      obtain ⟨x4, e5, h⟩ := dtBind h
      refine dr_getR x4 dX12_findHere_8 fl_RX12_13 e5 ?_
      refine dr_iload_n l1 dX12_findHere_11 rfl ?_
      refine dr_iload_n l3 dX12_findHere_12 rfl ?_
      refine dr_iadd dX12_findHere_13 ?_
      obtain ⟨x6, e7, h⟩ := dtBind h
      refine dr_laload x6 dX12_findHere_14 e7 ?_
      refine dr_aload_n l0 dX12_findHere_15 rfl ?_
      obtain ⟨_, hb8, h⟩ := dtBind h
      obtain ⟨x11, μ9, e10, h⟩ := dtCall h
      refine dr_callV_l (S0 := [.long x6]) [] x11 μ9 dX12_findHere_16 (c_X12_nameHere l0 μ e10) mf_X12_nameHere wt_1599 ws_70 wt_1597 rfl (dtRv hb8) (by decide) rfl (Nat.le_of_ble_eq_true rfl) (Nat.le_of_ble_eq_true rfl) rfl ?_
      refine dr_lcmp dX12_findHere_19 ?_
      obtain ⟨ht13, hf14⟩ := dtIte h
      refine dr_if_ne 25 dX12_findHere_20 (by decide) (fun hc12 => ?_) (fun hc12 => ?_)
      · have h := hf14 hc12
        refine dr_iinc l3 (l3 + 1) [some (.ref l0), some (.int l1), some (.int l2), some (.int (l3 + 1))] dX12_findHere_25 rfl rfl rfl rfl rfl ?_
        refine dr_goto 2 dX12_findHere_28 (by decide) ?_
        exact ih l0 l1 l2 (l3 + 1) μ9 h
      · have h := ht13 hc12
        refine dr_iload_n l3 dX12_findHere_23 rfl ?_
        cases h
        exact dr_ireturn dX12_findHere_24 rfl
set_option maxRecDepth 100000 in
theorem c_X12_findHere {r : Int32} {F : dtM} (p0 : Nat) (p1 : Int32) (p2 : Int32) (μ : dtM) (h : f_X12_findHere p0 p1 p2 μ = some (r, F)) : dtMet yX12_findHere cX12_findHere 4 (some .int) 3 [.ref p0, .int p1, .int p2] μ (some (.int r)) F := by
  refine dtMet.of (by decide +kernel) (Nat.le_of_ble_eq_true rfl) (show dtW yX12_findHere cX12_findHere 4 (some .int) 3 (some (.int r)) F 0 [some (.ref p0), some (.int p1), some (.int p2)] [] μ from ?_)
  rw [f_X12_findHere] at h
  refine dr_iconst (0 : Int32) dX12_findHere_0 (by decide) ?_
  refine dr_istore_n 3 [some (.ref p0), some (.int p1), some (.int p2), some (.int (0 : Int32))] dX12_findHere_1 rfl rfl rfl rfl ?_
  exact c_X12_findHere_2 dtFuel p0 p1 p2 (0 : Int32) μ h
/-! X12_fault -/
theorem dX12_fault_0 : decode cX12_fault 0 = .ok (.iload_n 1, 1) := by decide +kernel
theorem dX12_fault_1 : decode cX12_fault 1 = .ok (.ifCond .ne 10, 3) := by decide +kernel
theorem dX12_fault_4 : decode cX12_fault 4 = .ok (.aload_n 0, 1) := by decide +kernel
theorem dX12_fault_5 : decode cX12_fault 5 = .ok (.getfield 37, 3) := by decide +kernel
theorem dX12_fault_8 : decode cX12_fault 8 = .ok (.goto 16, 3) := by decide +kernel
theorem dX12_fault_11 : decode cX12_fault 11 = .ok (.iload_n 1, 1) := by decide +kernel
theorem dX12_fault_12 : decode cX12_fault 12 = .ok (.iconst 1, 1) := by decide +kernel
theorem dX12_fault_13 : decode cX12_fault 13 = .ok (.if_icmp .ne 10, 3) := by decide +kernel
theorem dX12_fault_16 : decode cX12_fault 16 = .ok (.aload_n 0, 1) := by decide +kernel
theorem dX12_fault_17 : decode cX12_fault 17 = .ok (.getfield 41, 3) := by decide +kernel
theorem dX12_fault_20 : decode cX12_fault 20 = .ok (.goto 4, 3) := by decide +kernel
theorem dX12_fault_23 : decode cX12_fault 23 = .ok (.iconst (-1), 1) := by decide +kernel
theorem dX12_fault_24 : decode cX12_fault 24 = .ok (.ireturn, 1) := by decide +kernel
set_option maxRecDepth 100000 in
def f_X12_fault_24 (s0 : Int32) (μ : dtM) : Option (Int32 × dtM) :=
  some (s0, μ)
set_option maxRecDepth 100000 in
def f_X12_fault (p0 : Nat) (p1 : Int32) (μ : dtM) : Option (Int32 × dtM) :=
  if p1 = 0 then ((opGI 12 16 μ p0).bind fun x9 => f_X12_fault_24 x9 μ) else (if p1 = (1 : Int32) then ((opGI 12 17 μ p0).bind fun x7 => f_X12_fault_24 x7 μ) else (f_X12_fault_24 (-1 : Int32) μ))
set_option maxRecDepth 100000 in
theorem c_X12_fault_24 {r : Int32} {F : dtM} (s0 : Int32) (μ : dtM) (h : f_X12_fault_24 s0 μ = some (r, F)) : dtW yX12_fault cX12_fault 2 (some .int) 1 (some (.int r)) F 24 [] [.int s0] μ := by
  rw [f_X12_fault_24] at h
  cases h
  exact dr_ireturn dX12_fault_24 rfl
set_option maxRecDepth 100000 in
theorem c_X12_fault {r : Int32} {F : dtM} (p0 : Nat) (p1 : Int32) (μ : dtM) (h : f_X12_fault p0 p1 μ = some (r, F)) : dtMet yX12_fault cX12_fault 2 (some .int) 1 [.ref p0, .int p1] μ (some (.int r)) F := by
  refine dtMet.of (by decide +kernel) (Nat.le_of_ble_eq_true rfl) (show dtW yX12_fault cX12_fault 2 (some .int) 1 (some (.int r)) F 0 [some (.ref p0), some (.int p1)] [] μ from ?_)
  rw [f_X12_fault] at h
  refine dr_iload_n p1 dX12_fault_0 rfl ?_
  obtain ⟨ht2, hf3⟩ := dtIte h
  refine dr_if_ne 11 dX12_fault_1 (by decide) (fun hc1 => ?_) (fun hc1 => ?_)
  · have h := hf3 hc1
    refine dr_iload_n p1 dX12_fault_11 rfl ?_
    refine dr_iconst (1 : Int32) dX12_fault_12 (by decide) ?_
    obtain ⟨ht5, hf6⟩ := dtIte h
    refine dr_icmp_ne 23 dX12_fault_13 (by decide) (fun hc4 => ?_) (fun hc4 => ?_)
    · have h := hf6 hc4
      refine dr_iconst (-1 : Int32) dX12_fault_23 (by decide) ?_
      refine dr_mask [] [] rfl ?_
      exact c_X12_fault_24 (-1 : Int32) μ h
    · have h := ht5 hc4
      refine dr_aload_n p0 dX12_fault_16 rfl ?_
      obtain ⟨x7, e8, h⟩ := dtBind h
      refine dr_getI x7 dX12_fault_17 fl_RX12_41 e8 ?_
      refine dr_goto 24 dX12_fault_20 (by decide) ?_
      refine dr_mask [] [] rfl ?_
      exact c_X12_fault_24 x7 μ h
  · have h := ht2 hc1
    refine dr_aload_n p0 dX12_fault_4 rfl ?_
    obtain ⟨x9, e10, h⟩ := dtBind h
    refine dr_getI x9 dX12_fault_5 fl_RX12_37 e10 ?_
    refine dr_goto 24 dX12_fault_8 (by decide) ?_
    refine dr_mask [] [] rfl ?_
    exact c_X12_fault_24 x9 μ h
/-! X12_taken -/
theorem dX12_taken_0 : decode cX12_taken 0 = .ok (.aload_n 0, 1) := by decide +kernel
theorem dX12_taken_1 : decode cX12_taken 1 = .ok (.aload_n 0, 1) := by decide +kernel
theorem dX12_taken_2 : decode cX12_taken 2 = .ok (.getfield 163, 3) := by decide +kernel
theorem dX12_taken_5 : decode cX12_taken 5 = .ok (.putfield 37, 3) := by decide +kernel
theorem dX12_taken_8 : decode cX12_taken 8 = .ok (.aload_n 0, 1) := by decide +kernel
theorem dX12_taken_9 : decode cX12_taken 9 = .ok (.getfield 163, 3) := by decide +kernel
theorem dX12_taken_12 : decode cX12_taken 12 = .ok (.ifCond .le 12, 3) := by decide +kernel
theorem dX12_taken_15 : decode cX12_taken 15 = .ok (.aload_n 0, 1) := by decide +kernel
theorem dX12_taken_16 : decode cX12_taken 16 = .ok (.bipush 9, 2) := by decide +kernel
theorem dX12_taken_18 : decode cX12_taken 18 = .ok (.invokevirtual 93, 3) := by decide +kernel
theorem dX12_taken_21 : decode cX12_taken 21 = .ok (.goto 8, 3) := by decide +kernel
theorem dX12_taken_24 : decode cX12_taken 24 = .ok (.aload_n 0, 1) := by decide +kernel
theorem dX12_taken_25 : decode cX12_taken 25 = .ok (.iload_n 1, 1) := by decide +kernel
theorem dX12_taken_26 : decode cX12_taken 26 = .ok (.invokevirtual 97, 3) := by decide +kernel
theorem dX12_taken_29 : decode cX12_taken 29 = .ok (.ireturn, 1) := by decide +kernel
set_option maxRecDepth 100000 in
def f_X12_taken_29 (s0 : Int32) (μ : dtM) : Option (Int32 × dtM) :=
  some (s0, μ)
set_option maxRecDepth 100000 in
def f_X12_taken (p0 : Nat) (p1 : Int32) (μ : dtM) : Option (Int32 × dtM) :=
  (opGI 12 18 μ p0).bind fun x1 => (opPI 12 16 μ p0 x1).bind fun μ3 => (opGI 12 18 μ3 p0).bind fun x5 => if x5 ≤ 0 then ((opRv 12 μ3 p0).bind fun _ => opCall (f_X12_gives p0 p1 μ3) fun x13 μ11 => f_X12_taken_29 x13 μ11) else ((opRv 12 μ3 p0).bind fun _ => opCall (f_X12_refuse p0 (9 : Int32) μ3) fun x17 μ15 => f_X12_taken_29 x17 μ15)
set_option maxRecDepth 100000 in
theorem c_X12_taken_29 {r : Int32} {F : dtM} (s0 : Int32) (μ : dtM) (h : f_X12_taken_29 s0 μ = some (r, F)) : dtW yX12_taken cX12_taken 2 (some .int) 2 (some (.int r)) F 29 [] [.int s0] μ := by
  rw [f_X12_taken_29] at h
  cases h
  exact dr_ireturn dX12_taken_29 rfl
set_option maxRecDepth 100000 in
theorem c_X12_taken {r : Int32} {F : dtM} (p0 : Nat) (p1 : Int32) (μ : dtM) (h : f_X12_taken p0 p1 μ = some (r, F)) : dtMet yX12_taken cX12_taken 2 (some .int) 2 [.ref p0, .int p1] μ (some (.int r)) F := by
  refine dtMet.of (by decide +kernel) (Nat.le_of_ble_eq_true rfl) (show dtW yX12_taken cX12_taken 2 (some .int) 2 (some (.int r)) F 0 [some (.ref p0), some (.int p1)] [] μ from ?_)
  rw [f_X12_taken] at h
  refine dr_aload_n p0 dX12_taken_0 rfl ?_
  refine dr_aload_n p0 dX12_taken_1 rfl ?_
  obtain ⟨x1, e2, h⟩ := dtBind h
  refine dr_getI x1 dX12_taken_2 fl_RX12_163 e2 ?_
  obtain ⟨μ3, e4, h⟩ := dtBind h
  refine dr_putI μ3 dX12_taken_5 fl_RX12_37 rfl e4 ?_
  refine dr_aload_n p0 dX12_taken_8 rfl ?_
  obtain ⟨x5, e6, h⟩ := dtBind h
  refine dr_getI x5 dX12_taken_9 fl_RX12_163 e6 ?_
  obtain ⟨ht8, hf9⟩ := dtIte h
  refine dr_if_le 24 dX12_taken_12 (by decide) (fun hc7 => ?_) (fun hc7 => ?_)
  · have h := ht8 hc7
    refine dr_aload_n p0 dX12_taken_24 rfl ?_
    refine dr_iload_n p1 dX12_taken_25 rfl ?_
    obtain ⟨_, hb10, h⟩ := dtBind h
    obtain ⟨x13, μ11, e12, h⟩ := dtCall h
    refine dr_callV_i (S0 := []) [.int p1] x13 μ11 dX12_taken_26 (c_X12_gives p0 p1 μ3 e12) mf_X12_gives wt_1668 ws_85 wt_1666 rfl (dtRv hb10) (by decide) rfl (Nat.le_of_ble_eq_true rfl) (Nat.le_of_ble_eq_true rfl) rfl ?_
    refine dr_mask [] [] rfl ?_
    exact c_X12_taken_29 x13 μ11 h
  · have h := hf9 hc7
    refine dr_aload_n p0 dX12_taken_15 rfl ?_
    refine dr_bipush (9 : Int32) dX12_taken_16 (by decide) ?_
    obtain ⟨_, hb14, h⟩ := dtBind h
    obtain ⟨x17, μ15, e16, h⟩ := dtCall h
    refine dr_callV_i (S0 := []) [.int (9 : Int32)] x17 μ15 dX12_taken_18 (c_X12_refuse p0 (9 : Int32) μ3 e16) mf_X12_refuse wt_1552 ws_59 wt_1550 rfl (dtRv hb14) (by decide) rfl (Nat.le_of_ble_eq_true rfl) (Nat.le_of_ble_eq_true rfl) rfl ?_
    refine dr_goto 29 dX12_taken_21 (by decide) ?_
    refine dr_mask [] [] rfl ?_
    exact c_X12_taken_29 x17 μ15 h
/-! X12_doorRow -/
theorem dX12_doorRow_0 : decode cX12_doorRow 0 = .ok (.bipush 10, 2) := by decide +kernel
theorem dX12_doorRow_2 : decode cX12_doorRow 2 = .ok (.iconst 3, 1) := by decide +kernel
theorem dX12_doorRow_3 : decode cX12_doorRow 3 = .ok (.iload_n 0, 1) := by decide +kernel
theorem dX12_doorRow_4 : decode cX12_doorRow 4 = .ok (.imul, 1) := by decide +kernel
theorem dX12_doorRow_5 : decode cX12_doorRow 5 = .ok (.iadd, 1) := by decide +kernel
theorem dX12_doorRow_6 : decode cX12_doorRow 6 = .ok (.ireturn, 1) := by decide +kernel
set_option maxRecDepth 100000 in
def f_X12_doorRow (p0 : Int32) (μ : dtM) : Option (Int32 × dtM) :=
  some (((10 : Int32) + ((3 : Int32) * p0)), μ)
set_option maxRecDepth 100000 in
theorem c_X12_doorRow {r : Int32} {F : dtM} (p0 : Int32) (μ : dtM) (h : f_X12_doorRow p0 μ = some (r, F)) : dtMet yX12_doorRow cX12_doorRow 1 (some .int) 1 [.int p0] μ (some (.int r)) F := by
  refine dtMet.of (by decide +kernel) (Nat.le_of_ble_eq_true rfl) (show dtW yX12_doorRow cX12_doorRow 1 (some .int) 1 (some (.int r)) F 0 [some (.int p0)] [] μ from ?_)
  rw [f_X12_doorRow] at h
  refine dr_bipush (10 : Int32) dX12_doorRow_0 (by decide) ?_
  refine dr_iconst (3 : Int32) dX12_doorRow_2 (by decide) ?_
  refine dr_iload_n p0 dX12_doorRow_3 rfl ?_
  refine dr_imul dX12_doorRow_4 ?_
  refine dr_iadd dX12_doorRow_5 ?_
  cases h
  exact dr_ireturn dX12_doorRow_6 rfl
/-! X12_wordRow -/
theorem dX12_wordRow_0 : decode cX12_wordRow 0 = .ok (.bipush 40, 2) := by decide +kernel
theorem dX12_wordRow_2 : decode cX12_wordRow 2 = .ok (.iconst 5, 1) := by decide +kernel
theorem dX12_wordRow_3 : decode cX12_wordRow 3 = .ok (.iload_n 0, 1) := by decide +kernel
theorem dX12_wordRow_4 : decode cX12_wordRow 4 = .ok (.imul, 1) := by decide +kernel
theorem dX12_wordRow_5 : decode cX12_wordRow 5 = .ok (.iadd, 1) := by decide +kernel
theorem dX12_wordRow_6 : decode cX12_wordRow 6 = .ok (.ireturn, 1) := by decide +kernel
set_option maxRecDepth 100000 in
def f_X12_wordRow (p0 : Int32) (μ : dtM) : Option (Int32 × dtM) :=
  some (((40 : Int32) + ((5 : Int32) * p0)), μ)
set_option maxRecDepth 100000 in
theorem c_X12_wordRow {r : Int32} {F : dtM} (p0 : Int32) (μ : dtM) (h : f_X12_wordRow p0 μ = some (r, F)) : dtMet yX12_wordRow cX12_wordRow 1 (some .int) 1 [.int p0] μ (some (.int r)) F := by
  refine dtMet.of (by decide +kernel) (Nat.le_of_ble_eq_true rfl) (show dtW yX12_wordRow cX12_wordRow 1 (some .int) 1 (some (.int r)) F 0 [some (.int p0)] [] μ from ?_)
  rw [f_X12_wordRow] at h
  refine dr_bipush (40 : Int32) dX12_wordRow_0 (by decide) ?_
  refine dr_iconst (5 : Int32) dX12_wordRow_2 (by decide) ?_
  refine dr_iload_n p0 dX12_wordRow_3 rfl ?_
  refine dr_imul dX12_wordRow_4 ?_
  refine dr_iadd dX12_wordRow_5 ?_
  cases h
  exact dr_ireturn dX12_wordRow_6 rfl
/-! X12_personRow -/
theorem dX12_personRow_0 : decode cX12_personRow 0 = .ok (.bipush 75, 2) := by decide +kernel
theorem dX12_personRow_2 : decode cX12_personRow 2 = .ok (.bipush 12, 2) := by decide +kernel
theorem dX12_personRow_4 : decode cX12_personRow 4 = .ok (.iload_n 0, 1) := by decide +kernel
theorem dX12_personRow_5 : decode cX12_personRow 5 = .ok (.imul, 1) := by decide +kernel
theorem dX12_personRow_6 : decode cX12_personRow 6 = .ok (.iadd, 1) := by decide +kernel
theorem dX12_personRow_7 : decode cX12_personRow 7 = .ok (.ireturn, 1) := by decide +kernel
set_option maxRecDepth 100000 in
def f_X12_personRow (p0 : Int32) (μ : dtM) : Option (Int32 × dtM) :=
  some (((75 : Int32) + ((12 : Int32) * p0)), μ)
set_option maxRecDepth 100000 in
theorem c_X12_personRow {r : Int32} {F : dtM} (p0 : Int32) (μ : dtM) (h : f_X12_personRow p0 μ = some (r, F)) : dtMet yX12_personRow cX12_personRow 1 (some .int) 1 [.int p0] μ (some (.int r)) F := by
  refine dtMet.of (by decide +kernel) (Nat.le_of_ble_eq_true rfl) (show dtW yX12_personRow cX12_personRow 1 (some .int) 1 (some (.int r)) F 0 [some (.int p0)] [] μ from ?_)
  rw [f_X12_personRow] at h
  refine dr_bipush (75 : Int32) dX12_personRow_0 (by decide) ?_
  refine dr_bipush (12 : Int32) dX12_personRow_2 (by decide) ?_
  refine dr_iload_n p0 dX12_personRow_4 rfl ?_
  refine dr_imul dX12_personRow_5 ?_
  refine dr_iadd dX12_personRow_6 ?_
  cases h
  exact dr_ireturn dX12_personRow_7 rfl
/-! X12_isIn -/
theorem dX12_isIn_0 : decode cX12_isIn 0 = .ok (.iload_n 1, 1) := by decide +kernel
theorem dX12_isIn_1 : decode cX12_isIn 1 = .ok (.iload_n 2, 1) := by decide +kernel
theorem dX12_isIn_2 : decode cX12_isIn 2 = .ok (.ishr, 1) := by decide +kernel
theorem dX12_isIn_3 : decode cX12_isIn 3 = .ok (.iconst 1, 1) := by decide +kernel
theorem dX12_isIn_4 : decode cX12_isIn 4 = .ok (.iand, 1) := by decide +kernel
theorem dX12_isIn_5 : decode cX12_isIn 5 = .ok (.iconst 1, 1) := by decide +kernel
theorem dX12_isIn_6 : decode cX12_isIn 6 = .ok (.if_icmp .ne 7, 3) := by decide +kernel
theorem dX12_isIn_9 : decode cX12_isIn 9 = .ok (.iconst 1, 1) := by decide +kernel
theorem dX12_isIn_10 : decode cX12_isIn 10 = .ok (.goto 4, 3) := by decide +kernel
theorem dX12_isIn_13 : decode cX12_isIn 13 = .ok (.iconst 0, 1) := by decide +kernel
theorem dX12_isIn_14 : decode cX12_isIn 14 = .ok (.ireturn, 1) := by decide +kernel
set_option maxRecDepth 100000 in
def f_X12_isIn_14 (s0 : Int32) (μ : dtM) : Option (Int32 × dtM) :=
  opRet s0 μ
set_option maxRecDepth 100000 in
def f_X12_isIn (p0 : Nat) (p1 : Int32) (p2 : Int32) (μ : dtM) : Option (Int32 × dtM) :=
  if ((p1 >>> (p2 &&& 31)) &&& (1 : Int32)) = (1 : Int32) then (f_X12_isIn_14 (1 : Int32) μ) else (f_X12_isIn_14 (0 : Int32) μ)
set_option maxRecDepth 100000 in
theorem c_X12_isIn_14 {r : Int32} {F : dtM} (s0 : Int32) (μ : dtM) (h : f_X12_isIn_14 s0 μ = some (r, F)) : dtW yX12_isIn cX12_isIn 3 (some .boolean) 1 (some (.int r)) F 14 [] [.int s0] μ := by
  rw [f_X12_isIn_14] at h
  obtain ⟨hz, rfl, rfl⟩ := dtRet h
  exact dr_ireturn dX12_isIn_14 (dtNz hz)
set_option maxRecDepth 100000 in
theorem c_X12_isIn {r : Int32} {F : dtM} (p0 : Nat) (p1 : Int32) (p2 : Int32) (μ : dtM) (h : f_X12_isIn p0 p1 p2 μ = some (r, F)) : dtMet yX12_isIn cX12_isIn 3 (some .boolean) 1 [.ref p0, .int p1, .int p2] μ (some (.int r)) F := by
  refine dtMet.of (by decide +kernel) (Nat.le_of_ble_eq_true rfl) (show dtW yX12_isIn cX12_isIn 3 (some .boolean) 1 (some (.int r)) F 0 [some (.ref p0), some (.int p1), some (.int p2)] [] μ from ?_)
  rw [f_X12_isIn] at h
  refine dr_iload_n p1 dX12_isIn_0 rfl ?_
  refine dr_iload_n p2 dX12_isIn_1 rfl ?_
  refine dr_ishr dX12_isIn_2 ?_
  refine dr_iconst (1 : Int32) dX12_isIn_3 (by decide) ?_
  refine dr_iand dX12_isIn_4 ?_
  refine dr_iconst (1 : Int32) dX12_isIn_5 (by decide) ?_
  obtain ⟨ht2, hf3⟩ := dtIte h
  refine dr_icmp_ne 13 dX12_isIn_6 (by decide) (fun hc1 => ?_) (fun hc1 => ?_)
  · have h := hf3 hc1
    refine dr_iconst (0 : Int32) dX12_isIn_13 (by decide) ?_
    refine dr_mask [] [] rfl ?_
    exact c_X12_isIn_14 (0 : Int32) μ h
  · have h := ht2 hc1
    refine dr_iconst (1 : Int32) dX12_isIn_9 (by decide) ?_
    refine dr_goto 14 dX12_isIn_10 (by decide) ?_
    refine dr_mask [] [] rfl ?_
    exact c_X12_isIn_14 (1 : Int32) μ h
/-! X12_isThere -/
theorem dX12_isThere_0 : decode cX12_isThere 0 = .ok (.aload_n 0, 1) := by decide +kernel
theorem dX12_isThere_1 : decode cX12_isThere 1 = .ok (.ldc 186, 2) := by decide +kernel
theorem dX12_isThere_3 : decode cX12_isThere 3 = .ok (.invokevirtual 178, 3) := by decide +kernel
theorem dX12_isThere_6 : decode cX12_isThere 6 = .ok (.iload_n 1, 1) := by decide +kernel
theorem dX12_isThere_7 : decode cX12_isThere 7 = .ok (.if_icmp .eq 5, 3) := by decide +kernel
theorem dX12_isThere_10 : decode cX12_isThere 10 = .ok (.iconst 0, 1) := by decide +kernel
theorem dX12_isThere_11 : decode cX12_isThere 11 = .ok (.ireturn, 1) := by decide +kernel
theorem dX12_isThere_12 : decode cX12_isThere 12 = .ok (.aload_n 0, 1) := by decide +kernel
theorem dX12_isThere_13 : decode cX12_isThere 13 = .ok (.invokevirtual 169, 3) := by decide +kernel
theorem dX12_isThere_16 : decode cX12_isThere 16 = .ok (.iconst 1, 1) := by decide +kernel
theorem dX12_isThere_17 : decode cX12_isThere 17 = .ok (.ireturn, 1) := by decide +kernel
set_option maxRecDepth 100000 in
def f_X12_isThere (p0 : Nat) (p1 : Int32) (μ : dtM) : Option (Int32 × dtM) :=
  (opRv 12 μ p0).bind fun _ => opCall (f_X12_inWords p0 1000003 μ) fun x4 μ2 => if x4 = p1 then ((opRv 12 μ2 p0).bind fun _ => (f_X12_ahead p0 μ2).bind fun μ9 => opRet (1 : Int32) μ9) else (opRet (0 : Int32) μ2)
set_option maxRecDepth 100000 in
theorem c_X12_isThere {r : Int32} {F : dtM} (p0 : Nat) (p1 : Int32) (μ : dtM) (h : f_X12_isThere p0 p1 μ = some (r, F)) : dtMet yX12_isThere cX12_isThere 2 (some .boolean) 7 [.ref p0, .int p1] μ (some (.int r)) F := by
  refine dtMet.of (by decide +kernel) (Nat.le_of_ble_eq_true rfl) (show dtW yX12_isThere cX12_isThere 2 (some .boolean) 7 (some (.int r)) F 0 [some (.ref p0), some (.int p1)] [] μ from ?_)
  rw [f_X12_isThere] at h
  refine dr_aload_n p0 dX12_isThere_0 rfl ?_
  refine dr_ldcS1 dX12_isThere_1 rfl ?_
  obtain ⟨_, hb1, h⟩ := dtBind h
  obtain ⟨x4, μ2, e3, h⟩ := dtCall h
  refine dr_callV_i (S0 := []) [.ref 1000003] x4 μ2 dX12_isThere_3 (c_X12_inWords p0 1000003 μ e3) mf_X12_inWords wt_1561 ws_61 wt_1559 rfl (dtRv hb1) (by decide) rfl (Nat.le_of_ble_eq_true rfl) (Nat.le_of_ble_eq_true rfl) rfl ?_
  refine dr_iload_n p1 dX12_isThere_6 rfl ?_
  obtain ⟨ht6, hf7⟩ := dtIte h
  refine dr_icmp_eq 12 dX12_isThere_7 (by decide) (fun hc5 => ?_) (fun hc5 => ?_)
  · have h := ht6 hc5
    refine dr_aload_n p0 dX12_isThere_12 rfl ?_
    obtain ⟨_, hb8, h⟩ := dtBind h
    obtain ⟨μ9, e10, h⟩ := dtBind h
    refine dr_callV_v (S0 := []) [] μ9 dX12_isThere_13 (c_X12_ahead p0 μ2 e10) mf_X12_ahead wt_1536 ws_57 wt_1534 rfl (dtRv hb8) (by decide) rfl (Nat.le_of_ble_eq_true rfl) (Nat.le_of_ble_eq_true rfl) rfl ?_
    refine dr_iconst (1 : Int32) dX12_isThere_16 (by decide) ?_
    obtain ⟨hz, rfl, rfl⟩ := dtRet h
    exact dr_ireturn dX12_isThere_17 (dtNz hz)
  · have h := hf7 hc5
    refine dr_iconst (0 : Int32) dX12_isThere_10 (by decide) ?_
    obtain ⟨hz, rfl, rfl⟩ := dtRet h
    exact dr_ireturn dX12_isThere_11 (dtNz hz)
/-! X12_isSound -/
theorem dX12_isSound_0 : decode cX12_isSound 0 = .ok (.aload_n 0, 1) := by decide +kernel
theorem dX12_isSound_1 : decode cX12_isSound 1 = .ok (.ldc 186, 2) := by decide +kernel
theorem dX12_isSound_3 : decode cX12_isSound 3 = .ok (.invokevirtual 178, 3) := by decide +kernel
theorem dX12_isSound_6 : decode cX12_isSound 6 = .ok (.bipush 8, 2) := by decide +kernel
theorem dX12_isSound_8 : decode cX12_isSound 8 = .ok (.if_icmp .lt 18, 3) := by decide +kernel
theorem dX12_isSound_11 : decode cX12_isSound 11 = .ok (.aload_n 0, 1) := by decide +kernel
theorem dX12_isSound_12 : decode cX12_isSound 12 = .ok (.ldc 186, 2) := by decide +kernel
theorem dX12_isSound_14 : decode cX12_isSound 14 = .ok (.invokevirtual 178, 3) := by decide +kernel
theorem dX12_isSound_17 : decode cX12_isSound 17 = .ok (.bipush 11, 2) := by decide +kernel
theorem dX12_isSound_19 : decode cX12_isSound 19 = .ok (.if_icmp .gt 7, 3) := by decide +kernel
theorem dX12_isSound_22 : decode cX12_isSound 22 = .ok (.iconst 1, 1) := by decide +kernel
theorem dX12_isSound_23 : decode cX12_isSound 23 = .ok (.goto 4, 3) := by decide +kernel
theorem dX12_isSound_26 : decode cX12_isSound 26 = .ok (.iconst 0, 1) := by decide +kernel
theorem dX12_isSound_27 : decode cX12_isSound 27 = .ok (.ireturn, 1) := by decide +kernel
set_option maxRecDepth 100000 in
def f_X12_isSound_27 (s0 : Int32) (μ : dtM) : Option (Int32 × dtM) :=
  opRet s0 μ
set_option maxRecDepth 100000 in
def f_X12_isSound_26  (μ : dtM) : Option (Int32 × dtM) :=
  f_X12_isSound_27 (0 : Int32) μ
set_option maxRecDepth 100000 in
def f_X12_isSound (p0 : Nat) (μ : dtM) : Option (Int32 × dtM) :=
  (opRv 12 μ p0).bind fun _ => opCall (f_X12_inWords p0 1000003 μ) fun x4 μ2 => if x4 < (8 : Int32) then (f_X12_isSound_26 μ2) else ((opRv 12 μ2 p0).bind fun _ => opCall (f_X12_inWords p0 1000003 μ2) fun x11 μ9 => if (11 : Int32) < x11 then (f_X12_isSound_26 μ9) else (f_X12_isSound_27 (1 : Int32) μ9))
set_option maxRecDepth 100000 in
theorem c_X12_isSound_27 {r : Int32} {F : dtM} (s0 : Int32) (μ : dtM) (h : f_X12_isSound_27 s0 μ = some (r, F)) : dtW yX12_isSound cX12_isSound 1 (some .boolean) 7 (some (.int r)) F 27 [] [.int s0] μ := by
  rw [f_X12_isSound_27] at h
  obtain ⟨hz, rfl, rfl⟩ := dtRet h
  exact dr_ireturn dX12_isSound_27 (dtNz hz)
set_option maxRecDepth 100000 in
theorem c_X12_isSound_26 {r : Int32} {F : dtM}  (μ : dtM) (h : f_X12_isSound_26  μ = some (r, F)) : dtW yX12_isSound cX12_isSound 1 (some .boolean) 7 (some (.int r)) F 26 [] [] μ := by
  rw [f_X12_isSound_26] at h
  refine dr_iconst (0 : Int32) dX12_isSound_26 (by decide) ?_
  exact c_X12_isSound_27 (0 : Int32) μ h
set_option maxRecDepth 100000 in
theorem c_X12_isSound {r : Int32} {F : dtM} (p0 : Nat) (μ : dtM) (h : f_X12_isSound p0 μ = some (r, F)) : dtMet yX12_isSound cX12_isSound 1 (some .boolean) 7 [.ref p0] μ (some (.int r)) F := by
  refine dtMet.of (by decide +kernel) (Nat.le_of_ble_eq_true rfl) (show dtW yX12_isSound cX12_isSound 1 (some .boolean) 7 (some (.int r)) F 0 [some (.ref p0)] [] μ from ?_)
  rw [f_X12_isSound] at h
  refine dr_aload_n p0 dX12_isSound_0 rfl ?_
  refine dr_ldcS1 dX12_isSound_1 rfl ?_
  obtain ⟨_, hb1, h⟩ := dtBind h
  obtain ⟨x4, μ2, e3, h⟩ := dtCall h
  refine dr_callV_i (S0 := []) [.ref 1000003] x4 μ2 dX12_isSound_3 (c_X12_inWords p0 1000003 μ e3) mf_X12_inWords wt_1561 ws_61 wt_1559 rfl (dtRv hb1) (by decide) rfl (Nat.le_of_ble_eq_true rfl) (Nat.le_of_ble_eq_true rfl) rfl ?_
  refine dr_bipush (8 : Int32) dX12_isSound_6 (by decide) ?_
  obtain ⟨ht6, hf7⟩ := dtIte h
  refine dr_icmp_lt 26 dX12_isSound_8 (by decide) (fun hc5 => ?_) (fun hc5 => ?_)
  · have h := ht6 hc5
    refine dr_mask [] [] rfl ?_
    exact c_X12_isSound_26 μ2 h
  · have h := hf7 hc5
    refine dr_aload_n p0 dX12_isSound_11 rfl ?_
    refine dr_ldcS1 dX12_isSound_12 rfl ?_
    obtain ⟨_, hb8, h⟩ := dtBind h
    obtain ⟨x11, μ9, e10, h⟩ := dtCall h
    refine dr_callV_i (S0 := []) [.ref 1000003] x11 μ9 dX12_isSound_14 (c_X12_inWords p0 1000003 μ2 e10) mf_X12_inWords wt_1561 ws_61 wt_1559 rfl (dtRv hb8) (by decide) rfl (Nat.le_of_ble_eq_true rfl) (Nat.le_of_ble_eq_true rfl) rfl ?_
    refine dr_bipush (11 : Int32) dX12_isSound_17 (by decide) ?_
    obtain ⟨ht13, hf14⟩ := dtIte h
    refine dr_icmp_gt 26 dX12_isSound_19 (by decide) (fun hc12 => ?_) (fun hc12 => ?_)
    · have h := ht13 hc12
      refine dr_mask [] [] rfl ?_
      exact c_X12_isSound_26 μ9 h
    · have h := hf14 hc12
      refine dr_iconst (1 : Int32) dX12_isSound_22 (by decide) ?_
      refine dr_goto 27 dX12_isSound_23 (by decide) ?_
      refine dr_mask [] [] rfl ?_
      exact c_X12_isSound_27 (1 : Int32) μ9 h
/-! X12_isFull -/
theorem dX12_isFull_0 : decode cX12_isFull 0 = .ok (.aload_n 0, 1) := by decide +kernel
theorem dX12_isFull_1 : decode cX12_isFull 1 = .ok (.getfield 7, 3) := by decide +kernel
theorem dX12_isFull_4 : decode cX12_isFull 4 = .ok (.sipush 2016, 3) := by decide +kernel
theorem dX12_isFull_7 : decode cX12_isFull 7 = .ok (.iload_n 1, 1) := by decide +kernel
theorem dX12_isFull_8 : decode cX12_isFull 8 = .ok (.iadd, 1) := by decide +kernel
theorem dX12_isFull_9 : decode cX12_isFull 9 = .ok (.iaload, 1) := by decide +kernel
theorem dX12_isFull_10 : decode cX12_isFull 10 = .ok (.iload_n 2, 1) := by decide +kernel
theorem dX12_isFull_11 : decode cX12_isFull 11 = .ok (.if_icmp .ne 7, 3) := by decide +kernel
theorem dX12_isFull_14 : decode cX12_isFull 14 = .ok (.iconst 1, 1) := by decide +kernel
theorem dX12_isFull_15 : decode cX12_isFull 15 = .ok (.goto 4, 3) := by decide +kernel
theorem dX12_isFull_18 : decode cX12_isFull 18 = .ok (.iconst 0, 1) := by decide +kernel
theorem dX12_isFull_19 : decode cX12_isFull 19 = .ok (.ireturn, 1) := by decide +kernel
set_option maxRecDepth 100000 in
def f_X12_isFull_19 (s0 : Int32) (μ : dtM) : Option (Int32 × dtM) :=
  opRet s0 μ
set_option maxRecDepth 100000 in
def f_X12_isFull (p0 : Nat) (p1 : Int32) (p2 : Int32) (μ : dtM) : Option (Int32 × dtM) :=
  (opGR 12 0 μ p0).bind fun x1 => (opLI 1 μ x1 ((2016 : Int32) + p1)).bind fun x3 => if x3 = p2 then (f_X12_isFull_19 (1 : Int32) μ) else (f_X12_isFull_19 (0 : Int32) μ)
set_option maxRecDepth 100000 in
theorem c_X12_isFull_19 {r : Int32} {F : dtM} (s0 : Int32) (μ : dtM) (h : f_X12_isFull_19 s0 μ = some (r, F)) : dtW yX12_isFull cX12_isFull 3 (some .boolean) 1 (some (.int r)) F 19 [] [.int s0] μ := by
  rw [f_X12_isFull_19] at h
  obtain ⟨hz, rfl, rfl⟩ := dtRet h
  exact dr_ireturn dX12_isFull_19 (dtNz hz)
set_option maxRecDepth 100000 in
theorem c_X12_isFull {r : Int32} {F : dtM} (p0 : Nat) (p1 : Int32) (p2 : Int32) (μ : dtM) (h : f_X12_isFull p0 p1 p2 μ = some (r, F)) : dtMet yX12_isFull cX12_isFull 3 (some .boolean) 1 [.ref p0, .int p1, .int p2] μ (some (.int r)) F := by
  refine dtMet.of (by decide +kernel) (Nat.le_of_ble_eq_true rfl) (show dtW yX12_isFull cX12_isFull 3 (some .boolean) 1 (some (.int r)) F 0 [some (.ref p0), some (.int p1), some (.int p2)] [] μ from ?_)
  rw [f_X12_isFull] at h
  refine dr_aload_n p0 dX12_isFull_0 rfl ?_
  obtain ⟨x1, e2, h⟩ := dtBind h
  refine dr_getR x1 dX12_isFull_1 fl_RX12_7 e2 ?_
  refine dr_sipush (2016 : Int32) dX12_isFull_4 (by decide) ?_
  refine dr_iload_n p1 dX12_isFull_7 rfl ?_
  refine dr_iadd dX12_isFull_8 ?_
  obtain ⟨x3, e4, h⟩ := dtBind h
  refine dr_iaload x3 dX12_isFull_9 e4 ?_
  refine dr_iload_n p2 dX12_isFull_10 rfl ?_
  obtain ⟨ht6, hf7⟩ := dtIte h
  refine dr_icmp_ne 18 dX12_isFull_11 (by decide) (fun hc5 => ?_) (fun hc5 => ?_)
  · have h := hf7 hc5
    refine dr_iconst (0 : Int32) dX12_isFull_18 (by decide) ?_
    refine dr_mask [] [] rfl ?_
    exact c_X12_isFull_19 (0 : Int32) μ h
  · have h := ht6 hc5
    refine dr_iconst (1 : Int32) dX12_isFull_14 (by decide) ?_
    refine dr_goto 19 dX12_isFull_15 (by decide) ?_
    refine dr_mask [] [] rfl ?_
    exact c_X12_isFull_19 (1 : Int32) μ h
/-! X12_isOld -/
theorem dX12_isOld_0 : decode cX12_isOld 0 = .ok (.aload_n 0, 1) := by decide +kernel
theorem dX12_isOld_1 : decode cX12_isOld 1 = .ok (.bipush 76, 2) := by decide +kernel
theorem dX12_isOld_3 : decode cX12_isOld 3 = .ok (.aload_n 0, 1) := by decide +kernel
theorem dX12_isOld_4 : decode cX12_isOld 4 = .ok (.getfield 7, 3) := by decide +kernel
theorem dX12_isOld_7 : decode cX12_isOld 7 = .ok (.sipush 2016, 3) := by decide +kernel
theorem dX12_isOld_10 : decode cX12_isOld 10 = .ok (.iaload, 1) := by decide +kernel
theorem dX12_isOld_11 : decode cX12_isOld 11 = .ok (.invokevirtual 188, 3) := by decide +kernel
theorem dX12_isOld_14 : decode cX12_isOld 14 = .ok (.iconst (-1), 1) := by decide +kernel
theorem dX12_isOld_15 : decode cX12_isOld 15 = .ok (.if_icmp .ne 21, 3) := by decide +kernel
theorem dX12_isOld_18 : decode cX12_isOld 18 = .ok (.aload_n 0, 1) := by decide +kernel
theorem dX12_isOld_19 : decode cX12_isOld 19 = .ok (.bipush 83, 2) := by decide +kernel
theorem dX12_isOld_21 : decode cX12_isOld 21 = .ok (.aload_n 0, 1) := by decide +kernel
theorem dX12_isOld_22 : decode cX12_isOld 22 = .ok (.getfield 7, 3) := by decide +kernel
theorem dX12_isOld_25 : decode cX12_isOld 25 = .ok (.sipush 2018, 3) := by decide +kernel
theorem dX12_isOld_28 : decode cX12_isOld 28 = .ok (.iaload, 1) := by decide +kernel
theorem dX12_isOld_29 : decode cX12_isOld 29 = .ok (.invokevirtual 188, 3) := by decide +kernel
theorem dX12_isOld_32 : decode cX12_isOld 32 = .ok (.iconst (-1), 1) := by decide +kernel
theorem dX12_isOld_33 : decode cX12_isOld 33 = .ok (.if_icmp .eq 5, 3) := by decide +kernel
theorem dX12_isOld_36 : decode cX12_isOld 36 = .ok (.iconst 1, 1) := by decide +kernel
theorem dX12_isOld_37 : decode cX12_isOld 37 = .ok (.ireturn, 1) := by decide +kernel
theorem dX12_isOld_38 : decode cX12_isOld 38 = .ok (.aload_n 0, 1) := by decide +kernel
theorem dX12_isOld_39 : decode cX12_isOld 39 = .ok (.bipush 90, 2) := by decide +kernel
theorem dX12_isOld_41 : decode cX12_isOld 41 = .ok (.aload_n 0, 1) := by decide +kernel
theorem dX12_isOld_42 : decode cX12_isOld 42 = .ok (.getfield 7, 3) := by decide +kernel
theorem dX12_isOld_45 : decode cX12_isOld 45 = .ok (.sipush 2019, 3) := by decide +kernel
theorem dX12_isOld_48 : decode cX12_isOld 48 = .ok (.iaload, 1) := by decide +kernel
theorem dX12_isOld_49 : decode cX12_isOld 49 = .ok (.invokevirtual 188, 3) := by decide +kernel
theorem dX12_isOld_52 : decode cX12_isOld 52 = .ok (.iconst (-1), 1) := by decide +kernel
theorem dX12_isOld_53 : decode cX12_isOld 53 = .ok (.if_icmp .eq 7, 3) := by decide +kernel
theorem dX12_isOld_56 : decode cX12_isOld 56 = .ok (.iconst 1, 1) := by decide +kernel
theorem dX12_isOld_57 : decode cX12_isOld 57 = .ok (.goto 4, 3) := by decide +kernel
theorem dX12_isOld_60 : decode cX12_isOld 60 = .ok (.iconst 0, 1) := by decide +kernel
theorem dX12_isOld_61 : decode cX12_isOld 61 = .ok (.ireturn, 1) := by decide +kernel
set_option maxRecDepth 100000 in
def f_X12_isOld_36  (μ : dtM) : Option (Int32 × dtM) :=
  opRet (1 : Int32) μ
set_option maxRecDepth 100000 in
def f_X12_isOld_61 (s0 : Int32) (μ : dtM) : Option (Int32 × dtM) :=
  opRet s0 μ
set_option maxRecDepth 100000 in
def f_X12_isOld (p0 : Nat) (μ : dtM) : Option (Int32 × dtM) :=
  (opGR 12 0 μ p0).bind fun x1 => (opLI 1 μ x1 (2016 : Int32)).bind fun x3 => (opRv 12 μ p0).bind fun _ => opCall (f_X12_findHere p0 (76 : Int32) x3 μ) fun x8 μ6 => if x8 = (-1 : Int32) then ((opGR 12 0 μ6 p0).bind fun x12 => (opLI 1 μ6 x12 (2018 : Int32)).bind fun x14 => (opRv 12 μ6 p0).bind fun _ => opCall (f_X12_findHere p0 (83 : Int32) x14 μ6) fun x19 μ17 => if x19 = (-1 : Int32) then ((opGR 12 0 μ17 p0).bind fun x23 => (opLI 1 μ17 x23 (2019 : Int32)).bind fun x25 => (opRv 12 μ17 p0).bind fun _ => opCall (f_X12_findHere p0 (90 : Int32) x25 μ17) fun x30 μ28 => if x30 = (-1 : Int32) then (f_X12_isOld_61 (0 : Int32) μ28) else (f_X12_isOld_61 (1 : Int32) μ28)) else (f_X12_isOld_36 μ17)) else (f_X12_isOld_36 μ6)
set_option maxRecDepth 100000 in
theorem c_X12_isOld_36 {r : Int32} {F : dtM}  (μ : dtM) (h : f_X12_isOld_36  μ = some (r, F)) : dtW yX12_isOld cX12_isOld 1 (some .boolean) 4 (some (.int r)) F 36 [] [] μ := by
  rw [f_X12_isOld_36] at h
  refine dr_iconst (1 : Int32) dX12_isOld_36 (by decide) ?_
  obtain ⟨hz, rfl, rfl⟩ := dtRet h
  exact dr_ireturn dX12_isOld_37 (dtNz hz)
set_option maxRecDepth 100000 in
theorem c_X12_isOld_61 {r : Int32} {F : dtM} (s0 : Int32) (μ : dtM) (h : f_X12_isOld_61 s0 μ = some (r, F)) : dtW yX12_isOld cX12_isOld 1 (some .boolean) 4 (some (.int r)) F 61 [] [.int s0] μ := by
  rw [f_X12_isOld_61] at h
  obtain ⟨hz, rfl, rfl⟩ := dtRet h
  exact dr_ireturn dX12_isOld_61 (dtNz hz)
set_option maxRecDepth 100000 in
theorem c_X12_isOld {r : Int32} {F : dtM} (p0 : Nat) (μ : dtM) (h : f_X12_isOld p0 μ = some (r, F)) : dtMet yX12_isOld cX12_isOld 1 (some .boolean) 4 [.ref p0] μ (some (.int r)) F := by
  refine dtMet.of (by decide +kernel) (Nat.le_of_ble_eq_true rfl) (show dtW yX12_isOld cX12_isOld 1 (some .boolean) 4 (some (.int r)) F 0 [some (.ref p0)] [] μ from ?_)
  rw [f_X12_isOld] at h
  refine dr_aload_n p0 dX12_isOld_0 rfl ?_
  refine dr_bipush (76 : Int32) dX12_isOld_1 (by decide) ?_
  refine dr_aload_n p0 dX12_isOld_3 rfl ?_
  obtain ⟨x1, e2, h⟩ := dtBind h
  refine dr_getR x1 dX12_isOld_4 fl_RX12_7 e2 ?_
  refine dr_sipush (2016 : Int32) dX12_isOld_7 (by decide) ?_
  obtain ⟨x3, e4, h⟩ := dtBind h
  refine dr_iaload x3 dX12_isOld_10 e4 ?_
  obtain ⟨_, hb5, h⟩ := dtBind h
  obtain ⟨x8, μ6, e7, h⟩ := dtCall h
  refine dr_callV_i (S0 := []) [.int (76 : Int32), .int x3] x8 μ6 dX12_isOld_11 (c_X12_findHere p0 (76 : Int32) x3 μ e7) mf_X12_findHere wt_1595 ws_69 wt_1593 rfl (dtRv hb5) (by decide) rfl (Nat.le_of_ble_eq_true rfl) (Nat.le_of_ble_eq_true rfl) rfl ?_
  refine dr_iconst (-1 : Int32) dX12_isOld_14 (by decide) ?_
  obtain ⟨ht10, hf11⟩ := dtIte h
  refine dr_icmp_ne 36 dX12_isOld_15 (by decide) (fun hc9 => ?_) (fun hc9 => ?_)
  · have h := hf11 hc9
    refine dr_mask [] [] rfl ?_
    exact c_X12_isOld_36 μ6 h
  · have h := ht10 hc9
    refine dr_aload_n p0 dX12_isOld_18 rfl ?_
    refine dr_bipush (83 : Int32) dX12_isOld_19 (by decide) ?_
    refine dr_aload_n p0 dX12_isOld_21 rfl ?_
    obtain ⟨x12, e13, h⟩ := dtBind h
    refine dr_getR x12 dX12_isOld_22 fl_RX12_7 e13 ?_
    refine dr_sipush (2018 : Int32) dX12_isOld_25 (by decide) ?_
    obtain ⟨x14, e15, h⟩ := dtBind h
    refine dr_iaload x14 dX12_isOld_28 e15 ?_
    obtain ⟨_, hb16, h⟩ := dtBind h
    obtain ⟨x19, μ17, e18, h⟩ := dtCall h
    refine dr_callV_i (S0 := []) [.int (83 : Int32), .int x14] x19 μ17 dX12_isOld_29 (c_X12_findHere p0 (83 : Int32) x14 μ6 e18) mf_X12_findHere wt_1595 ws_69 wt_1593 rfl (dtRv hb16) (by decide) rfl (Nat.le_of_ble_eq_true rfl) (Nat.le_of_ble_eq_true rfl) rfl ?_
    refine dr_iconst (-1 : Int32) dX12_isOld_32 (by decide) ?_
    obtain ⟨ht21, hf22⟩ := dtIte h
    refine dr_icmp_eq 38 dX12_isOld_33 (by decide) (fun hc20 => ?_) (fun hc20 => ?_)
    · have h := ht21 hc20
      refine dr_aload_n p0 dX12_isOld_38 rfl ?_
      refine dr_bipush (90 : Int32) dX12_isOld_39 (by decide) ?_
      refine dr_aload_n p0 dX12_isOld_41 rfl ?_
      obtain ⟨x23, e24, h⟩ := dtBind h
      refine dr_getR x23 dX12_isOld_42 fl_RX12_7 e24 ?_
      refine dr_sipush (2019 : Int32) dX12_isOld_45 (by decide) ?_
      obtain ⟨x25, e26, h⟩ := dtBind h
      refine dr_iaload x25 dX12_isOld_48 e26 ?_
      obtain ⟨_, hb27, h⟩ := dtBind h
      obtain ⟨x30, μ28, e29, h⟩ := dtCall h
      refine dr_callV_i (S0 := []) [.int (90 : Int32), .int x25] x30 μ28 dX12_isOld_49 (c_X12_findHere p0 (90 : Int32) x25 μ17 e29) mf_X12_findHere wt_1595 ws_69 wt_1593 rfl (dtRv hb27) (by decide) rfl (Nat.le_of_ble_eq_true rfl) (Nat.le_of_ble_eq_true rfl) rfl ?_
      refine dr_iconst (-1 : Int32) dX12_isOld_52 (by decide) ?_
      obtain ⟨ht32, hf33⟩ := dtIte h
      refine dr_icmp_eq 60 dX12_isOld_53 (by decide) (fun hc31 => ?_) (fun hc31 => ?_)
      · have h := ht32 hc31
        refine dr_iconst (0 : Int32) dX12_isOld_60 (by decide) ?_
        refine dr_mask [] [] rfl ?_
        exact c_X12_isOld_61 (0 : Int32) μ28 h
      · have h := hf33 hc31
        refine dr_iconst (1 : Int32) dX12_isOld_56 (by decide) ?_
        refine dr_goto 61 dX12_isOld_57 (by decide) ?_
        refine dr_mask [] [] rfl ?_
        exact c_X12_isOld_61 (1 : Int32) μ28 h
    · have h := hf22 hc20
      refine dr_mask [] [] rfl ?_
      exact c_X12_isOld_36 μ17 h
/-! X12_newOne -/
theorem dX12_newOne_0 : decode cX12_newOne 0 = .ok (.aload_n 0, 1) := by decide +kernel
theorem dX12_newOne_1 : decode cX12_newOne 1 = .ok (.iload_n 1, 1) := by decide +kernel
theorem dX12_newOne_2 : decode cX12_newOne 2 = .ok (.iload_n 2, 1) := by decide +kernel
theorem dX12_newOne_3 : decode cX12_newOne 3 = .ok (.invokevirtual 191, 3) := by decide +kernel
theorem dX12_newOne_6 : decode cX12_newOne 6 = .ok (.ifCond .eq 10, 3) := by decide +kernel
theorem dX12_newOne_9 : decode cX12_newOne 9 = .ok (.aload_n 0, 1) := by decide +kernel
theorem dX12_newOne_10 : decode cX12_newOne 10 = .ok (.bipush 6, 2) := by decide +kernel
theorem dX12_newOne_12 : decode cX12_newOne 12 = .ok (.invokevirtual 175, 3) := by decide +kernel
theorem dX12_newOne_15 : decode cX12_newOne 15 = .ok (.ireturn, 1) := by decide +kernel
theorem dX12_newOne_16 : decode cX12_newOne 16 = .ok (.aload_n 0, 1) := by decide +kernel
theorem dX12_newOne_17 : decode cX12_newOne 17 = .ok (.invokevirtual 169, 3) := by decide +kernel
theorem dX12_newOne_20 : decode cX12_newOne 20 = .ok (.aload_n 0, 1) := by decide +kernel
theorem dX12_newOne_21 : decode cX12_newOne 21 = .ok (.ldc 186, 2) := by decide +kernel
theorem dX12_newOne_23 : decode cX12_newOne 23 = .ok (.invokevirtual 195, 3) := by decide +kernel
theorem dX12_newOne_26 : decode cX12_newOne 26 = .ok (.ifCond .ne 9, 3) := by decide +kernel
theorem dX12_newOne_29 : decode cX12_newOne 29 = .ok (.aload_n 0, 1) := by decide +kernel
theorem dX12_newOne_30 : decode cX12_newOne 30 = .ok (.iconst 2, 1) := by decide +kernel
theorem dX12_newOne_31 : decode cX12_newOne 31 = .ok (.invokevirtual 175, 3) := by decide +kernel
theorem dX12_newOne_34 : decode cX12_newOne 34 = .ok (.ireturn, 1) := by decide +kernel
theorem dX12_newOne_35 : decode cX12_newOne 35 = .ok (.aload_n 0, 1) := by decide +kernel
theorem dX12_newOne_36 : decode cX12_newOne 36 = .ok (.invokevirtual 199, 3) := by decide +kernel
theorem dX12_newOne_39 : decode cX12_newOne 39 = .ok (.ifCond .eq 9, 3) := by decide +kernel
theorem dX12_newOne_42 : decode cX12_newOne 42 = .ok (.aload_n 0, 1) := by decide +kernel
theorem dX12_newOne_43 : decode cX12_newOne 43 = .ok (.iconst 3, 1) := by decide +kernel
theorem dX12_newOne_44 : decode cX12_newOne 44 = .ok (.invokevirtual 175, 3) := by decide +kernel
theorem dX12_newOne_47 : decode cX12_newOne 47 = .ok (.ireturn, 1) := by decide +kernel
theorem dX12_newOne_48 : decode cX12_newOne 48 = .ok (.aload_n 0, 1) := by decide +kernel
theorem dX12_newOne_49 : decode cX12_newOne 49 = .ok (.getfield 13, 3) := by decide +kernel
theorem dX12_newOne_52 : decode cX12_newOne 52 = .ok (.bipush 76, 2) := by decide +kernel
theorem dX12_newOne_54 : decode cX12_newOne 54 = .ok (.iload_n 3, 1) := by decide +kernel
theorem dX12_newOne_55 : decode cX12_newOne 55 = .ok (.iadd, 1) := by decide +kernel
theorem dX12_newOne_56 : decode cX12_newOne 56 = .ok (.aload_n 0, 1) := by decide +kernel
theorem dX12_newOne_57 : decode cX12_newOne 57 = .ok (.getfield 7, 3) := by decide +kernel
theorem dX12_newOne_60 : decode cX12_newOne 60 = .ok (.sipush 2016, 3) := by decide +kernel
theorem dX12_newOne_63 : decode cX12_newOne 63 = .ok (.iload_n 1, 1) := by decide +kernel
theorem dX12_newOne_64 : decode cX12_newOne 64 = .ok (.iadd, 1) := by decide +kernel
theorem dX12_newOne_65 : decode cX12_newOne 65 = .ok (.iaload, 1) := by decide +kernel
theorem dX12_newOne_66 : decode cX12_newOne 66 = .ok (.iadd, 1) := by decide +kernel
theorem dX12_newOne_67 : decode cX12_newOne 67 = .ok (.aload_n 0, 1) := by decide +kernel
theorem dX12_newOne_68 : decode cX12_newOne 68 = .ok (.invokevirtual 182, 3) := by decide +kernel
theorem dX12_newOne_71 : decode cX12_newOne 71 = .ok (.lastore, 1) := by decide +kernel
theorem dX12_newOne_72 : decode cX12_newOne 72 = .ok (.aload_n 0, 1) := by decide +kernel
theorem dX12_newOne_73 : decode cX12_newOne 73 = .ok (.invokevirtual 169, 3) := by decide +kernel
theorem dX12_newOne_76 : decode cX12_newOne 76 = .ok (.iconst 1, 1) := by decide +kernel
theorem dX12_newOne_77 : decode cX12_newOne 77 = .ok (.ireturn, 1) := by decide +kernel
set_option maxRecDepth 100000 in
def f_X12_newOne (p0 : Nat) (p1 : Int32) (p2 : Int32) (p3 : Int32) (μ : dtM) : Option (Int32 × dtM) :=
  (opRv 12 μ p0).bind fun _ => opCall (f_X12_isFull p0 p1 p2 μ) fun x4 μ2 => if x4 = 0 then ((opRv 12 μ2 p0).bind fun _ => (f_X12_ahead p0 μ2).bind fun μ9 => (opRv 12 μ9 p0).bind fun _ => opCall (f_X12_isName p0 1000003 μ9) fun x14 μ12 => if x14 = 0 then ((opRv 12 μ12 p0).bind fun _ => opCall (f_X12_fails p0 (2 : Int32) μ12) fun x47 μ45 => opRet x47 μ45) else ((opRv 12 μ12 p0).bind fun _ => opCall (f_X12_isOld p0 μ12) fun x21 μ19 => if x21 = 0 then ((opGR 12 1 μ19 p0).bind fun x25 => (opGR 12 0 μ19 p0).bind fun x27 => (opLI 1 μ19 x27 ((2016 : Int32) + p1)).bind fun x29 => (opRv 12 μ19 p0).bind fun _ => opCall (f_X12_nameHere p0 μ19) fun x34 μ32 => (opSJ μ32 x25 (((76 : Int32) + p3) + x29) x34).bind fun μ35 => (opRv 12 μ35 p0).bind fun _ => (f_X12_ahead p0 μ35).bind fun μ38 => opRet (1 : Int32) μ38) else ((opRv 12 μ19 p0).bind fun _ => opCall (f_X12_fails p0 (3 : Int32) μ19) fun x43 μ41 => opRet x43 μ41))) else ((opRv 12 μ2 p0).bind fun _ => opCall (f_X12_fails p0 (6 : Int32) μ2) fun x51 μ49 => opRet x51 μ49)
set_option maxRecDepth 100000 in
theorem c_X12_newOne {r : Int32} {F : dtM} (p0 : Nat) (p1 : Int32) (p2 : Int32) (p3 : Int32) (μ : dtM) (h : f_X12_newOne p0 p1 p2 p3 μ = some (r, F)) : dtMet yX12_newOne cX12_newOne 4 (some .boolean) 8 [.ref p0, .int p1, .int p2, .int p3] μ (some (.int r)) F := by
  refine dtMet.of (by decide +kernel) (Nat.le_of_ble_eq_true rfl) (show dtW yX12_newOne cX12_newOne 4 (some .boolean) 8 (some (.int r)) F 0 [some (.ref p0), some (.int p1), some (.int p2), some (.int p3)] [] μ from ?_)
  rw [f_X12_newOne] at h
  refine dr_aload_n p0 dX12_newOne_0 rfl ?_
  refine dr_iload_n p1 dX12_newOne_1 rfl ?_
  refine dr_iload_n p2 dX12_newOne_2 rfl ?_
  obtain ⟨_, hb1, h⟩ := dtBind h
  obtain ⟨x4, μ2, e3, h⟩ := dtCall h
  refine dr_callV_i (S0 := []) [.int p1, .int p2] x4 μ2 dX12_newOne_3 (c_X12_isFull p0 p1 p2 μ e3) mf_X12_isFull wt_1583 ws_66 wt_1581 rfl (dtRv hb1) (by decide) rfl (Nat.le_of_ble_eq_true rfl) (Nat.le_of_ble_eq_true rfl) rfl ?_
  obtain ⟨ht6, hf7⟩ := dtIte h
  refine dr_if_eq 16 dX12_newOne_6 (by decide) (fun hc5 => ?_) (fun hc5 => ?_)
  · have h := ht6 hc5
    refine dr_aload_n p0 dX12_newOne_16 rfl ?_
    obtain ⟨_, hb8, h⟩ := dtBind h
    obtain ⟨μ9, e10, h⟩ := dtBind h
    refine dr_callV_v (S0 := []) [] μ9 dX12_newOne_17 (c_X12_ahead p0 μ2 e10) mf_X12_ahead wt_1536 ws_57 wt_1534 rfl (dtRv hb8) (by decide) rfl (Nat.le_of_ble_eq_true rfl) (Nat.le_of_ble_eq_true rfl) rfl ?_
    refine dr_aload_n p0 dX12_newOne_20 rfl ?_
    refine dr_ldcS1 dX12_newOne_21 rfl ?_
    obtain ⟨_, hb11, h⟩ := dtBind h
    obtain ⟨x14, μ12, e13, h⟩ := dtCall h
    refine dr_callV_i (S0 := []) [.ref 1000003] x14 μ12 dX12_newOne_23 (c_X12_isName p0 1000003 μ9 e13) mf_X12_isName wt_1587 ws_67 wt_1585 rfl (dtRv hb11) (by decide) rfl (Nat.le_of_ble_eq_true rfl) (Nat.le_of_ble_eq_true rfl) rfl ?_
    obtain ⟨ht16, hf17⟩ := dtIte h
    refine dr_if_ne 35 dX12_newOne_26 (by decide) (fun hc15 => ?_) (fun hc15 => ?_)
    · have h := hf17 hc15
      refine dr_aload_n p0 dX12_newOne_35 rfl ?_
      obtain ⟨_, hb18, h⟩ := dtBind h
      obtain ⟨x21, μ19, e20, h⟩ := dtCall h
      refine dr_callV_i (S0 := []) [] x21 μ19 dX12_newOne_36 (c_X12_isOld p0 μ12 e20) mf_X12_isOld wt_1591 ws_68 wt_1589 rfl (dtRv hb18) (by decide) rfl (Nat.le_of_ble_eq_true rfl) (Nat.le_of_ble_eq_true rfl) rfl ?_
      obtain ⟨ht23, hf24⟩ := dtIte h
      refine dr_if_eq 48 dX12_newOne_39 (by decide) (fun hc22 => ?_) (fun hc22 => ?_)
      · have h := ht23 hc22
        refine dr_aload_n p0 dX12_newOne_48 rfl ?_
        obtain ⟨x25, e26, h⟩ := dtBind h
        refine dr_getR x25 dX12_newOne_49 fl_RX12_13 e26 ?_
        refine dr_bipush (76 : Int32) dX12_newOne_52 (by decide) ?_
        refine dr_iload_n p3 dX12_newOne_54 rfl ?_
        refine dr_iadd dX12_newOne_55 ?_
        refine dr_aload_n p0 dX12_newOne_56 rfl ?_
        obtain ⟨x27, e28, h⟩ := dtBind h
        refine dr_getR x27 dX12_newOne_57 fl_RX12_7 e28 ?_
        refine dr_sipush (2016 : Int32) dX12_newOne_60 (by decide) ?_
        refine dr_iload_n p1 dX12_newOne_63 rfl ?_
        refine dr_iadd dX12_newOne_64 ?_
        obtain ⟨x29, e30, h⟩ := dtBind h
        refine dr_iaload x29 dX12_newOne_65 e30 ?_
        refine dr_iadd dX12_newOne_66 ?_
        refine dr_aload_n p0 dX12_newOne_67 rfl ?_
        obtain ⟨_, hb31, h⟩ := dtBind h
        obtain ⟨x34, μ32, e33, h⟩ := dtCall h
        refine dr_callV_l (S0 := [.int (((76 : Int32) + p3) + x29), .ref x25]) [] x34 μ32 dX12_newOne_68 (c_X12_nameHere p0 μ19 e33) mf_X12_nameHere wt_1599 ws_70 wt_1597 rfl (dtRv hb31) (by decide) rfl (Nat.le_of_ble_eq_true rfl) (Nat.le_of_ble_eq_true rfl) rfl ?_
        obtain ⟨μ35, e36, h⟩ := dtBind h
        refine dr_lastore μ35 dX12_newOne_71 e36 ?_
        refine dr_aload_n p0 dX12_newOne_72 rfl ?_
        obtain ⟨_, hb37, h⟩ := dtBind h
        obtain ⟨μ38, e39, h⟩ := dtBind h
        refine dr_callV_v (S0 := []) [] μ38 dX12_newOne_73 (c_X12_ahead p0 μ35 e39) mf_X12_ahead wt_1536 ws_57 wt_1534 rfl (dtRv hb37) (by decide) rfl (Nat.le_of_ble_eq_true rfl) (Nat.le_of_ble_eq_true rfl) rfl ?_
        refine dr_iconst (1 : Int32) dX12_newOne_76 (by decide) ?_
        obtain ⟨hz, rfl, rfl⟩ := dtRet h
        exact dr_ireturn dX12_newOne_77 (dtNz hz)
      · have h := hf24 hc22
        refine dr_aload_n p0 dX12_newOne_42 rfl ?_
        refine dr_iconst (3 : Int32) dX12_newOne_43 (by decide) ?_
        obtain ⟨_, hb40, h⟩ := dtBind h
        obtain ⟨x43, μ41, e42, h⟩ := dtCall h
        refine dr_callV_i (S0 := []) [.int (3 : Int32)] x43 μ41 dX12_newOne_44 (c_X12_fails p0 (3 : Int32) μ19 e42) mf_X12_fails wt_1567 ws_62 wt_1565 rfl (dtRv hb40) (by decide) rfl (Nat.le_of_ble_eq_true rfl) (Nat.le_of_ble_eq_true rfl) rfl ?_
        obtain ⟨hz, rfl, rfl⟩ := dtRet h
        exact dr_ireturn dX12_newOne_47 (dtNz hz)
    · have h := ht16 hc15
      refine dr_aload_n p0 dX12_newOne_29 rfl ?_
      refine dr_iconst (2 : Int32) dX12_newOne_30 (by decide) ?_
      obtain ⟨_, hb44, h⟩ := dtBind h
      obtain ⟨x47, μ45, e46, h⟩ := dtCall h
      refine dr_callV_i (S0 := []) [.int (2 : Int32)] x47 μ45 dX12_newOne_31 (c_X12_fails p0 (2 : Int32) μ12 e46) mf_X12_fails wt_1567 ws_62 wt_1565 rfl (dtRv hb44) (by decide) rfl (Nat.le_of_ble_eq_true rfl) (Nat.le_of_ble_eq_true rfl) rfl ?_
      obtain ⟨hz, rfl, rfl⟩ := dtRet h
      exact dr_ireturn dX12_newOne_34 (dtNz hz)
  · have h := hf7 hc5
    refine dr_aload_n p0 dX12_newOne_9 rfl ?_
    refine dr_bipush (6 : Int32) dX12_newOne_10 (by decide) ?_
    obtain ⟨_, hb48, h⟩ := dtBind h
    obtain ⟨x51, μ49, e50, h⟩ := dtCall h
    refine dr_callV_i (S0 := []) [.int (6 : Int32)] x51 μ49 dX12_newOne_12 (c_X12_fails p0 (6 : Int32) μ2 e50) mf_X12_fails wt_1567 ws_62 wt_1565 rfl (dtRv hb48) (by decide) rfl (Nat.le_of_ble_eq_true rfl) (Nat.le_of_ble_eq_true rfl) rfl ?_
    obtain ⟨hz, rfl, rfl⟩ := dtRet h
    exact dr_ireturn dX12_newOne_15 (dtNz hz)
/-! X12_oldOne -/
theorem dX12_oldOne_0 : decode cX12_oldOne 0 = .ok (.aload_n 0, 1) := by decide +kernel
theorem dX12_oldOne_1 : decode cX12_oldOne 1 = .ok (.ldc 186, 2) := by decide +kernel
theorem dX12_oldOne_3 : decode cX12_oldOne 3 = .ok (.invokevirtual 195, 3) := by decide +kernel
theorem dX12_oldOne_6 : decode cX12_oldOne 6 = .ok (.ifCond .ne 9, 3) := by decide +kernel
theorem dX12_oldOne_9 : decode cX12_oldOne 9 = .ok (.aload_n 0, 1) := by decide +kernel
theorem dX12_oldOne_10 : decode cX12_oldOne 10 = .ok (.iconst 2, 1) := by decide +kernel
theorem dX12_oldOne_11 : decode cX12_oldOne 11 = .ok (.invokevirtual 175, 3) := by decide +kernel
theorem dX12_oldOne_14 : decode cX12_oldOne 14 = .ok (.ireturn, 1) := by decide +kernel
theorem dX12_oldOne_15 : decode cX12_oldOne 15 = .ok (.aload_n 0, 1) := by decide +kernel
theorem dX12_oldOne_16 : decode cX12_oldOne 16 = .ok (.getfield 7, 3) := by decide +kernel
theorem dX12_oldOne_19 : decode cX12_oldOne 19 = .ok (.iload_n 3, 1) := by decide +kernel
theorem dX12_oldOne_20 : decode cX12_oldOne 20 = .ok (.aload_n 0, 1) := by decide +kernel
theorem dX12_oldOne_21 : decode cX12_oldOne 21 = .ok (.iload_n 1, 1) := by decide +kernel
theorem dX12_oldOne_22 : decode cX12_oldOne 22 = .ok (.iload_n 2, 1) := by decide +kernel
theorem dX12_oldOne_23 : decode cX12_oldOne 23 = .ok (.invokevirtual 188, 3) := by decide +kernel
theorem dX12_oldOne_26 : decode cX12_oldOne 26 = .ok (.iastore, 1) := by decide +kernel
theorem dX12_oldOne_27 : decode cX12_oldOne 27 = .ok (.aload_n 0, 1) := by decide +kernel
theorem dX12_oldOne_28 : decode cX12_oldOne 28 = .ok (.getfield 7, 3) := by decide +kernel
theorem dX12_oldOne_31 : decode cX12_oldOne 31 = .ok (.iload_n 3, 1) := by decide +kernel
theorem dX12_oldOne_32 : decode cX12_oldOne 32 = .ok (.iaload, 1) := by decide +kernel
theorem dX12_oldOne_33 : decode cX12_oldOne 33 = .ok (.iconst (-1), 1) := by decide +kernel
theorem dX12_oldOne_34 : decode cX12_oldOne 34 = .ok (.if_icmp .ne 9, 3) := by decide +kernel
theorem dX12_oldOne_37 : decode cX12_oldOne 37 = .ok (.aload_n 0, 1) := by decide +kernel
theorem dX12_oldOne_38 : decode cX12_oldOne 38 = .ok (.iconst 3, 1) := by decide +kernel
theorem dX12_oldOne_39 : decode cX12_oldOne 39 = .ok (.invokevirtual 175, 3) := by decide +kernel
theorem dX12_oldOne_42 : decode cX12_oldOne 42 = .ok (.ireturn, 1) := by decide +kernel
theorem dX12_oldOne_43 : decode cX12_oldOne 43 = .ok (.aload_n 0, 1) := by decide +kernel
theorem dX12_oldOne_44 : decode cX12_oldOne 44 = .ok (.invokevirtual 169, 3) := by decide +kernel
theorem dX12_oldOne_47 : decode cX12_oldOne 47 = .ok (.iconst 1, 1) := by decide +kernel
theorem dX12_oldOne_48 : decode cX12_oldOne 48 = .ok (.ireturn, 1) := by decide +kernel
set_option maxRecDepth 100000 in
def f_X12_oldOne (p0 : Nat) (p1 : Int32) (p2 : Int32) (p3 : Int32) (μ : dtM) : Option (Int32 × dtM) :=
  (opRv 12 μ p0).bind fun _ => opCall (f_X12_isName p0 1000003 μ) fun x4 μ2 => if x4 = 0 then ((opRv 12 μ2 p0).bind fun _ => opCall (f_X12_fails p0 (2 : Int32) μ2) fun x33 μ31 => opRet x33 μ31) else ((opGR 12 0 μ2 p0).bind fun x8 => (opRv 12 μ2 p0).bind fun _ => opCall (f_X12_findHere p0 p1 p2 μ2) fun x13 μ11 => (opSI μ11 x8 p3 x13).bind fun μ14 => (opGR 12 0 μ14 p0).bind fun x16 => (opLI 1 μ14 x16 p3).bind fun x18 => if x18 = (-1 : Int32) then ((opRv 12 μ14 p0).bind fun _ => opCall (f_X12_fails p0 (3 : Int32) μ14) fun x29 μ27 => opRet x29 μ27) else ((opRv 12 μ14 p0).bind fun _ => (f_X12_ahead p0 μ14).bind fun μ24 => opRet (1 : Int32) μ24))
set_option maxRecDepth 100000 in
theorem c_X12_oldOne {r : Int32} {F : dtM} (p0 : Nat) (p1 : Int32) (p2 : Int32) (p3 : Int32) (μ : dtM) (h : f_X12_oldOne p0 p1 p2 p3 μ = some (r, F)) : dtMet yX12_oldOne cX12_oldOne 4 (some .boolean) 8 [.ref p0, .int p1, .int p2, .int p3] μ (some (.int r)) F := by
  refine dtMet.of (by decide +kernel) (Nat.le_of_ble_eq_true rfl) (show dtW yX12_oldOne cX12_oldOne 4 (some .boolean) 8 (some (.int r)) F 0 [some (.ref p0), some (.int p1), some (.int p2), some (.int p3)] [] μ from ?_)
  rw [f_X12_oldOne] at h
  refine dr_aload_n p0 dX12_oldOne_0 rfl ?_
  refine dr_ldcS1 dX12_oldOne_1 rfl ?_
  obtain ⟨_, hb1, h⟩ := dtBind h
  obtain ⟨x4, μ2, e3, h⟩ := dtCall h
  refine dr_callV_i (S0 := []) [.ref 1000003] x4 μ2 dX12_oldOne_3 (c_X12_isName p0 1000003 μ e3) mf_X12_isName wt_1587 ws_67 wt_1585 rfl (dtRv hb1) (by decide) rfl (Nat.le_of_ble_eq_true rfl) (Nat.le_of_ble_eq_true rfl) rfl ?_
  obtain ⟨ht6, hf7⟩ := dtIte h
  refine dr_if_ne 15 dX12_oldOne_6 (by decide) (fun hc5 => ?_) (fun hc5 => ?_)
  · have h := hf7 hc5
    refine dr_aload_n p0 dX12_oldOne_15 rfl ?_
    obtain ⟨x8, e9, h⟩ := dtBind h
    refine dr_getR x8 dX12_oldOne_16 fl_RX12_7 e9 ?_
    refine dr_iload_n p3 dX12_oldOne_19 rfl ?_
    refine dr_aload_n p0 dX12_oldOne_20 rfl ?_
    refine dr_iload_n p1 dX12_oldOne_21 rfl ?_
    refine dr_iload_n p2 dX12_oldOne_22 rfl ?_
    obtain ⟨_, hb10, h⟩ := dtBind h
    obtain ⟨x13, μ11, e12, h⟩ := dtCall h
    refine dr_callV_i (S0 := [.int p3, .ref x8]) [.int p1, .int p2] x13 μ11 dX12_oldOne_23 (c_X12_findHere p0 p1 p2 μ2 e12) mf_X12_findHere wt_1595 ws_69 wt_1593 rfl (dtRv hb10) (by decide) rfl (Nat.le_of_ble_eq_true rfl) (Nat.le_of_ble_eq_true rfl) rfl ?_
    obtain ⟨μ14, e15, h⟩ := dtBind h
    refine dr_iastore μ14 dX12_oldOne_26 e15 ?_
    refine dr_aload_n p0 dX12_oldOne_27 rfl ?_
    obtain ⟨x16, e17, h⟩ := dtBind h
    refine dr_getR x16 dX12_oldOne_28 fl_RX12_7 e17 ?_
    refine dr_iload_n p3 dX12_oldOne_31 rfl ?_
    obtain ⟨x18, e19, h⟩ := dtBind h
    refine dr_iaload x18 dX12_oldOne_32 e19 ?_
    refine dr_iconst (-1 : Int32) dX12_oldOne_33 (by decide) ?_
    obtain ⟨ht21, hf22⟩ := dtIte h
    refine dr_icmp_ne 43 dX12_oldOne_34 (by decide) (fun hc20 => ?_) (fun hc20 => ?_)
    · have h := hf22 hc20
      refine dr_aload_n p0 dX12_oldOne_43 rfl ?_
      obtain ⟨_, hb23, h⟩ := dtBind h
      obtain ⟨μ24, e25, h⟩ := dtBind h
      refine dr_callV_v (S0 := []) [] μ24 dX12_oldOne_44 (c_X12_ahead p0 μ14 e25) mf_X12_ahead wt_1536 ws_57 wt_1534 rfl (dtRv hb23) (by decide) rfl (Nat.le_of_ble_eq_true rfl) (Nat.le_of_ble_eq_true rfl) rfl ?_
      refine dr_iconst (1 : Int32) dX12_oldOne_47 (by decide) ?_
      obtain ⟨hz, rfl, rfl⟩ := dtRet h
      exact dr_ireturn dX12_oldOne_48 (dtNz hz)
    · have h := ht21 hc20
      refine dr_aload_n p0 dX12_oldOne_37 rfl ?_
      refine dr_iconst (3 : Int32) dX12_oldOne_38 (by decide) ?_
      obtain ⟨_, hb26, h⟩ := dtBind h
      obtain ⟨x29, μ27, e28, h⟩ := dtCall h
      refine dr_callV_i (S0 := []) [.int (3 : Int32)] x29 μ27 dX12_oldOne_39 (c_X12_fails p0 (3 : Int32) μ14 e28) mf_X12_fails wt_1567 ws_62 wt_1565 rfl (dtRv hb26) (by decide) rfl (Nat.le_of_ble_eq_true rfl) (Nat.le_of_ble_eq_true rfl) rfl ?_
      obtain ⟨hz, rfl, rfl⟩ := dtRet h
      exact dr_ireturn dX12_oldOne_42 (dtNz hz)
  · have h := ht6 hc5
    refine dr_aload_n p0 dX12_oldOne_9 rfl ?_
    refine dr_iconst (2 : Int32) dX12_oldOne_10 (by decide) ?_
    obtain ⟨_, hb30, h⟩ := dtBind h
    obtain ⟨x33, μ31, e32, h⟩ := dtCall h
    refine dr_callV_i (S0 := []) [.int (2 : Int32)] x33 μ31 dX12_oldOne_11 (c_X12_fails p0 (2 : Int32) μ2 e32) mf_X12_fails wt_1567 ws_62 wt_1565 rfl (dtRv hb30) (by decide) rfl (Nat.le_of_ble_eq_true rfl) (Nat.le_of_ble_eq_true rfl) rfl ?_
    obtain ⟨hz, rfl, rfl⟩ := dtRet h
    exact dr_ireturn dX12_oldOne_14 (dtNz hz)
/-! X12_newRoomTo -/
theorem dX12_newRoomTo_0 : decode cX12_newRoomTo 0 = .ok (.aload_n 0, 1) := by decide +kernel
theorem dX12_newRoomTo_1 : decode cX12_newRoomTo 1 = .ok (.bipush 76, 2) := by decide +kernel
theorem dX12_newRoomTo_3 : decode cX12_newRoomTo 3 = .ok (.aload_n 0, 1) := by decide +kernel
theorem dX12_newRoomTo_4 : decode cX12_newRoomTo 4 = .ok (.getfield 7, 3) := by decide +kernel
theorem dX12_newRoomTo_7 : decode cX12_newRoomTo 7 = .ok (.sipush 2016, 3) := by decide +kernel
theorem dX12_newRoomTo_10 : decode cX12_newRoomTo 10 = .ok (.iaload, 1) := by decide +kernel
theorem dX12_newRoomTo_11 : decode cX12_newRoomTo 11 = .ok (.iload_n 1, 1) := by decide +kernel
theorem dX12_newRoomTo_12 : decode cX12_newRoomTo 12 = .ok (.invokevirtual 203, 3) := by decide +kernel
theorem dX12_newRoomTo_15 : decode cX12_newRoomTo 15 = .ok (.ireturn, 1) := by decide +kernel
set_option maxRecDepth 100000 in
def f_X12_newRoomTo (p0 : Nat) (p1 : Int32) (μ : dtM) : Option (Int32 × dtM) :=
  (opGR 12 0 μ p0).bind fun x1 => (opLI 1 μ x1 (2016 : Int32)).bind fun x3 => (opRv 12 μ p0).bind fun _ => opCall (f_X12_oldOne p0 (76 : Int32) x3 p1 μ) fun x8 μ6 => opRet x8 μ6
set_option maxRecDepth 100000 in
theorem c_X12_newRoomTo {r : Int32} {F : dtM} (p0 : Nat) (p1 : Int32) (μ : dtM) (h : f_X12_newRoomTo p0 p1 μ = some (r, F)) : dtMet yX12_newRoomTo cX12_newRoomTo 2 (some .boolean) 9 [.ref p0, .int p1] μ (some (.int r)) F := by
  refine dtMet.of (by decide +kernel) (Nat.le_of_ble_eq_true rfl) (show dtW yX12_newRoomTo cX12_newRoomTo 2 (some .boolean) 9 (some (.int r)) F 0 [some (.ref p0), some (.int p1)] [] μ from ?_)
  rw [f_X12_newRoomTo] at h
  refine dr_aload_n p0 dX12_newRoomTo_0 rfl ?_
  refine dr_bipush (76 : Int32) dX12_newRoomTo_1 (by decide) ?_
  refine dr_aload_n p0 dX12_newRoomTo_3 rfl ?_
  obtain ⟨x1, e2, h⟩ := dtBind h
  refine dr_getR x1 dX12_newRoomTo_4 fl_RX12_7 e2 ?_
  refine dr_sipush (2016 : Int32) dX12_newRoomTo_7 (by decide) ?_
  obtain ⟨x3, e4, h⟩ := dtBind h
  refine dr_iaload x3 dX12_newRoomTo_10 e4 ?_
  refine dr_iload_n p1 dX12_newRoomTo_11 rfl ?_
  obtain ⟨_, hb5, h⟩ := dtBind h
  obtain ⟨x8, μ6, e7, h⟩ := dtCall h
  refine dr_callV_i (S0 := []) [.int (76 : Int32), .int x3, .int p1] x8 μ6 dX12_newRoomTo_12 (c_X12_oldOne p0 (76 : Int32) x3 p1 μ e7) mf_X12_oldOne wt_1614 ws_73 wt_1612 rfl (dtRv hb5) (by decide) rfl (Nat.le_of_ble_eq_true rfl) (Nat.le_of_ble_eq_true rfl) rfl ?_
  obtain ⟨hz, rfl, rfl⟩ := dtRet h
  exact dr_ireturn dX12_newRoomTo_15 (dtNz hz)
/-! X12_aRoom -/
theorem dX12_aRoom_0 : decode cX12_aRoom 0 = .ok (.aload_n 0, 1) := by decide +kernel
theorem dX12_aRoom_1 : decode cX12_aRoom 1 = .ok (.iconst 0, 1) := by decide +kernel
theorem dX12_aRoom_2 : decode cX12_aRoom 2 = .ok (.bipush 7, 2) := by decide +kernel
theorem dX12_aRoom_4 : decode cX12_aRoom 4 = .ok (.iconst 0, 1) := by decide +kernel
theorem dX12_aRoom_5 : decode cX12_aRoom 5 = .ok (.invokevirtual 207, 3) := by decide +kernel
theorem dX12_aRoom_8 : decode cX12_aRoom 8 = .ok (.ifCond .ne 5, 3) := by decide +kernel
theorem dX12_aRoom_11 : decode cX12_aRoom 11 = .ok (.iconst 0, 1) := by decide +kernel
theorem dX12_aRoom_12 : decode cX12_aRoom 12 = .ok (.ireturn, 1) := by decide +kernel
theorem dX12_aRoom_13 : decode cX12_aRoom 13 = .ok (.aload_n 0, 1) := by decide +kernel
theorem dX12_aRoom_14 : decode cX12_aRoom 14 = .ok (.getfield 7, 3) := by decide +kernel
theorem dX12_aRoom_17 : decode cX12_aRoom 17 = .ok (.sipush 2016, 3) := by decide +kernel
theorem dX12_aRoom_20 : decode cX12_aRoom 20 = .ok (.dup2, 1) := by decide +kernel
theorem dX12_aRoom_21 : decode cX12_aRoom 21 = .ok (.iaload, 1) := by decide +kernel
theorem dX12_aRoom_22 : decode cX12_aRoom 22 = .ok (.iconst 1, 1) := by decide +kernel
theorem dX12_aRoom_23 : decode cX12_aRoom 23 = .ok (.iadd, 1) := by decide +kernel
theorem dX12_aRoom_24 : decode cX12_aRoom 24 = .ok (.iastore, 1) := by decide +kernel
theorem dX12_aRoom_25 : decode cX12_aRoom 25 = .ok (.iconst 1, 1) := by decide +kernel
theorem dX12_aRoom_26 : decode cX12_aRoom 26 = .ok (.ireturn, 1) := by decide +kernel
set_option maxRecDepth 100000 in
def f_X12_aRoom (p0 : Nat) (μ : dtM) : Option (Int32 × dtM) :=
  (opRv 12 μ p0).bind fun _ => opCall (f_X12_newOne p0 (0 : Int32) (7 : Int32) (0 : Int32) μ) fun x4 μ2 => if x4 = 0 then (opRet (0 : Int32) μ2) else ((opGR 12 0 μ2 p0).bind fun x8 => (opLI 1 μ2 x8 (2016 : Int32)).bind fun x10 => (opSI μ2 x8 (2016 : Int32) (x10 + (1 : Int32))).bind fun μ12 => opRet (1 : Int32) μ12)
set_option maxRecDepth 100000 in
theorem c_X12_aRoom {r : Int32} {F : dtM} (p0 : Nat) (μ : dtM) (h : f_X12_aRoom p0 μ = some (r, F)) : dtMet yX12_aRoom cX12_aRoom 1 (some .boolean) 9 [.ref p0] μ (some (.int r)) F := by
  refine dtMet.of (by decide +kernel) (Nat.le_of_ble_eq_true rfl) (show dtW yX12_aRoom cX12_aRoom 1 (some .boolean) 9 (some (.int r)) F 0 [some (.ref p0)] [] μ from ?_)
  rw [f_X12_aRoom] at h
  refine dr_aload_n p0 dX12_aRoom_0 rfl ?_
  refine dr_iconst (0 : Int32) dX12_aRoom_1 (by decide) ?_
  refine dr_bipush (7 : Int32) dX12_aRoom_2 (by decide) ?_
  refine dr_iconst (0 : Int32) dX12_aRoom_4 (by decide) ?_
  obtain ⟨_, hb1, h⟩ := dtBind h
  obtain ⟨x4, μ2, e3, h⟩ := dtCall h
  refine dr_callV_i (S0 := []) [.int (0 : Int32), .int (7 : Int32), .int (0 : Int32)] x4 μ2 dX12_aRoom_5 (c_X12_newOne p0 (0 : Int32) (7 : Int32) (0 : Int32) μ e3) mf_X12_newOne wt_1579 ws_65 wt_1577 rfl (dtRv hb1) (by decide) rfl (Nat.le_of_ble_eq_true rfl) (Nat.le_of_ble_eq_true rfl) rfl ?_
  obtain ⟨ht6, hf7⟩ := dtIte h
  refine dr_if_ne 13 dX12_aRoom_8 (by decide) (fun hc5 => ?_) (fun hc5 => ?_)
  · have h := hf7 hc5
    refine dr_aload_n p0 dX12_aRoom_13 rfl ?_
    obtain ⟨x8, e9, h⟩ := dtBind h
    refine dr_getR x8 dX12_aRoom_14 fl_RX12_7 e9 ?_
    refine dr_sipush (2016 : Int32) dX12_aRoom_17 (by decide) ?_
    refine dr_dup2 dX12_aRoom_20 rfl rfl ?_
    obtain ⟨x10, e11, h⟩ := dtBind h
    refine dr_iaload x10 dX12_aRoom_21 e11 ?_
    refine dr_iconst (1 : Int32) dX12_aRoom_22 (by decide) ?_
    refine dr_iadd dX12_aRoom_23 ?_
    obtain ⟨μ12, e13, h⟩ := dtBind h
    refine dr_iastore μ12 dX12_aRoom_24 e13 ?_
    refine dr_iconst (1 : Int32) dX12_aRoom_25 (by decide) ?_
    obtain ⟨hz, rfl, rfl⟩ := dtRet h
    exact dr_ireturn dX12_aRoom_26 (dtNz hz)
  · have h := ht6 hc5
    refine dr_iconst (0 : Int32) dX12_aRoom_11 (by decide) ?_
    obtain ⟨hz, rfl, rfl⟩ := dtRet h
    exact dr_ireturn dX12_aRoom_12 (dtNz hz)
/-! X12_aDoor -/
theorem dX12_aDoor_0 : decode cX12_aDoor 0 = .ok (.aload_n 0, 1) := by decide +kernel
theorem dX12_aDoor_1 : decode cX12_aDoor 1 = .ok (.iconst 1, 1) := by decide +kernel
theorem dX12_aDoor_2 : decode cX12_aDoor 2 = .ok (.bipush 10, 2) := by decide +kernel
theorem dX12_aDoor_4 : decode cX12_aDoor 4 = .ok (.invokevirtual 191, 3) := by decide +kernel
theorem dX12_aDoor_7 : decode cX12_aDoor 7 = .ok (.ifCond .eq 10, 3) := by decide +kernel
theorem dX12_aDoor_10 : decode cX12_aDoor 10 = .ok (.aload_n 0, 1) := by decide +kernel
theorem dX12_aDoor_11 : decode cX12_aDoor 11 = .ok (.bipush 6, 2) := by decide +kernel
theorem dX12_aDoor_13 : decode cX12_aDoor 13 = .ok (.invokevirtual 175, 3) := by decide +kernel
theorem dX12_aDoor_16 : decode cX12_aDoor 16 = .ok (.ireturn, 1) := by decide +kernel
theorem dX12_aDoor_17 : decode cX12_aDoor 17 = .ok (.sipush 2016, 3) := by decide +kernel
theorem dX12_aDoor_20 : decode cX12_aDoor 20 = .ok (.aload_n 0, 1) := by decide +kernel
theorem dX12_aDoor_21 : decode cX12_aDoor 21 = .ok (.getfield 7, 3) := by decide +kernel
theorem dX12_aDoor_24 : decode cX12_aDoor 24 = .ok (.sipush 2017, 3) := by decide +kernel
theorem dX12_aDoor_27 : decode cX12_aDoor 27 = .ok (.iaload, 1) := by decide +kernel
theorem dX12_aDoor_28 : decode cX12_aDoor 28 = .ok (.invokestatic 210, 3) := by decide +kernel
theorem dX12_aDoor_31 : decode cX12_aDoor 31 = .ok (.iadd, 1) := by decide +kernel
theorem dX12_aDoor_32 : decode cX12_aDoor 32 = .ok (.istore_n 1, 1) := by decide +kernel
theorem dX12_aDoor_33 : decode cX12_aDoor 33 = .ok (.aload_n 0, 1) := by decide +kernel
theorem dX12_aDoor_34 : decode cX12_aDoor 34 = .ok (.invokevirtual 169, 3) := by decide +kernel
theorem dX12_aDoor_37 : decode cX12_aDoor 37 = .ok (.aload_n 0, 1) := by decide +kernel
theorem dX12_aDoor_38 : decode cX12_aDoor 38 = .ok (.iload_n 1, 1) := by decide +kernel
theorem dX12_aDoor_39 : decode cX12_aDoor 39 = .ok (.invokevirtual 213, 3) := by decide +kernel
theorem dX12_aDoor_42 : decode cX12_aDoor 42 = .ok (.ifCond .ne 5, 3) := by decide +kernel
theorem dX12_aDoor_45 : decode cX12_aDoor 45 = .ok (.iconst 0, 1) := by decide +kernel
theorem dX12_aDoor_46 : decode cX12_aDoor 46 = .ok (.ireturn, 1) := by decide +kernel
theorem dX12_aDoor_47 : decode cX12_aDoor 47 = .ok (.aload_n 0, 1) := by decide +kernel
theorem dX12_aDoor_48 : decode cX12_aDoor 48 = .ok (.ldc 186, 2) := by decide +kernel
theorem dX12_aDoor_50 : decode cX12_aDoor 50 = .ok (.invokevirtual 195, 3) := by decide +kernel
theorem dX12_aDoor_53 : decode cX12_aDoor 53 = .ok (.ifCond .eq 32, 3) := by decide +kernel
theorem dX12_aDoor_56 : decode cX12_aDoor 56 = .ok (.aload_n 0, 1) := by decide +kernel
theorem dX12_aDoor_57 : decode cX12_aDoor 57 = .ok (.bipush 76, 2) := by decide +kernel
theorem dX12_aDoor_59 : decode cX12_aDoor 59 = .ok (.aload_n 0, 1) := by decide +kernel
theorem dX12_aDoor_60 : decode cX12_aDoor 60 = .ok (.getfield 7, 3) := by decide +kernel
theorem dX12_aDoor_63 : decode cX12_aDoor 63 = .ok (.sipush 2016, 3) := by decide +kernel
theorem dX12_aDoor_66 : decode cX12_aDoor 66 = .ok (.iaload, 1) := by decide +kernel
theorem dX12_aDoor_67 : decode cX12_aDoor 67 = .ok (.invokevirtual 188, 3) := by decide +kernel
theorem dX12_aDoor_70 : decode cX12_aDoor 70 = .ok (.aload_n 0, 1) := by decide +kernel
theorem dX12_aDoor_71 : decode cX12_aDoor 71 = .ok (.getfield 7, 3) := by decide +kernel
theorem dX12_aDoor_74 : decode cX12_aDoor 74 = .ok (.iload_n 1, 1) := by decide +kernel
theorem dX12_aDoor_75 : decode cX12_aDoor 75 = .ok (.iaload, 1) := by decide +kernel
theorem dX12_aDoor_76 : decode cX12_aDoor 76 = .ok (.if_icmp .ne 9, 3) := by decide +kernel
theorem dX12_aDoor_79 : decode cX12_aDoor 79 = .ok (.aload_n 0, 1) := by decide +kernel
theorem dX12_aDoor_80 : decode cX12_aDoor 80 = .ok (.iconst 5, 1) := by decide +kernel
theorem dX12_aDoor_81 : decode cX12_aDoor 81 = .ok (.invokevirtual 175, 3) := by decide +kernel
theorem dX12_aDoor_84 : decode cX12_aDoor 84 = .ok (.ireturn, 1) := by decide +kernel
theorem dX12_aDoor_85 : decode cX12_aDoor 85 = .ok (.aload_n 0, 1) := by decide +kernel
theorem dX12_aDoor_86 : decode cX12_aDoor 86 = .ok (.iload_n 1, 1) := by decide +kernel
theorem dX12_aDoor_87 : decode cX12_aDoor 87 = .ok (.iconst 1, 1) := by decide +kernel
theorem dX12_aDoor_88 : decode cX12_aDoor 88 = .ok (.iadd, 1) := by decide +kernel
theorem dX12_aDoor_89 : decode cX12_aDoor 89 = .ok (.invokevirtual 213, 3) := by decide +kernel
theorem dX12_aDoor_92 : decode cX12_aDoor 92 = .ok (.ifCond .ne 5, 3) := by decide +kernel
theorem dX12_aDoor_95 : decode cX12_aDoor 95 = .ok (.iconst 0, 1) := by decide +kernel
theorem dX12_aDoor_96 : decode cX12_aDoor 96 = .ok (.ireturn, 1) := by decide +kernel
theorem dX12_aDoor_97 : decode cX12_aDoor 97 = .ok (.aload_n 0, 1) := by decide +kernel
theorem dX12_aDoor_98 : decode cX12_aDoor 98 = .ok (.getfield 7, 3) := by decide +kernel
theorem dX12_aDoor_101 : decode cX12_aDoor 101 = .ok (.iload_n 1, 1) := by decide +kernel
theorem dX12_aDoor_102 : decode cX12_aDoor 102 = .ok (.iconst 2, 1) := by decide +kernel
theorem dX12_aDoor_103 : decode cX12_aDoor 103 = .ok (.iadd, 1) := by decide +kernel
theorem dX12_aDoor_104 : decode cX12_aDoor 104 = .ok (.iconst 0, 1) := by decide +kernel
theorem dX12_aDoor_105 : decode cX12_aDoor 105 = .ok (.iastore, 1) := by decide +kernel
theorem dX12_aDoor_106 : decode cX12_aDoor 106 = .ok (.aload_n 0, 1) := by decide +kernel
theorem dX12_aDoor_107 : decode cX12_aDoor 107 = .ok (.iconst 5, 1) := by decide +kernel
theorem dX12_aDoor_108 : decode cX12_aDoor 108 = .ok (.invokevirtual 216, 3) := by decide +kernel
theorem dX12_aDoor_111 : decode cX12_aDoor 111 = .ok (.ifCond .eq 18, 3) := by decide +kernel
theorem dX12_aDoor_114 : decode cX12_aDoor 114 = .ok (.aload_n 0, 1) := by decide +kernel
theorem dX12_aDoor_115 : decode cX12_aDoor 115 = .ok (.iload_n 1, 1) := by decide +kernel
theorem dX12_aDoor_116 : decode cX12_aDoor 116 = .ok (.iconst 2, 1) := by decide +kernel
theorem dX12_aDoor_117 : decode cX12_aDoor 117 = .ok (.iadd, 1) := by decide +kernel
theorem dX12_aDoor_118 : decode cX12_aDoor 118 = .ok (.iconst 0, 1) := by decide +kernel
theorem dX12_aDoor_119 : decode cX12_aDoor 119 = .ok (.bipush 9, 2) := by decide +kernel
theorem dX12_aDoor_121 : decode cX12_aDoor 121 = .ok (.invokevirtual 219, 3) := by decide +kernel
theorem dX12_aDoor_124 : decode cX12_aDoor 124 = .ok (.ifCond .ne 5, 3) := by decide +kernel
theorem dX12_aDoor_127 : decode cX12_aDoor 127 = .ok (.iconst 0, 1) := by decide +kernel
theorem dX12_aDoor_128 : decode cX12_aDoor 128 = .ok (.ireturn, 1) := by decide +kernel
theorem dX12_aDoor_129 : decode cX12_aDoor 129 = .ok (.aload_n 0, 1) := by decide +kernel
theorem dX12_aDoor_130 : decode cX12_aDoor 130 = .ok (.bipush 6, 2) := by decide +kernel
theorem dX12_aDoor_132 : decode cX12_aDoor 132 = .ok (.invokevirtual 216, 3) := by decide +kernel
theorem dX12_aDoor_135 : decode cX12_aDoor 135 = .ok (.ifCond .eq 24, 3) := by decide +kernel
theorem dX12_aDoor_138 : decode cX12_aDoor 138 = .ok (.aload_n 0, 1) := by decide +kernel
theorem dX12_aDoor_139 : decode cX12_aDoor 139 = .ok (.getfield 7, 3) := by decide +kernel
theorem dX12_aDoor_142 : decode cX12_aDoor 142 = .ok (.sipush 2021, 3) := by decide +kernel
theorem dX12_aDoor_145 : decode cX12_aDoor 145 = .ok (.dup2, 1) := by decide +kernel
theorem dX12_aDoor_146 : decode cX12_aDoor 146 = .ok (.iaload, 1) := by decide +kernel
theorem dX12_aDoor_147 : decode cX12_aDoor 147 = .ok (.iconst 1, 1) := by decide +kernel
theorem dX12_aDoor_148 : decode cX12_aDoor 148 = .ok (.aload_n 0, 1) := by decide +kernel
theorem dX12_aDoor_149 : decode cX12_aDoor 149 = .ok (.getfield 7, 3) := by decide +kernel
theorem dX12_aDoor_152 : decode cX12_aDoor 152 = .ok (.sipush 2017, 3) := by decide +kernel
theorem dX12_aDoor_155 : decode cX12_aDoor 155 = .ok (.iaload, 1) := by decide +kernel
theorem dX12_aDoor_156 : decode cX12_aDoor 156 = .ok (.ishl, 1) := by decide +kernel
theorem dX12_aDoor_157 : decode cX12_aDoor 157 = .ok (.ior, 1) := by decide +kernel
theorem dX12_aDoor_158 : decode cX12_aDoor 158 = .ok (.iastore, 1) := by decide +kernel
theorem dX12_aDoor_159 : decode cX12_aDoor 159 = .ok (.aload_n 0, 1) := by decide +kernel
theorem dX12_aDoor_160 : decode cX12_aDoor 160 = .ok (.getfield 7, 3) := by decide +kernel
theorem dX12_aDoor_163 : decode cX12_aDoor 163 = .ok (.sipush 2017, 3) := by decide +kernel
theorem dX12_aDoor_166 : decode cX12_aDoor 166 = .ok (.dup2, 1) := by decide +kernel
theorem dX12_aDoor_167 : decode cX12_aDoor 167 = .ok (.iaload, 1) := by decide +kernel
theorem dX12_aDoor_168 : decode cX12_aDoor 168 = .ok (.iconst 1, 1) := by decide +kernel
theorem dX12_aDoor_169 : decode cX12_aDoor 169 = .ok (.iadd, 1) := by decide +kernel
theorem dX12_aDoor_170 : decode cX12_aDoor 170 = .ok (.iastore, 1) := by decide +kernel
theorem dX12_aDoor_171 : decode cX12_aDoor 171 = .ok (.iconst 1, 1) := by decide +kernel
theorem dX12_aDoor_172 : decode cX12_aDoor 172 = .ok (.ireturn, 1) := by decide +kernel
set_option maxRecDepth 100000 in
def f_X12_aDoor_159 (l0 : Nat) (μ : dtM) : Option (Int32 × dtM) :=
  (opGR 12 0 μ l0).bind fun x1 => (opLI 1 μ x1 (2017 : Int32)).bind fun x3 => (opSI μ x1 (2017 : Int32) (x3 + (1 : Int32))).bind fun μ5 => opRet (1 : Int32) μ5
set_option maxRecDepth 100000 in
def f_X12_aDoor_129 (l0 : Nat) (μ : dtM) : Option (Int32 × dtM) :=
  (opRv 12 μ l0).bind fun _ => opCall (f_X12_isThere l0 (6 : Int32) μ) fun x4 μ2 => if x4 = 0 then (f_X12_aDoor_159 l0 μ2) else ((opGR 12 0 μ2 l0).bind fun x8 => (opLI 1 μ2 x8 (2021 : Int32)).bind fun x10 => (opGR 12 0 μ2 l0).bind fun x12 => (opLI 1 μ2 x12 (2017 : Int32)).bind fun x14 => (opSI μ2 x8 (2021 : Int32) (x10 ||| ((1 : Int32) <<< (x14 &&& 31)))).bind fun μ16 => f_X12_aDoor_159 l0 μ16)
set_option maxRecDepth 100000 in
def f_X12_aDoor_85 (l0 : Nat) (l1 : Int32) (μ : dtM) : Option (Int32 × dtM) :=
  (opRv 12 μ l0).bind fun _ => opCall (f_X12_newRoomTo l0 (l1 + (1 : Int32)) μ) fun x4 μ2 => if x4 = 0 then (opRet (0 : Int32) μ2) else ((opGR 12 0 μ2 l0).bind fun x8 => (opSI μ2 x8 (l1 + (2 : Int32)) (0 : Int32)).bind fun μ10 => (opRv 12 μ10 l0).bind fun _ => opCall (f_X12_isThere l0 (5 : Int32) μ10) fun x15 μ13 => if x15 = 0 then (f_X12_aDoor_129 l0 μ13) else ((opRv 12 μ13 l0).bind fun _ => opCall (f_X12_number l0 (l1 + (2 : Int32)) (0 : Int32) (9 : Int32) μ13) fun x22 μ20 => if x22 = 0 then (opRet (0 : Int32) μ20) else (f_X12_aDoor_129 l0 μ20)))
set_option maxRecDepth 100000 in
def f_X12_aDoor (p0 : Nat) (μ : dtM) : Option (Int32 × dtM) :=
  (opRv 12 μ p0).bind fun _ => opCall (f_X12_isFull p0 (1 : Int32) (10 : Int32) μ) fun x4 μ2 => if x4 = 0 then ((opGR 12 0 μ2 p0).bind fun x8 => (opLI 1 μ2 x8 (2017 : Int32)).bind fun x10 => opCall (f_X12_doorRow x10 μ2) fun x14 μ12 => (some ((2016 : Int32) + x14)).bind fun x15 => (opRv 12 μ12 p0).bind fun _ => (f_X12_ahead p0 μ12).bind fun μ18 => (opRv 12 μ18 p0).bind fun _ => opCall (f_X12_newRoomTo p0 x15 μ18) fun x23 μ21 => if x23 = 0 then (opRet (0 : Int32) μ21) else ((opRv 12 μ21 p0).bind fun _ => opCall (f_X12_isName p0 1000003 μ21) fun x30 μ28 => if x30 = 0 then (f_X12_aDoor_85 p0 x15 μ28) else ((opGR 12 0 μ28 p0).bind fun x34 => (opLI 1 μ28 x34 (2016 : Int32)).bind fun x36 => (opRv 12 μ28 p0).bind fun _ => opCall (f_X12_findHere p0 (76 : Int32) x36 μ28) fun x41 μ39 => (opGR 12 0 μ39 p0).bind fun x42 => (opLI 1 μ39 x42 x15).bind fun x44 => if x41 = x44 then ((opRv 12 μ39 p0).bind fun _ => opCall (f_X12_fails p0 (5 : Int32) μ39) fun x52 μ50 => opRet x52 μ50) else (f_X12_aDoor_85 p0 x15 μ39)))) else ((opRv 12 μ2 p0).bind fun _ => opCall (f_X12_fails p0 (6 : Int32) μ2) fun x56 μ54 => opRet x56 μ54)
set_option maxRecDepth 100000 in
theorem c_X12_aDoor_159 {r : Int32} {F : dtM} (l0 : Nat) (μ : dtM) (h : f_X12_aDoor_159 l0 μ = some (r, F)) : dtW yX12_aDoor cX12_aDoor 2 (some .boolean) 10 (some (.int r)) F 159 [some (.ref l0)] [] μ := by
  rw [f_X12_aDoor_159] at h
  refine dr_aload_n l0 dX12_aDoor_159 rfl ?_
  obtain ⟨x1, e2, h⟩ := dtBind h
  refine dr_getR x1 dX12_aDoor_160 fl_RX12_7 e2 ?_
  refine dr_sipush (2017 : Int32) dX12_aDoor_163 (by decide) ?_
  refine dr_dup2 dX12_aDoor_166 rfl rfl ?_
  obtain ⟨x3, e4, h⟩ := dtBind h
  refine dr_iaload x3 dX12_aDoor_167 e4 ?_
  refine dr_iconst (1 : Int32) dX12_aDoor_168 (by decide) ?_
  refine dr_iadd dX12_aDoor_169 ?_
  obtain ⟨μ5, e6, h⟩ := dtBind h
  refine dr_iastore μ5 dX12_aDoor_170 e6 ?_
  refine dr_iconst (1 : Int32) dX12_aDoor_171 (by decide) ?_
  obtain ⟨hz, rfl, rfl⟩ := dtRet h
  exact dr_ireturn dX12_aDoor_172 (dtNz hz)
set_option maxRecDepth 100000 in
theorem c_X12_aDoor_129 {r : Int32} {F : dtM} (l0 : Nat) (μ : dtM) (h : f_X12_aDoor_129 l0 μ = some (r, F)) : dtW yX12_aDoor cX12_aDoor 2 (some .boolean) 10 (some (.int r)) F 129 [some (.ref l0)] [] μ := by
  rw [f_X12_aDoor_129] at h
  refine dr_aload_n l0 dX12_aDoor_129 rfl ?_
  refine dr_bipush (6 : Int32) dX12_aDoor_130 (by decide) ?_
  obtain ⟨_, hb1, h⟩ := dtBind h
  obtain ⟨x4, μ2, e3, h⟩ := dtCall h
  refine dr_callV_i (S0 := []) [.int (6 : Int32)] x4 μ2 dX12_aDoor_132 (c_X12_isThere l0 (6 : Int32) μ e3) mf_X12_isThere wt_1618 ws_74 wt_1616 rfl (dtRv hb1) (by decide) rfl (Nat.le_of_ble_eq_true rfl) (Nat.le_of_ble_eq_true rfl) rfl ?_
  obtain ⟨ht6, hf7⟩ := dtIte h
  refine dr_if_eq 159 dX12_aDoor_135 (by decide) (fun hc5 => ?_) (fun hc5 => ?_)
  · have h := ht6 hc5
    exact c_X12_aDoor_159 l0 μ2 h
  · have h := hf7 hc5
    refine dr_aload_n l0 dX12_aDoor_138 rfl ?_
    obtain ⟨x8, e9, h⟩ := dtBind h
    refine dr_getR x8 dX12_aDoor_139 fl_RX12_7 e9 ?_
    refine dr_sipush (2021 : Int32) dX12_aDoor_142 (by decide) ?_
    refine dr_dup2 dX12_aDoor_145 rfl rfl ?_
    obtain ⟨x10, e11, h⟩ := dtBind h
    refine dr_iaload x10 dX12_aDoor_146 e11 ?_
    refine dr_iconst (1 : Int32) dX12_aDoor_147 (by decide) ?_
    refine dr_aload_n l0 dX12_aDoor_148 rfl ?_
    obtain ⟨x12, e13, h⟩ := dtBind h
    refine dr_getR x12 dX12_aDoor_149 fl_RX12_7 e13 ?_
    refine dr_sipush (2017 : Int32) dX12_aDoor_152 (by decide) ?_
    obtain ⟨x14, e15, h⟩ := dtBind h
    refine dr_iaload x14 dX12_aDoor_155 e15 ?_
    refine dr_ishl dX12_aDoor_156 ?_
    refine dr_ior dX12_aDoor_157 ?_
    obtain ⟨μ16, e17, h⟩ := dtBind h
    refine dr_iastore μ16 dX12_aDoor_158 e17 ?_
    exact c_X12_aDoor_159 l0 μ16 h
set_option maxRecDepth 100000 in
theorem c_X12_aDoor_85 {r : Int32} {F : dtM} (l0 : Nat) (l1 : Int32) (μ : dtM) (h : f_X12_aDoor_85 l0 l1 μ = some (r, F)) : dtW yX12_aDoor cX12_aDoor 2 (some .boolean) 10 (some (.int r)) F 85 [some (.ref l0), some (.int l1)] [] μ := by
  rw [f_X12_aDoor_85] at h
  refine dr_aload_n l0 dX12_aDoor_85 rfl ?_
  refine dr_iload_n l1 dX12_aDoor_86 rfl ?_
  refine dr_iconst (1 : Int32) dX12_aDoor_87 (by decide) ?_
  refine dr_iadd dX12_aDoor_88 ?_
  obtain ⟨_, hb1, h⟩ := dtBind h
  obtain ⟨x4, μ2, e3, h⟩ := dtCall h
  refine dr_callV_i (S0 := []) [.int (l1 + (1 : Int32))] x4 μ2 dX12_aDoor_89 (c_X12_newRoomTo l0 (l1 + (1 : Int32)) μ e3) mf_X12_newRoomTo wt_1610 ws_72 wt_1608 rfl (dtRv hb1) (by decide) rfl (Nat.le_of_ble_eq_true rfl) (Nat.le_of_ble_eq_true rfl) rfl ?_
  obtain ⟨ht6, hf7⟩ := dtIte h
  refine dr_if_ne 97 dX12_aDoor_92 (by decide) (fun hc5 => ?_) (fun hc5 => ?_)
  · have h := hf7 hc5
    refine dr_aload_n l0 dX12_aDoor_97 rfl ?_
    obtain ⟨x8, e9, h⟩ := dtBind h
    refine dr_getR x8 dX12_aDoor_98 fl_RX12_7 e9 ?_
    refine dr_iload_n l1 dX12_aDoor_101 rfl ?_
    refine dr_iconst (2 : Int32) dX12_aDoor_102 (by decide) ?_
    refine dr_iadd dX12_aDoor_103 ?_
    refine dr_iconst (0 : Int32) dX12_aDoor_104 (by decide) ?_
    obtain ⟨μ10, e11, h⟩ := dtBind h
    refine dr_iastore μ10 dX12_aDoor_105 e11 ?_
    refine dr_aload_n l0 dX12_aDoor_106 rfl ?_
    refine dr_iconst (5 : Int32) dX12_aDoor_107 (by decide) ?_
    obtain ⟨_, hb12, h⟩ := dtBind h
    obtain ⟨x15, μ13, e14, h⟩ := dtCall h
    refine dr_callV_i (S0 := []) [.int (5 : Int32)] x15 μ13 dX12_aDoor_108 (c_X12_isThere l0 (5 : Int32) μ10 e14) mf_X12_isThere wt_1618 ws_74 wt_1616 rfl (dtRv hb12) (by decide) rfl (Nat.le_of_ble_eq_true rfl) (Nat.le_of_ble_eq_true rfl) rfl ?_
    obtain ⟨ht17, hf18⟩ := dtIte h
    refine dr_if_eq 129 dX12_aDoor_111 (by decide) (fun hc16 => ?_) (fun hc16 => ?_)
    · have h := ht17 hc16
      refine dr_mask [true] [some (.ref l0)] rfl ?_
      exact c_X12_aDoor_129 l0 μ13 h
    · have h := hf18 hc16
      refine dr_aload_n l0 dX12_aDoor_114 rfl ?_
      refine dr_iload_n l1 dX12_aDoor_115 rfl ?_
      refine dr_iconst (2 : Int32) dX12_aDoor_116 (by decide) ?_
      refine dr_iadd dX12_aDoor_117 ?_
      refine dr_iconst (0 : Int32) dX12_aDoor_118 (by decide) ?_
      refine dr_bipush (9 : Int32) dX12_aDoor_119 (by decide) ?_
      obtain ⟨_, hb19, h⟩ := dtBind h
      obtain ⟨x22, μ20, e21, h⟩ := dtCall h
      refine dr_callV_i (S0 := []) [.int (l1 + (2 : Int32)), .int (0 : Int32), .int (9 : Int32)] x22 μ20 dX12_aDoor_121 (c_X12_number l0 (l1 + (2 : Int32)) (0 : Int32) (9 : Int32) μ13 e21) mf_X12_number wt_1571 ws_63 wt_1569 rfl (dtRv hb19) (by decide) rfl (Nat.le_of_ble_eq_true rfl) (Nat.le_of_ble_eq_true rfl) rfl ?_
      obtain ⟨ht24, hf25⟩ := dtIte h
      refine dr_if_ne 129 dX12_aDoor_124 (by decide) (fun hc23 => ?_) (fun hc23 => ?_)
      · have h := hf25 hc23
        refine dr_mask [true] [some (.ref l0)] rfl ?_
        exact c_X12_aDoor_129 l0 μ20 h
      · have h := ht24 hc23
        refine dr_iconst (0 : Int32) dX12_aDoor_127 (by decide) ?_
        obtain ⟨hz, rfl, rfl⟩ := dtRet h
        exact dr_ireturn dX12_aDoor_128 (dtNz hz)
  · have h := ht6 hc5
    refine dr_iconst (0 : Int32) dX12_aDoor_95 (by decide) ?_
    obtain ⟨hz, rfl, rfl⟩ := dtRet h
    exact dr_ireturn dX12_aDoor_96 (dtNz hz)
set_option maxRecDepth 100000 in
theorem c_X12_aDoor {r : Int32} {F : dtM} (p0 : Nat) (μ : dtM) (h : f_X12_aDoor p0 μ = some (r, F)) : dtMet yX12_aDoor cX12_aDoor 2 (some .boolean) 10 [.ref p0] μ (some (.int r)) F := by
  refine dtMet.of (by decide +kernel) (Nat.le_of_ble_eq_true rfl) (show dtW yX12_aDoor cX12_aDoor 2 (some .boolean) 10 (some (.int r)) F 0 [some (.ref p0)] [] μ from ?_)
  rw [f_X12_aDoor] at h
  refine dr_aload_n p0 dX12_aDoor_0 rfl ?_
  refine dr_iconst (1 : Int32) dX12_aDoor_1 (by decide) ?_
  refine dr_bipush (10 : Int32) dX12_aDoor_2 (by decide) ?_
  obtain ⟨_, hb1, h⟩ := dtBind h
  obtain ⟨x4, μ2, e3, h⟩ := dtCall h
  refine dr_callV_i (S0 := []) [.int (1 : Int32), .int (10 : Int32)] x4 μ2 dX12_aDoor_4 (c_X12_isFull p0 (1 : Int32) (10 : Int32) μ e3) mf_X12_isFull wt_1583 ws_66 wt_1581 rfl (dtRv hb1) (by decide) rfl (Nat.le_of_ble_eq_true rfl) (Nat.le_of_ble_eq_true rfl) rfl ?_
  obtain ⟨ht6, hf7⟩ := dtIte h
  refine dr_if_eq 17 dX12_aDoor_7 (by decide) (fun hc5 => ?_) (fun hc5 => ?_)
  · have h := ht6 hc5
    refine dr_sipush (2016 : Int32) dX12_aDoor_17 (by decide) ?_
    refine dr_aload_n p0 dX12_aDoor_20 rfl ?_
    obtain ⟨x8, e9, h⟩ := dtBind h
    refine dr_getR x8 dX12_aDoor_21 fl_RX12_7 e9 ?_
    refine dr_sipush (2017 : Int32) dX12_aDoor_24 (by decide) ?_
    obtain ⟨x10, e11, h⟩ := dtBind h
    refine dr_iaload x10 dX12_aDoor_27 e11 ?_
    obtain ⟨x14, μ12, e13, h⟩ := dtCall h
    refine dr_callS_i (S0 := [.int (2016 : Int32)]) [.int x10] x14 μ12 dX12_aDoor_28 (c_X12_doorRow x10 μ2 e13) mf_X12_doorRow wt_1606 wt_1605 rfl (Nat.le_of_ble_eq_true rfl) (Nat.le_of_ble_eq_true rfl) rfl ?_
    refine dr_iadd dX12_aDoor_31 ?_
    obtain ⟨x15, e16, h⟩ := dtBind h
    refine dr_nmi e16 ?_
    refine dr_istore_n 1 [some (.ref p0), some (.int x15)] dX12_aDoor_32 rfl rfl rfl rfl ?_
    refine dr_aload_n p0 dX12_aDoor_33 rfl ?_
    obtain ⟨_, hb17, h⟩ := dtBind h
    obtain ⟨μ18, e19, h⟩ := dtBind h
    refine dr_callV_v (S0 := []) [] μ18 dX12_aDoor_34 (c_X12_ahead p0 μ12 e19) mf_X12_ahead wt_1536 ws_57 wt_1534 rfl (dtRv hb17) (by decide) rfl (Nat.le_of_ble_eq_true rfl) (Nat.le_of_ble_eq_true rfl) rfl ?_
    refine dr_aload_n p0 dX12_aDoor_37 rfl ?_
    refine dr_iload_n x15 dX12_aDoor_38 rfl ?_
    obtain ⟨_, hb20, h⟩ := dtBind h
    obtain ⟨x23, μ21, e22, h⟩ := dtCall h
    refine dr_callV_i (S0 := []) [.int x15] x23 μ21 dX12_aDoor_39 (c_X12_newRoomTo p0 x15 μ18 e22) mf_X12_newRoomTo wt_1610 ws_72 wt_1608 rfl (dtRv hb20) (by decide) rfl (Nat.le_of_ble_eq_true rfl) (Nat.le_of_ble_eq_true rfl) rfl ?_
    obtain ⟨ht25, hf26⟩ := dtIte h
    refine dr_if_ne 47 dX12_aDoor_42 (by decide) (fun hc24 => ?_) (fun hc24 => ?_)
    · have h := hf26 hc24
      refine dr_aload_n p0 dX12_aDoor_47 rfl ?_
      refine dr_ldcS1 dX12_aDoor_48 rfl ?_
      obtain ⟨_, hb27, h⟩ := dtBind h
      obtain ⟨x30, μ28, e29, h⟩ := dtCall h
      refine dr_callV_i (S0 := []) [.ref 1000003] x30 μ28 dX12_aDoor_50 (c_X12_isName p0 1000003 μ21 e29) mf_X12_isName wt_1587 ws_67 wt_1585 rfl (dtRv hb27) (by decide) rfl (Nat.le_of_ble_eq_true rfl) (Nat.le_of_ble_eq_true rfl) rfl ?_
      obtain ⟨ht32, hf33⟩ := dtIte h
      refine dr_if_eq 85 dX12_aDoor_53 (by decide) (fun hc31 => ?_) (fun hc31 => ?_)
      · have h := ht32 hc31
        exact c_X12_aDoor_85 p0 x15 μ28 h
      · have h := hf33 hc31
        refine dr_aload_n p0 dX12_aDoor_56 rfl ?_
        refine dr_bipush (76 : Int32) dX12_aDoor_57 (by decide) ?_
        refine dr_aload_n p0 dX12_aDoor_59 rfl ?_
        obtain ⟨x34, e35, h⟩ := dtBind h
        refine dr_getR x34 dX12_aDoor_60 fl_RX12_7 e35 ?_
        refine dr_sipush (2016 : Int32) dX12_aDoor_63 (by decide) ?_
        obtain ⟨x36, e37, h⟩ := dtBind h
        refine dr_iaload x36 dX12_aDoor_66 e37 ?_
        obtain ⟨_, hb38, h⟩ := dtBind h
        obtain ⟨x41, μ39, e40, h⟩ := dtCall h
        refine dr_callV_i (S0 := []) [.int (76 : Int32), .int x36] x41 μ39 dX12_aDoor_67 (c_X12_findHere p0 (76 : Int32) x36 μ28 e40) mf_X12_findHere wt_1595 ws_69 wt_1593 rfl (dtRv hb38) (by decide) rfl (Nat.le_of_ble_eq_true rfl) (Nat.le_of_ble_eq_true rfl) rfl ?_
        refine dr_aload_n p0 dX12_aDoor_70 rfl ?_
        obtain ⟨x42, e43, h⟩ := dtBind h
        refine dr_getR x42 dX12_aDoor_71 fl_RX12_7 e43 ?_
        refine dr_iload_n x15 dX12_aDoor_74 rfl ?_
        obtain ⟨x44, e45, h⟩ := dtBind h
        refine dr_iaload x44 dX12_aDoor_75 e45 ?_
        obtain ⟨ht47, hf48⟩ := dtIte h
        refine dr_icmp_ne 85 dX12_aDoor_76 (by decide) (fun hc46 => ?_) (fun hc46 => ?_)
        · have h := hf48 hc46
          exact c_X12_aDoor_85 p0 x15 μ39 h
        · have h := ht47 hc46
          refine dr_aload_n p0 dX12_aDoor_79 rfl ?_
          refine dr_iconst (5 : Int32) dX12_aDoor_80 (by decide) ?_
          obtain ⟨_, hb49, h⟩ := dtBind h
          obtain ⟨x52, μ50, e51, h⟩ := dtCall h
          refine dr_callV_i (S0 := []) [.int (5 : Int32)] x52 μ50 dX12_aDoor_81 (c_X12_fails p0 (5 : Int32) μ39 e51) mf_X12_fails wt_1567 ws_62 wt_1565 rfl (dtRv hb49) (by decide) rfl (Nat.le_of_ble_eq_true rfl) (Nat.le_of_ble_eq_true rfl) rfl ?_
          obtain ⟨hz, rfl, rfl⟩ := dtRet h
          exact dr_ireturn dX12_aDoor_84 (dtNz hz)
    · have h := ht25 hc24
      refine dr_iconst (0 : Int32) dX12_aDoor_45 (by decide) ?_
      obtain ⟨hz, rfl, rfl⟩ := dtRet h
      exact dr_ireturn dX12_aDoor_46 (dtNz hz)
  · have h := hf7 hc5
    refine dr_aload_n p0 dX12_aDoor_10 rfl ?_
    refine dr_bipush (6 : Int32) dX12_aDoor_11 (by decide) ?_
    obtain ⟨_, hb53, h⟩ := dtBind h
    obtain ⟨x56, μ54, e55, h⟩ := dtCall h
    refine dr_callV_i (S0 := []) [.int (6 : Int32)] x56 μ54 dX12_aDoor_13 (c_X12_fails p0 (6 : Int32) μ2 e55) mf_X12_fails wt_1567 ws_62 wt_1565 rfl (dtRv hb53) (by decide) rfl (Nat.le_of_ble_eq_true rfl) (Nat.le_of_ble_eq_true rfl) rfl ?_
    obtain ⟨hz, rfl, rfl⟩ := dtRet h
    exact dr_ireturn dX12_aDoor_16 (dtNz hz)
/-! X12_isSame -/
theorem dX12_isSame_0 : decode cX12_isSame 0 = .ok (.iconst 0, 1) := by decide +kernel
theorem dX12_isSame_1 : decode cX12_isSame 1 = .ok (.istore 4, 2) := by decide +kernel
theorem dX12_isSame_3 : decode cX12_isSame 3 = .ok (.iload 4, 2) := by decide +kernel
theorem dX12_isSame_5 : decode cX12_isSame 5 = .ok (.iconst 5, 1) := by decide +kernel
theorem dX12_isSame_6 : decode cX12_isSame 6 = .ok (.if_icmp .ge 42, 3) := by decide +kernel
theorem dX12_isSame_9 : decode cX12_isSame 9 = .ok (.aload_n 0, 1) := by decide +kernel
theorem dX12_isSame_10 : decode cX12_isSame 10 = .ok (.getfield 7, 3) := by decide +kernel
theorem dX12_isSame_13 : decode cX12_isSame 13 = .ok (.iload_n 1, 1) := by decide +kernel
theorem dX12_isSame_14 : decode cX12_isSame 14 = .ok (.iload_n 2, 1) := by decide +kernel
theorem dX12_isSame_15 : decode cX12_isSame 15 = .ok (.invokestatic 222, 3) := by decide +kernel
theorem dX12_isSame_18 : decode cX12_isSame 18 = .ok (.iadd, 1) := by decide +kernel
theorem dX12_isSame_19 : decode cX12_isSame 19 = .ok (.iload 4, 2) := by decide +kernel
theorem dX12_isSame_21 : decode cX12_isSame 21 = .ok (.iadd, 1) := by decide +kernel
theorem dX12_isSame_22 : decode cX12_isSame 22 = .ok (.iaload, 1) := by decide +kernel
theorem dX12_isSame_23 : decode cX12_isSame 23 = .ok (.aload_n 0, 1) := by decide +kernel
theorem dX12_isSame_24 : decode cX12_isSame 24 = .ok (.getfield 7, 3) := by decide +kernel
theorem dX12_isSame_27 : decode cX12_isSame 27 = .ok (.iload_n 1, 1) := by decide +kernel
theorem dX12_isSame_28 : decode cX12_isSame 28 = .ok (.iload_n 3, 1) := by decide +kernel
theorem dX12_isSame_29 : decode cX12_isSame 29 = .ok (.invokestatic 222, 3) := by decide +kernel
theorem dX12_isSame_32 : decode cX12_isSame 32 = .ok (.iadd, 1) := by decide +kernel
theorem dX12_isSame_33 : decode cX12_isSame 33 = .ok (.iload 4, 2) := by decide +kernel
theorem dX12_isSame_35 : decode cX12_isSame 35 = .ok (.iadd, 1) := by decide +kernel
theorem dX12_isSame_36 : decode cX12_isSame 36 = .ok (.iaload, 1) := by decide +kernel
theorem dX12_isSame_37 : decode cX12_isSame 37 = .ok (.if_icmp .eq 5, 3) := by decide +kernel
theorem dX12_isSame_40 : decode cX12_isSame 40 = .ok (.iconst 0, 1) := by decide +kernel
theorem dX12_isSame_41 : decode cX12_isSame 41 = .ok (.ireturn, 1) := by decide +kernel
theorem dX12_isSame_42 : decode cX12_isSame 42 = .ok (.iinc 4 1, 3) := by decide +kernel
theorem dX12_isSame_45 : decode cX12_isSame 45 = .ok (.goto (-42), 3) := by decide +kernel
theorem dX12_isSame_48 : decode cX12_isSame 48 = .ok (.iconst 1, 1) := by decide +kernel
theorem dX12_isSame_49 : decode cX12_isSame 49 = .ok (.ireturn, 1) := by decide +kernel
set_option maxRecDepth 100000 in
def f_X12_isSame_3 : Nat → Nat → Int32 → Int32 → Int32 → Int32 → dtM → Option (Int32 × dtM)
  | 0, _, _, _, _, _, _ => none
  | n + 1, l0, l1, l2, l3, l4, μ =>
    if (5 : Int32) ≤ l4 then (opRet (1 : Int32) μ) else ((opGR 12 0 μ l0).bind fun x4 => opCall (f_X12_wordRow l2 μ) fun x8 μ6 => (opLI 1 μ6 x4 ((l1 + x8) + l4)).bind fun x9 => (opGR 12 0 μ6 l0).bind fun x11 => opCall (f_X12_wordRow l3 μ6) fun x15 μ13 => (opLI 1 μ13 x11 ((l1 + x15) + l4)).bind fun x16 => if x9 = x16 then (f_X12_isSame_3 n l0 l1 l2 l3 (l4 + 1) μ13) else (opRet (0 : Int32) μ13))
set_option maxRecDepth 100000 in
def f_X12_isSame (p0 : Nat) (p1 : Int32) (p2 : Int32) (p3 : Int32) (μ : dtM) : Option (Int32 × dtM) :=
  f_X12_isSame_3 dtFuel p0 p1 p2 p3 (0 : Int32) μ
set_option maxRecDepth 100000 in
theorem c_X12_isSame_3 {r : Int32} {F : dtM} : ∀ (n : Nat) (l0 : Nat) (l1 : Int32) (l2 : Int32) (l3 : Int32) (l4 : Int32) (μ : dtM), f_X12_isSame_3 n l0 l1 l2 l3 l4 μ = some (r, F) → dtW yX12_isSame cX12_isSame 5 (some .boolean) 2 (some (.int r)) F 3 [some (.ref l0), some (.int l1), some (.int l2), some (.int l3), some (.int l4)] [] μ := by
  intro n
  induction n with
  | zero => intro l0 l1 l2 l3 l4 μ h; cases h
  | succ n ih =>
    intro l0 l1 l2 l3 l4 μ h
    have h := (show f_X12_isSame_3 (n + 1) l0 l1 l2 l3 l4 μ = some _ from h)
    rw [f_X12_isSame_3] at h
    refine dr_iload l4 dX12_isSame_3 rfl ?_
    refine dr_iconst (5 : Int32) dX12_isSame_5 (by decide) ?_
    obtain ⟨ht2, hf3⟩ := dtIte h
    refine dr_icmp_ge 48 dX12_isSame_6 (by decide) (fun hc1 => ?_) (fun hc1 => ?_)
    · have h := ht2 hc1
      refine dr_iconst (1 : Int32) dX12_isSame_48 (by decide) ?_
      obtain ⟨hz, rfl, rfl⟩ := dtRet h
      exact dr_ireturn dX12_isSame_49 (dtNz hz)
    · have h := hf3 hc1
      refine dr_aload_n l0 dX12_isSame_9 rfl ?_
      obtain ⟨x4, e5, h⟩ := dtBind h
      refine dr_getR x4 dX12_isSame_10 fl_RX12_7 e5 ?_
      refine dr_iload_n l1 dX12_isSame_13 rfl ?_
      refine dr_iload_n l2 dX12_isSame_14 rfl ?_
      obtain ⟨x8, μ6, e7, h⟩ := dtCall h
      refine dr_callS_i (S0 := [.int l1, .ref x4]) [.int l2] x8 μ6 dX12_isSame_15 (c_X12_wordRow l2 μ e7) mf_X12_wordRow wt_1625 wt_1624 rfl (Nat.le_of_ble_eq_true rfl) (Nat.le_of_ble_eq_true rfl) rfl ?_
      refine dr_iadd dX12_isSame_18 ?_
      refine dr_iload l4 dX12_isSame_19 rfl ?_
      refine dr_iadd dX12_isSame_21 ?_
      obtain ⟨x9, e10, h⟩ := dtBind h
      refine dr_iaload x9 dX12_isSame_22 e10 ?_
      refine dr_aload_n l0 dX12_isSame_23 rfl ?_
      obtain ⟨x11, e12, h⟩ := dtBind h
      refine dr_getR x11 dX12_isSame_24 fl_RX12_7 e12 ?_
      refine dr_iload_n l1 dX12_isSame_27 rfl ?_
      refine dr_iload_n l3 dX12_isSame_28 rfl ?_
      obtain ⟨x15, μ13, e14, h⟩ := dtCall h
      refine dr_callS_i (S0 := [.int l1, .ref x11, .int x9]) [.int l3] x15 μ13 dX12_isSame_29 (c_X12_wordRow l3 μ6 e14) mf_X12_wordRow wt_1625 wt_1624 rfl (Nat.le_of_ble_eq_true rfl) (Nat.le_of_ble_eq_true rfl) rfl ?_
      refine dr_iadd dX12_isSame_32 ?_
      refine dr_iload l4 dX12_isSame_33 rfl ?_
      refine dr_iadd dX12_isSame_35 ?_
      obtain ⟨x16, e17, h⟩ := dtBind h
      refine dr_iaload x16 dX12_isSame_36 e17 ?_
      obtain ⟨ht19, hf20⟩ := dtIte h
      refine dr_icmp_eq 42 dX12_isSame_37 (by decide) (fun hc18 => ?_) (fun hc18 => ?_)
      · have h := ht19 hc18
        refine dr_iinc l4 (l4 + 1) [some (.ref l0), some (.int l1), some (.int l2), some (.int l3), some (.int (l4 + 1))] dX12_isSame_42 rfl rfl rfl rfl rfl ?_
        refine dr_goto 3 dX12_isSame_45 (by decide) ?_
        exact ih l0 l1 l2 l3 (l4 + 1) μ13 h
      · have h := hf20 hc18
        refine dr_iconst (0 : Int32) dX12_isSame_40 (by decide) ?_
        obtain ⟨hz, rfl, rfl⟩ := dtRet h
        exact dr_ireturn dX12_isSame_41 (dtNz hz)
set_option maxRecDepth 100000 in
theorem c_X12_isSame {r : Int32} {F : dtM} (p0 : Nat) (p1 : Int32) (p2 : Int32) (p3 : Int32) (μ : dtM) (h : f_X12_isSame p0 p1 p2 p3 μ = some (r, F)) : dtMet yX12_isSame cX12_isSame 5 (some .boolean) 2 [.ref p0, .int p1, .int p2, .int p3] μ (some (.int r)) F := by
  refine dtMet.of (by decide +kernel) (Nat.le_of_ble_eq_true rfl) (show dtW yX12_isSame cX12_isSame 5 (some .boolean) 2 (some (.int r)) F 0 [some (.ref p0), some (.int p1), some (.int p2), some (.int p3)] [] μ from ?_)
  rw [f_X12_isSame] at h
  refine dr_iconst (0 : Int32) dX12_isSame_0 (by decide) ?_
  refine dr_istore [some (.ref p0), some (.int p1), some (.int p2), some (.int p3), some (.int (0 : Int32))] dX12_isSame_1 rfl rfl rfl ?_
  exact c_X12_isSame_3 dtFuel p0 p1 p2 p3 (0 : Int32) μ h
/-! X12_sameAs -/
theorem dX12_sameAs_0 : decode cX12_sameAs 0 = .ok (.iconst 0, 1) := by decide +kernel
theorem dX12_sameAs_1 : decode cX12_sameAs 1 = .ok (.istore_n 3, 1) := by decide +kernel
theorem dX12_sameAs_2 : decode cX12_sameAs 2 = .ok (.iload_n 3, 1) := by decide +kernel
theorem dX12_sameAs_3 : decode cX12_sameAs 3 = .ok (.iload_n 2, 1) := by decide +kernel
theorem dX12_sameAs_4 : decode cX12_sameAs 4 = .ok (.if_icmp .ge 21, 3) := by decide +kernel
theorem dX12_sameAs_7 : decode cX12_sameAs 7 = .ok (.aload_n 0, 1) := by decide +kernel
theorem dX12_sameAs_8 : decode cX12_sameAs 8 = .ok (.iload_n 1, 1) := by decide +kernel
theorem dX12_sameAs_9 : decode cX12_sameAs 9 = .ok (.iload_n 2, 1) := by decide +kernel
theorem dX12_sameAs_10 : decode cX12_sameAs 10 = .ok (.iload_n 3, 1) := by decide +kernel
theorem dX12_sameAs_11 : decode cX12_sameAs 11 = .ok (.invokevirtual 225, 3) := by decide +kernel
theorem dX12_sameAs_14 : decode cX12_sameAs 14 = .ok (.ifCond .eq 5, 3) := by decide +kernel
theorem dX12_sameAs_17 : decode cX12_sameAs 17 = .ok (.iload_n 3, 1) := by decide +kernel
theorem dX12_sameAs_18 : decode cX12_sameAs 18 = .ok (.ireturn, 1) := by decide +kernel
theorem dX12_sameAs_19 : decode cX12_sameAs 19 = .ok (.iinc 3 1, 3) := by decide +kernel
theorem dX12_sameAs_22 : decode cX12_sameAs 22 = .ok (.goto (-20), 3) := by decide +kernel
theorem dX12_sameAs_25 : decode cX12_sameAs 25 = .ok (.iconst (-1), 1) := by decide +kernel
theorem dX12_sameAs_26 : decode cX12_sameAs 26 = .ok (.ireturn, 1) := by decide +kernel
set_option maxRecDepth 100000 in
def f_X12_sameAs_2 : Nat → Nat → Int32 → Int32 → Int32 → dtM → Option (Int32 × dtM)
  | 0, _, _, _, _, _ => none
  | n + 1, l0, l1, l2, l3, μ =>
    if l2 ≤ l3 then (some ((-1 : Int32), μ)) else ((opRv 12 μ l0).bind fun _ => opCall (f_X12_isSame l0 l1 l2 l3 μ) fun x7 μ5 => if x7 = 0 then (f_X12_sameAs_2 n l0 l1 l2 (l3 + 1) μ5) else (some (l3, μ5)))
set_option maxRecDepth 100000 in
def f_X12_sameAs (p0 : Nat) (p1 : Int32) (p2 : Int32) (μ : dtM) : Option (Int32 × dtM) :=
  f_X12_sameAs_2 dtFuel p0 p1 p2 (0 : Int32) μ
set_option maxRecDepth 100000 in
theorem c_X12_sameAs_2 {r : Int32} {F : dtM} : ∀ (n : Nat) (l0 : Nat) (l1 : Int32) (l2 : Int32) (l3 : Int32) (μ : dtM), f_X12_sameAs_2 n l0 l1 l2 l3 μ = some (r, F) → dtW yX12_sameAs cX12_sameAs 4 (some .int) 3 (some (.int r)) F 2 [some (.ref l0), some (.int l1), some (.int l2), some (.int l3)] [] μ := by
  intro n
  induction n with
  | zero => intro l0 l1 l2 l3 μ h; cases h
  | succ n ih =>
    intro l0 l1 l2 l3 μ h
    have h := (show f_X12_sameAs_2 (n + 1) l0 l1 l2 l3 μ = some _ from h)
    rw [f_X12_sameAs_2] at h
    refine dr_iload_n l3 dX12_sameAs_2 rfl ?_
    refine dr_iload_n l2 dX12_sameAs_3 rfl ?_
    obtain ⟨ht2, hf3⟩ := dtIte h
    refine dr_icmp_ge 25 dX12_sameAs_4 (by decide) (fun hc1 => ?_) (fun hc1 => ?_)
    · have h := ht2 hc1
      refine dr_iconst (-1 : Int32) dX12_sameAs_25 (by decide) ?_
      cases h
      exact dr_ireturn dX12_sameAs_26 rfl
    · have h := hf3 hc1
      refine dr_aload_n l0 dX12_sameAs_7 rfl ?_
      refine dr_iload_n l1 dX12_sameAs_8 rfl ?_
      refine dr_iload_n l2 dX12_sameAs_9 rfl ?_
      refine dr_iload_n l3 dX12_sameAs_10 rfl ?_
      obtain ⟨_, hb4, h⟩ := dtBind h
      obtain ⟨x7, μ5, e6, h⟩ := dtCall h
      refine dr_callV_i (S0 := []) [.int l1, .int l2, .int l3] x7 μ5 dX12_sameAs_11 (c_X12_isSame l0 l1 l2 l3 μ e6) mf_X12_isSame wt_1645 ws_80 wt_1643 rfl (dtRv hb4) (by decide) rfl (Nat.le_of_ble_eq_true rfl) (Nat.le_of_ble_eq_true rfl) rfl ?_
      obtain ⟨ht9, hf10⟩ := dtIte h
      refine dr_if_eq 19 dX12_sameAs_14 (by decide) (fun hc8 => ?_) (fun hc8 => ?_)
      · have h := ht9 hc8
        refine dr_iinc l3 (l3 + 1) [some (.ref l0), some (.int l1), some (.int l2), some (.int (l3 + 1))] dX12_sameAs_19 rfl rfl rfl rfl rfl ?_
        refine dr_goto 2 dX12_sameAs_22 (by decide) ?_
        exact ih l0 l1 l2 (l3 + 1) μ5 h
      · have h := hf10 hc8
        refine dr_iload_n l3 dX12_sameAs_17 rfl ?_
        cases h
        exact dr_ireturn dX12_sameAs_18 rfl
set_option maxRecDepth 100000 in
theorem c_X12_sameAs {r : Int32} {F : dtM} (p0 : Nat) (p1 : Int32) (p2 : Int32) (μ : dtM) (h : f_X12_sameAs p0 p1 p2 μ = some (r, F)) : dtMet yX12_sameAs cX12_sameAs 4 (some .int) 3 [.ref p0, .int p1, .int p2] μ (some (.int r)) F := by
  refine dtMet.of (by decide +kernel) (Nat.le_of_ble_eq_true rfl) (show dtW yX12_sameAs cX12_sameAs 4 (some .int) 3 (some (.int r)) F 0 [some (.ref p0), some (.int p1), some (.int p2)] [] μ from ?_)
  rw [f_X12_sameAs] at h
  refine dr_iconst (0 : Int32) dX12_sameAs_0 (by decide) ?_
  refine dr_istore_n 3 [some (.ref p0), some (.int p1), some (.int p2), some (.int (0 : Int32))] dX12_sameAs_1 rfl rfl rfl rfl ?_
  exact c_X12_sameAs_2 dtFuel p0 p1 p2 (0 : Int32) μ h
/-! X12_aWord -/
theorem dX12_aWord_0 : decode cX12_aWord 0 = .ok (.aload_n 0, 1) := by decide +kernel
theorem dX12_aWord_1 : decode cX12_aWord 1 = .ok (.getfield 7, 3) := by decide +kernel
theorem dX12_aWord_4 : decode cX12_aWord 4 = .ok (.sipush 2018, 3) := by decide +kernel
theorem dX12_aWord_7 : decode cX12_aWord 7 = .ok (.iaload, 1) := by decide +kernel
theorem dX12_aWord_8 : decode cX12_aWord 8 = .ok (.istore_n 1, 1) := by decide +kernel
theorem dX12_aWord_9 : decode cX12_aWord 9 = .ok (.sipush 2016, 3) := by decide +kernel
theorem dX12_aWord_12 : decode cX12_aWord 12 = .ok (.iload_n 1, 1) := by decide +kernel
theorem dX12_aWord_13 : decode cX12_aWord 13 = .ok (.invokestatic 222, 3) := by decide +kernel
theorem dX12_aWord_16 : decode cX12_aWord 16 = .ok (.iadd, 1) := by decide +kernel
theorem dX12_aWord_17 : decode cX12_aWord 17 = .ok (.istore_n 2, 1) := by decide +kernel
theorem dX12_aWord_18 : decode cX12_aWord 18 = .ok (.aload_n 0, 1) := by decide +kernel
theorem dX12_aWord_19 : decode cX12_aWord 19 = .ok (.iconst 2, 1) := by decide +kernel
theorem dX12_aWord_20 : decode cX12_aWord 20 = .ok (.bipush 7, 2) := by decide +kernel
theorem dX12_aWord_22 : decode cX12_aWord 22 = .ok (.bipush 7, 2) := by decide +kernel
theorem dX12_aWord_24 : decode cX12_aWord 24 = .ok (.invokevirtual 207, 3) := by decide +kernel
theorem dX12_aWord_27 : decode cX12_aWord 27 = .ok (.ifCond .eq 14, 3) := by decide +kernel
theorem dX12_aWord_30 : decode cX12_aWord 30 = .ok (.aload_n 0, 1) := by decide +kernel
theorem dX12_aWord_31 : decode cX12_aWord 31 = .ok (.ldc 186, 2) := by decide +kernel
theorem dX12_aWord_33 : decode cX12_aWord 33 = .ok (.bipush 7, 2) := by decide +kernel
theorem dX12_aWord_35 : decode cX12_aWord 35 = .ok (.invokevirtual 228, 3) := by decide +kernel
theorem dX12_aWord_38 : decode cX12_aWord 38 = .ok (.ifCond .ne 5, 3) := by decide +kernel
theorem dX12_aWord_41 : decode cX12_aWord 41 = .ok (.iconst 0, 1) := by decide +kernel
theorem dX12_aWord_42 : decode cX12_aWord 42 = .ok (.ireturn, 1) := by decide +kernel
theorem dX12_aWord_43 : decode cX12_aWord 43 = .ok (.iconst 0, 1) := by decide +kernel
theorem dX12_aWord_44 : decode cX12_aWord 44 = .ok (.istore_n 3, 1) := by decide +kernel
theorem dX12_aWord_45 : decode cX12_aWord 45 = .ok (.iload_n 3, 1) := by decide +kernel
theorem dX12_aWord_46 : decode cX12_aWord 46 = .ok (.iconst 5, 1) := by decide +kernel
theorem dX12_aWord_47 : decode cX12_aWord 47 = .ok (.if_icmp .ge 18, 3) := by decide +kernel
theorem dX12_aWord_50 : decode cX12_aWord 50 = .ok (.aload_n 0, 1) := by decide +kernel
theorem dX12_aWord_51 : decode cX12_aWord 51 = .ok (.getfield 7, 3) := by decide +kernel
theorem dX12_aWord_54 : decode cX12_aWord 54 = .ok (.iload_n 2, 1) := by decide +kernel
theorem dX12_aWord_55 : decode cX12_aWord 55 = .ok (.iload_n 3, 1) := by decide +kernel
theorem dX12_aWord_56 : decode cX12_aWord 56 = .ok (.iadd, 1) := by decide +kernel
theorem dX12_aWord_57 : decode cX12_aWord 57 = .ok (.iconst 0, 1) := by decide +kernel
theorem dX12_aWord_58 : decode cX12_aWord 58 = .ok (.iastore, 1) := by decide +kernel
theorem dX12_aWord_59 : decode cX12_aWord 59 = .ok (.iinc 3 1, 3) := by decide +kernel
theorem dX12_aWord_62 : decode cX12_aWord 62 = .ok (.goto (-17), 3) := by decide +kernel
theorem dX12_aWord_65 : decode cX12_aWord 65 = .ok (.aload_n 0, 1) := by decide +kernel
theorem dX12_aWord_66 : decode cX12_aWord 66 = .ok (.invokevirtual 232, 3) := by decide +kernel
theorem dX12_aWord_69 : decode cX12_aWord 69 = .ok (.ifCond .ne 9, 3) := by decide +kernel
theorem dX12_aWord_72 : decode cX12_aWord 72 = .ok (.aload_n 0, 1) := by decide +kernel
theorem dX12_aWord_73 : decode cX12_aWord 73 = .ok (.iconst 2, 1) := by decide +kernel
theorem dX12_aWord_74 : decode cX12_aWord 74 = .ok (.invokevirtual 175, 3) := by decide +kernel
theorem dX12_aWord_77 : decode cX12_aWord 77 = .ok (.ireturn, 1) := by decide +kernel
theorem dX12_aWord_78 : decode cX12_aWord 78 = .ok (.aload_n 0, 1) := by decide +kernel
theorem dX12_aWord_79 : decode cX12_aWord 79 = .ok (.invokevirtual 232, 3) := by decide +kernel
theorem dX12_aWord_82 : decode cX12_aWord 82 = .ok (.ifCond .eq 60, 3) := by decide +kernel
theorem dX12_aWord_85 : decode cX12_aWord 85 = .ok (.aload_n 0, 1) := by decide +kernel
theorem dX12_aWord_86 : decode cX12_aWord 86 = .ok (.getfield 7, 3) := by decide +kernel
theorem dX12_aWord_89 : decode cX12_aWord 89 = .ok (.iload_n 2, 1) := by decide +kernel
theorem dX12_aWord_90 : decode cX12_aWord 90 = .ok (.iaload, 1) := by decide +kernel
theorem dX12_aWord_91 : decode cX12_aWord 91 = .ok (.iconst 4, 1) := by decide +kernel
theorem dX12_aWord_92 : decode cX12_aWord 92 = .ok (.if_icmp .ne 9, 3) := by decide +kernel
theorem dX12_aWord_95 : decode cX12_aWord 95 = .ok (.aload_n 0, 1) := by decide +kernel
theorem dX12_aWord_96 : decode cX12_aWord 96 = .ok (.iconst 5, 1) := by decide +kernel
theorem dX12_aWord_97 : decode cX12_aWord 97 = .ok (.invokevirtual 175, 3) := by decide +kernel
theorem dX12_aWord_100 : decode cX12_aWord 100 = .ok (.ireturn, 1) := by decide +kernel
theorem dX12_aWord_101 : decode cX12_aWord 101 = .ok (.aload_n 0, 1) := by decide +kernel
theorem dX12_aWord_102 : decode cX12_aWord 102 = .ok (.getfield 7, 3) := by decide +kernel
theorem dX12_aWord_105 : decode cX12_aWord 105 = .ok (.iload_n 2, 1) := by decide +kernel
theorem dX12_aWord_106 : decode cX12_aWord 106 = .ok (.iconst 1, 1) := by decide +kernel
theorem dX12_aWord_107 : decode cX12_aWord 107 = .ok (.iadd, 1) := by decide +kernel
theorem dX12_aWord_108 : decode cX12_aWord 108 = .ok (.aload_n 0, 1) := by decide +kernel
theorem dX12_aWord_109 : decode cX12_aWord 109 = .ok (.getfield 7, 3) := by decide +kernel
theorem dX12_aWord_112 : decode cX12_aWord 112 = .ok (.iload_n 2, 1) := by decide +kernel
theorem dX12_aWord_113 : decode cX12_aWord 113 = .ok (.iaload, 1) := by decide +kernel
theorem dX12_aWord_114 : decode cX12_aWord 114 = .ok (.iadd, 1) := by decide +kernel
theorem dX12_aWord_115 : decode cX12_aWord 115 = .ok (.aload_n 0, 1) := by decide +kernel
theorem dX12_aWord_116 : decode cX12_aWord 116 = .ok (.ldc 186, 2) := by decide +kernel
theorem dX12_aWord_118 : decode cX12_aWord 118 = .ok (.invokevirtual 178, 3) := by decide +kernel
theorem dX12_aWord_121 : decode cX12_aWord 121 = .ok (.bipush 8, 2) := by decide +kernel
theorem dX12_aWord_123 : decode cX12_aWord 123 = .ok (.isub, 1) := by decide +kernel
theorem dX12_aWord_124 : decode cX12_aWord 124 = .ok (.iastore, 1) := by decide +kernel
theorem dX12_aWord_125 : decode cX12_aWord 125 = .ok (.aload_n 0, 1) := by decide +kernel
theorem dX12_aWord_126 : decode cX12_aWord 126 = .ok (.getfield 7, 3) := by decide +kernel
theorem dX12_aWord_129 : decode cX12_aWord 129 = .ok (.iload_n 2, 1) := by decide +kernel
theorem dX12_aWord_130 : decode cX12_aWord 130 = .ok (.dup2, 1) := by decide +kernel
theorem dX12_aWord_131 : decode cX12_aWord 131 = .ok (.iaload, 1) := by decide +kernel
theorem dX12_aWord_132 : decode cX12_aWord 132 = .ok (.iconst 1, 1) := by decide +kernel
theorem dX12_aWord_133 : decode cX12_aWord 133 = .ok (.iadd, 1) := by decide +kernel
theorem dX12_aWord_134 : decode cX12_aWord 134 = .ok (.iastore, 1) := by decide +kernel
theorem dX12_aWord_135 : decode cX12_aWord 135 = .ok (.aload_n 0, 1) := by decide +kernel
theorem dX12_aWord_136 : decode cX12_aWord 136 = .ok (.invokevirtual 169, 3) := by decide +kernel
theorem dX12_aWord_139 : decode cX12_aWord 139 = .ok (.goto (-61), 3) := by decide +kernel
theorem dX12_aWord_142 : decode cX12_aWord 142 = .ok (.aload_n 0, 1) := by decide +kernel
theorem dX12_aWord_143 : decode cX12_aWord 143 = .ok (.bipush 59, 2) := by decide +kernel
theorem dX12_aWord_145 : decode cX12_aWord 145 = .ok (.invokevirtual 172, 3) := by decide +kernel
theorem dX12_aWord_148 : decode cX12_aWord 148 = .ok (.ifCond .ne 9, 3) := by decide +kernel
theorem dX12_aWord_151 : decode cX12_aWord 151 = .ok (.aload_n 0, 1) := by decide +kernel
theorem dX12_aWord_152 : decode cX12_aWord 152 = .ok (.iconst 2, 1) := by decide +kernel
theorem dX12_aWord_153 : decode cX12_aWord 153 = .ok (.invokevirtual 175, 3) := by decide +kernel
theorem dX12_aWord_156 : decode cX12_aWord 156 = .ok (.ireturn, 1) := by decide +kernel
theorem dX12_aWord_157 : decode cX12_aWord 157 = .ok (.aload_n 0, 1) := by decide +kernel
theorem dX12_aWord_158 : decode cX12_aWord 158 = .ok (.sipush 2016, 3) := by decide +kernel
theorem dX12_aWord_161 : decode cX12_aWord 161 = .ok (.iload_n 1, 1) := by decide +kernel
theorem dX12_aWord_162 : decode cX12_aWord 162 = .ok (.invokevirtual 235, 3) := by decide +kernel
theorem dX12_aWord_165 : decode cX12_aWord 165 = .ok (.iconst (-1), 1) := by decide +kernel
theorem dX12_aWord_166 : decode cX12_aWord 166 = .ok (.if_icmp .eq 9, 3) := by decide +kernel
theorem dX12_aWord_169 : decode cX12_aWord 169 = .ok (.aload_n 0, 1) := by decide +kernel
theorem dX12_aWord_170 : decode cX12_aWord 170 = .ok (.iconst 5, 1) := by decide +kernel
theorem dX12_aWord_171 : decode cX12_aWord 171 = .ok (.invokevirtual 175, 3) := by decide +kernel
theorem dX12_aWord_174 : decode cX12_aWord 174 = .ok (.ireturn, 1) := by decide +kernel
theorem dX12_aWord_175 : decode cX12_aWord 175 = .ok (.aload_n 0, 1) := by decide +kernel
theorem dX12_aWord_176 : decode cX12_aWord 176 = .ok (.getfield 7, 3) := by decide +kernel
theorem dX12_aWord_179 : decode cX12_aWord 179 = .ok (.sipush 2018, 3) := by decide +kernel
theorem dX12_aWord_182 : decode cX12_aWord 182 = .ok (.dup2, 1) := by decide +kernel
theorem dX12_aWord_183 : decode cX12_aWord 183 = .ok (.iaload, 1) := by decide +kernel
theorem dX12_aWord_184 : decode cX12_aWord 184 = .ok (.iconst 1, 1) := by decide +kernel
theorem dX12_aWord_185 : decode cX12_aWord 185 = .ok (.iadd, 1) := by decide +kernel
theorem dX12_aWord_186 : decode cX12_aWord 186 = .ok (.iastore, 1) := by decide +kernel
theorem dX12_aWord_187 : decode cX12_aWord 187 = .ok (.iconst 1, 1) := by decide +kernel
theorem dX12_aWord_188 : decode cX12_aWord 188 = .ok (.ireturn, 1) := by decide +kernel
set_option maxRecDepth 100000 in
def f_X12_aWord_41  (μ : dtM) : Option (Int32 × dtM) :=
  opRet (0 : Int32) μ
set_option maxRecDepth 100000 in
def f_X12_aWord_78 : Nat → Nat → Int32 → Int32 → dtM → Option (Int32 × dtM)
  | 0, _, _, _, _ => none
  | n + 1, l0, l1, l2, μ =>
    (opRv 12 μ l0).bind fun _ => opCall (f_X12_isSound l0 μ) fun x4 μ2 => if x4 = 0 then ((opRv 12 μ2 l0).bind fun _ => opCall (f_X12_isSign l0 (59 : Int32) μ2) fun x11 μ9 => if x11 = 0 then ((opRv 12 μ9 l0).bind fun _ => opCall (f_X12_fails l0 (2 : Int32) μ9) fun x35 μ33 => opRet x35 μ33) else ((opRv 12 μ9 l0).bind fun _ => opCall (f_X12_sameAs l0 (2016 : Int32) l1 μ9) fun x18 μ16 => if x18 = (-1 : Int32) then ((opGR 12 0 μ16 l0).bind fun x22 => (opLI 1 μ16 x22 (2018 : Int32)).bind fun x24 => (opSI μ16 x22 (2018 : Int32) (x24 + (1 : Int32))).bind fun μ26 => opRet (1 : Int32) μ26) else ((opRv 12 μ16 l0).bind fun _ => opCall (f_X12_fails l0 (5 : Int32) μ16) fun x31 μ29 => opRet x31 μ29))) else ((opGR 12 0 μ2 l0).bind fun x36 => (opLI 1 μ2 x36 l2).bind fun x38 => if x38 = (4 : Int32) then ((opRv 12 μ2 l0).bind fun _ => opCall (f_X12_fails l0 (5 : Int32) μ2) fun x67 μ65 => opRet x67 μ65) else ((opGR 12 0 μ2 l0).bind fun x43 => (opGR 12 0 μ2 l0).bind fun x45 => (opLI 1 μ2 x45 l2).bind fun x47 => (opRv 12 μ2 l0).bind fun _ => opCall (f_X12_inWords l0 1000003 μ2) fun x52 μ50 => (opSI μ50 x43 ((l2 + (1 : Int32)) + x47) (x52 - (8 : Int32))).bind fun μ53 => (opGR 12 0 μ53 l0).bind fun x55 => (opLI 1 μ53 x55 l2).bind fun x57 => (opSI μ53 x55 l2 (x57 + (1 : Int32))).bind fun μ59 => (opRv 12 μ59 l0).bind fun _ => (f_X12_ahead l0 μ59).bind fun μ62 => f_X12_aWord_78 n l0 l1 l2 μ62))
set_option maxRecDepth 100000 in
def f_X12_aWord_45 : Nat → Nat → Int32 → Int32 → Int32 → dtM → Option (Int32 × dtM)
  | 0, _, _, _, _, _ => none
  | n + 1, l0, l1, l2, l3, μ =>
    if (5 : Int32) ≤ l3 then ((opRv 12 μ l0).bind fun _ => opCall (f_X12_isSound l0 μ) fun x7 μ5 => if x7 = 0 then ((opRv 12 μ5 l0).bind fun _ => opCall (f_X12_fails l0 (2 : Int32) μ5) fun x14 μ12 => opRet x14 μ12) else (f_X12_aWord_78 dtFuel l0 l1 l2 μ5)) else ((opGR 12 0 μ l0).bind fun x15 => (opSI μ x15 (l2 + l3) (0 : Int32)).bind fun μ17 => f_X12_aWord_45 n l0 l1 l2 (l3 + 1) μ17)
set_option maxRecDepth 100000 in
def f_X12_aWord (p0 : Nat) (μ : dtM) : Option (Int32 × dtM) :=
  (opGR 12 0 μ p0).bind fun x1 => (opLI 1 μ x1 (2018 : Int32)).bind fun x3 => opCall (f_X12_wordRow x3 μ) fun x7 μ5 => (some ((2016 : Int32) + x7)).bind fun x8 => (opRv 12 μ5 p0).bind fun _ => opCall (f_X12_newOne p0 (2 : Int32) (7 : Int32) (7 : Int32) μ5) fun x13 μ11 => if x13 = 0 then (f_X12_aWord_41 μ11) else ((opRv 12 μ11 p0).bind fun _ => opCall (f_X12_wantWord p0 1000003 (7 : Int32) μ11) fun x20 μ18 => if x20 = 0 then (f_X12_aWord_41 μ18) else (f_X12_aWord_45 dtFuel p0 x3 x8 (0 : Int32) μ18))
set_option maxRecDepth 100000 in
theorem c_X12_aWord_41 {r : Int32} {F : dtM}  (μ : dtM) (h : f_X12_aWord_41  μ = some (r, F)) : dtW yX12_aWord cX12_aWord 4 (some .boolean) 9 (some (.int r)) F 41 [] [] μ := by
  rw [f_X12_aWord_41] at h
  refine dr_iconst (0 : Int32) dX12_aWord_41 (by decide) ?_
  obtain ⟨hz, rfl, rfl⟩ := dtRet h
  exact dr_ireturn dX12_aWord_42 (dtNz hz)
set_option maxRecDepth 100000 in
theorem c_X12_aWord_78 {r : Int32} {F : dtM} : ∀ (n : Nat) (l0 : Nat) (l1 : Int32) (l2 : Int32) (μ : dtM), f_X12_aWord_78 n l0 l1 l2 μ = some (r, F) → dtW yX12_aWord cX12_aWord 4 (some .boolean) 9 (some (.int r)) F 78 [some (.ref l0), some (.int l1), some (.int l2)] [] μ := by
  intro n
  induction n with
  | zero => intro l0 l1 l2 μ h; cases h
  | succ n ih =>
    intro l0 l1 l2 μ h
    have h := (show f_X12_aWord_78 (n + 1) l0 l1 l2 μ = some _ from h)
    rw [f_X12_aWord_78] at h
    refine dr_aload_n l0 dX12_aWord_78 rfl ?_
    obtain ⟨_, hb1, h⟩ := dtBind h
    obtain ⟨x4, μ2, e3, h⟩ := dtCall h
    refine dr_callV_i (S0 := []) [] x4 μ2 dX12_aWord_79 (c_X12_isSound l0 μ e3) mf_X12_isSound wt_1633 ws_77 wt_1631 rfl (dtRv hb1) (by decide) rfl (Nat.le_of_ble_eq_true rfl) (Nat.le_of_ble_eq_true rfl) rfl ?_
    obtain ⟨ht6, hf7⟩ := dtIte h
    refine dr_if_eq 142 dX12_aWord_82 (by decide) (fun hc5 => ?_) (fun hc5 => ?_)
    · have h := ht6 hc5
      refine dr_aload_n l0 dX12_aWord_142 rfl ?_
      refine dr_bipush (59 : Int32) dX12_aWord_143 (by decide) ?_
      obtain ⟨_, hb8, h⟩ := dtBind h
      obtain ⟨x11, μ9, e10, h⟩ := dtCall h
      refine dr_callV_i (S0 := []) [.int (59 : Int32)] x11 μ9 dX12_aWord_145 (c_X12_isSign l0 (59 : Int32) μ2 e10) mf_X12_isSign wt_1637 ws_78 wt_1635 rfl (dtRv hb8) (by decide) rfl (Nat.le_of_ble_eq_true rfl) (Nat.le_of_ble_eq_true rfl) rfl ?_
      obtain ⟨ht13, hf14⟩ := dtIte h
      refine dr_if_ne 157 dX12_aWord_148 (by decide) (fun hc12 => ?_) (fun hc12 => ?_)
      · have h := hf14 hc12
        refine dr_aload_n l0 dX12_aWord_157 rfl ?_
        refine dr_sipush (2016 : Int32) dX12_aWord_158 (by decide) ?_
        refine dr_iload_n l1 dX12_aWord_161 rfl ?_
        obtain ⟨_, hb15, h⟩ := dtBind h
        obtain ⟨x18, μ16, e17, h⟩ := dtCall h
        refine dr_callV_i (S0 := []) [.int (2016 : Int32), .int l1] x18 μ16 dX12_aWord_162 (c_X12_sameAs l0 (2016 : Int32) l1 μ9 e17) mf_X12_sameAs wt_1641 ws_79 wt_1639 rfl (dtRv hb15) (by decide) rfl (Nat.le_of_ble_eq_true rfl) (Nat.le_of_ble_eq_true rfl) rfl ?_
        refine dr_iconst (-1 : Int32) dX12_aWord_165 (by decide) ?_
        obtain ⟨ht20, hf21⟩ := dtIte h
        refine dr_icmp_eq 175 dX12_aWord_166 (by decide) (fun hc19 => ?_) (fun hc19 => ?_)
        · have h := ht20 hc19
          refine dr_aload_n l0 dX12_aWord_175 rfl ?_
          obtain ⟨x22, e23, h⟩ := dtBind h
          refine dr_getR x22 dX12_aWord_176 fl_RX12_7 e23 ?_
          refine dr_sipush (2018 : Int32) dX12_aWord_179 (by decide) ?_
          refine dr_dup2 dX12_aWord_182 rfl rfl ?_
          obtain ⟨x24, e25, h⟩ := dtBind h
          refine dr_iaload x24 dX12_aWord_183 e25 ?_
          refine dr_iconst (1 : Int32) dX12_aWord_184 (by decide) ?_
          refine dr_iadd dX12_aWord_185 ?_
          obtain ⟨μ26, e27, h⟩ := dtBind h
          refine dr_iastore μ26 dX12_aWord_186 e27 ?_
          refine dr_iconst (1 : Int32) dX12_aWord_187 (by decide) ?_
          obtain ⟨hz, rfl, rfl⟩ := dtRet h
          exact dr_ireturn dX12_aWord_188 (dtNz hz)
        · have h := hf21 hc19
          refine dr_aload_n l0 dX12_aWord_169 rfl ?_
          refine dr_iconst (5 : Int32) dX12_aWord_170 (by decide) ?_
          obtain ⟨_, hb28, h⟩ := dtBind h
          obtain ⟨x31, μ29, e30, h⟩ := dtCall h
          refine dr_callV_i (S0 := []) [.int (5 : Int32)] x31 μ29 dX12_aWord_171 (c_X12_fails l0 (5 : Int32) μ16 e30) mf_X12_fails wt_1567 ws_62 wt_1565 rfl (dtRv hb28) (by decide) rfl (Nat.le_of_ble_eq_true rfl) (Nat.le_of_ble_eq_true rfl) rfl ?_
          obtain ⟨hz, rfl, rfl⟩ := dtRet h
          exact dr_ireturn dX12_aWord_174 (dtNz hz)
      · have h := ht13 hc12
        refine dr_aload_n l0 dX12_aWord_151 rfl ?_
        refine dr_iconst (2 : Int32) dX12_aWord_152 (by decide) ?_
        obtain ⟨_, hb32, h⟩ := dtBind h
        obtain ⟨x35, μ33, e34, h⟩ := dtCall h
        refine dr_callV_i (S0 := []) [.int (2 : Int32)] x35 μ33 dX12_aWord_153 (c_X12_fails l0 (2 : Int32) μ9 e34) mf_X12_fails wt_1567 ws_62 wt_1565 rfl (dtRv hb32) (by decide) rfl (Nat.le_of_ble_eq_true rfl) (Nat.le_of_ble_eq_true rfl) rfl ?_
        obtain ⟨hz, rfl, rfl⟩ := dtRet h
        exact dr_ireturn dX12_aWord_156 (dtNz hz)
    · have h := hf7 hc5
      refine dr_aload_n l0 dX12_aWord_85 rfl ?_
      obtain ⟨x36, e37, h⟩ := dtBind h
      refine dr_getR x36 dX12_aWord_86 fl_RX12_7 e37 ?_
      refine dr_iload_n l2 dX12_aWord_89 rfl ?_
      obtain ⟨x38, e39, h⟩ := dtBind h
      refine dr_iaload x38 dX12_aWord_90 e39 ?_
      refine dr_iconst (4 : Int32) dX12_aWord_91 (by decide) ?_
      obtain ⟨ht41, hf42⟩ := dtIte h
      refine dr_icmp_ne 101 dX12_aWord_92 (by decide) (fun hc40 => ?_) (fun hc40 => ?_)
      · have h := hf42 hc40
        refine dr_aload_n l0 dX12_aWord_101 rfl ?_
        obtain ⟨x43, e44, h⟩ := dtBind h
        refine dr_getR x43 dX12_aWord_102 fl_RX12_7 e44 ?_
        refine dr_iload_n l2 dX12_aWord_105 rfl ?_
        refine dr_iconst (1 : Int32) dX12_aWord_106 (by decide) ?_
        refine dr_iadd dX12_aWord_107 ?_
        refine dr_aload_n l0 dX12_aWord_108 rfl ?_
        obtain ⟨x45, e46, h⟩ := dtBind h
        refine dr_getR x45 dX12_aWord_109 fl_RX12_7 e46 ?_
        refine dr_iload_n l2 dX12_aWord_112 rfl ?_
        obtain ⟨x47, e48, h⟩ := dtBind h
        refine dr_iaload x47 dX12_aWord_113 e48 ?_
        refine dr_iadd dX12_aWord_114 ?_
        refine dr_aload_n l0 dX12_aWord_115 rfl ?_
        refine dr_ldcS1 dX12_aWord_116 rfl ?_
        obtain ⟨_, hb49, h⟩ := dtBind h
        obtain ⟨x52, μ50, e51, h⟩ := dtCall h
        refine dr_callV_i (S0 := [.int ((l2 + (1 : Int32)) + x47), .ref x43]) [.ref 1000003] x52 μ50 dX12_aWord_118 (c_X12_inWords l0 1000003 μ2 e51) mf_X12_inWords wt_1561 ws_61 wt_1559 rfl (dtRv hb49) (by decide) rfl (Nat.le_of_ble_eq_true rfl) (Nat.le_of_ble_eq_true rfl) rfl ?_
        refine dr_bipush (8 : Int32) dX12_aWord_121 (by decide) ?_
        refine dr_isub dX12_aWord_123 ?_
        obtain ⟨μ53, e54, h⟩ := dtBind h
        refine dr_iastore μ53 dX12_aWord_124 e54 ?_
        refine dr_aload_n l0 dX12_aWord_125 rfl ?_
        obtain ⟨x55, e56, h⟩ := dtBind h
        refine dr_getR x55 dX12_aWord_126 fl_RX12_7 e56 ?_
        refine dr_iload_n l2 dX12_aWord_129 rfl ?_
        refine dr_dup2 dX12_aWord_130 rfl rfl ?_
        obtain ⟨x57, e58, h⟩ := dtBind h
        refine dr_iaload x57 dX12_aWord_131 e58 ?_
        refine dr_iconst (1 : Int32) dX12_aWord_132 (by decide) ?_
        refine dr_iadd dX12_aWord_133 ?_
        obtain ⟨μ59, e60, h⟩ := dtBind h
        refine dr_iastore μ59 dX12_aWord_134 e60 ?_
        refine dr_aload_n l0 dX12_aWord_135 rfl ?_
        obtain ⟨_, hb61, h⟩ := dtBind h
        obtain ⟨μ62, e63, h⟩ := dtBind h
        refine dr_callV_v (S0 := []) [] μ62 dX12_aWord_136 (c_X12_ahead l0 μ59 e63) mf_X12_ahead wt_1536 ws_57 wt_1534 rfl (dtRv hb61) (by decide) rfl (Nat.le_of_ble_eq_true rfl) (Nat.le_of_ble_eq_true rfl) rfl ?_
        refine dr_goto 78 dX12_aWord_139 (by decide) ?_
        exact ih l0 l1 l2 μ62 h
      · have h := ht41 hc40
        refine dr_aload_n l0 dX12_aWord_95 rfl ?_
        refine dr_iconst (5 : Int32) dX12_aWord_96 (by decide) ?_
        obtain ⟨_, hb64, h⟩ := dtBind h
        obtain ⟨x67, μ65, e66, h⟩ := dtCall h
        refine dr_callV_i (S0 := []) [.int (5 : Int32)] x67 μ65 dX12_aWord_97 (c_X12_fails l0 (5 : Int32) μ2 e66) mf_X12_fails wt_1567 ws_62 wt_1565 rfl (dtRv hb64) (by decide) rfl (Nat.le_of_ble_eq_true rfl) (Nat.le_of_ble_eq_true rfl) rfl ?_
        obtain ⟨hz, rfl, rfl⟩ := dtRet h
        exact dr_ireturn dX12_aWord_100 (dtNz hz)
set_option maxRecDepth 100000 in
theorem c_X12_aWord_45 {r : Int32} {F : dtM} : ∀ (n : Nat) (l0 : Nat) (l1 : Int32) (l2 : Int32) (l3 : Int32) (μ : dtM), f_X12_aWord_45 n l0 l1 l2 l3 μ = some (r, F) → dtW yX12_aWord cX12_aWord 4 (some .boolean) 9 (some (.int r)) F 45 [some (.ref l0), some (.int l1), some (.int l2), some (.int l3)] [] μ := by
  intro n
  induction n with
  | zero => intro l0 l1 l2 l3 μ h; cases h
  | succ n ih =>
    intro l0 l1 l2 l3 μ h
    have h := (show f_X12_aWord_45 (n + 1) l0 l1 l2 l3 μ = some _ from h)
    rw [f_X12_aWord_45] at h
    refine dr_iload_n l3 dX12_aWord_45 rfl ?_
    refine dr_iconst (5 : Int32) dX12_aWord_46 (by decide) ?_
    obtain ⟨ht2, hf3⟩ := dtIte h
    refine dr_icmp_ge 65 dX12_aWord_47 (by decide) (fun hc1 => ?_) (fun hc1 => ?_)
    · have h := ht2 hc1
      refine dr_aload_n l0 dX12_aWord_65 rfl ?_
      obtain ⟨_, hb4, h⟩ := dtBind h
      obtain ⟨x7, μ5, e6, h⟩ := dtCall h
      refine dr_callV_i (S0 := []) [] x7 μ5 dX12_aWord_66 (c_X12_isSound l0 μ e6) mf_X12_isSound wt_1633 ws_77 wt_1631 rfl (dtRv hb4) (by decide) rfl (Nat.le_of_ble_eq_true rfl) (Nat.le_of_ble_eq_true rfl) rfl ?_
      obtain ⟨ht9, hf10⟩ := dtIte h
      refine dr_if_ne 78 dX12_aWord_69 (by decide) (fun hc8 => ?_) (fun hc8 => ?_)
      · have h := hf10 hc8
        refine dr_mask [true, true, true] [some (.ref l0), some (.int l1), some (.int l2)] rfl ?_
        exact c_X12_aWord_78 dtFuel l0 l1 l2 μ5 h
      · have h := ht9 hc8
        refine dr_aload_n l0 dX12_aWord_72 rfl ?_
        refine dr_iconst (2 : Int32) dX12_aWord_73 (by decide) ?_
        obtain ⟨_, hb11, h⟩ := dtBind h
        obtain ⟨x14, μ12, e13, h⟩ := dtCall h
        refine dr_callV_i (S0 := []) [.int (2 : Int32)] x14 μ12 dX12_aWord_74 (c_X12_fails l0 (2 : Int32) μ5 e13) mf_X12_fails wt_1567 ws_62 wt_1565 rfl (dtRv hb11) (by decide) rfl (Nat.le_of_ble_eq_true rfl) (Nat.le_of_ble_eq_true rfl) rfl ?_
        obtain ⟨hz, rfl, rfl⟩ := dtRet h
        exact dr_ireturn dX12_aWord_77 (dtNz hz)
    · have h := hf3 hc1
      refine dr_aload_n l0 dX12_aWord_50 rfl ?_
      obtain ⟨x15, e16, h⟩ := dtBind h
      refine dr_getR x15 dX12_aWord_51 fl_RX12_7 e16 ?_
      refine dr_iload_n l2 dX12_aWord_54 rfl ?_
      refine dr_iload_n l3 dX12_aWord_55 rfl ?_
      refine dr_iadd dX12_aWord_56 ?_
      refine dr_iconst (0 : Int32) dX12_aWord_57 (by decide) ?_
      obtain ⟨μ17, e18, h⟩ := dtBind h
      refine dr_iastore μ17 dX12_aWord_58 e18 ?_
      refine dr_iinc l3 (l3 + 1) [some (.ref l0), some (.int l1), some (.int l2), some (.int (l3 + 1))] dX12_aWord_59 rfl rfl rfl rfl rfl ?_
      refine dr_goto 45 dX12_aWord_62 (by decide) ?_
      exact ih l0 l1 l2 (l3 + 1) μ17 h
set_option maxRecDepth 100000 in
theorem c_X12_aWord {r : Int32} {F : dtM} (p0 : Nat) (μ : dtM) (h : f_X12_aWord p0 μ = some (r, F)) : dtMet yX12_aWord cX12_aWord 4 (some .boolean) 9 [.ref p0] μ (some (.int r)) F := by
  refine dtMet.of (by decide +kernel) (Nat.le_of_ble_eq_true rfl) (show dtW yX12_aWord cX12_aWord 4 (some .boolean) 9 (some (.int r)) F 0 [some (.ref p0)] [] μ from ?_)
  rw [f_X12_aWord] at h
  refine dr_aload_n p0 dX12_aWord_0 rfl ?_
  obtain ⟨x1, e2, h⟩ := dtBind h
  refine dr_getR x1 dX12_aWord_1 fl_RX12_7 e2 ?_
  refine dr_sipush (2018 : Int32) dX12_aWord_4 (by decide) ?_
  obtain ⟨x3, e4, h⟩ := dtBind h
  refine dr_iaload x3 dX12_aWord_7 e4 ?_
  refine dr_istore_n 1 [some (.ref p0), some (.int x3)] dX12_aWord_8 rfl rfl rfl rfl ?_
  refine dr_sipush (2016 : Int32) dX12_aWord_9 (by decide) ?_
  refine dr_iload_n x3 dX12_aWord_12 rfl ?_
  obtain ⟨x7, μ5, e6, h⟩ := dtCall h
  refine dr_callS_i (S0 := [.int (2016 : Int32)]) [.int x3] x7 μ5 dX12_aWord_13 (c_X12_wordRow x3 μ e6) mf_X12_wordRow wt_1625 wt_1624 rfl (Nat.le_of_ble_eq_true rfl) (Nat.le_of_ble_eq_true rfl) rfl ?_
  refine dr_iadd dX12_aWord_16 ?_
  obtain ⟨x8, e9, h⟩ := dtBind h
  refine dr_nmi e9 ?_
  refine dr_istore_n 2 [some (.ref p0), some (.int x3), some (.int x8)] dX12_aWord_17 rfl rfl rfl rfl ?_
  refine dr_aload_n p0 dX12_aWord_18 rfl ?_
  refine dr_iconst (2 : Int32) dX12_aWord_19 (by decide) ?_
  refine dr_bipush (7 : Int32) dX12_aWord_20 (by decide) ?_
  refine dr_bipush (7 : Int32) dX12_aWord_22 (by decide) ?_
  obtain ⟨_, hb10, h⟩ := dtBind h
  obtain ⟨x13, μ11, e12, h⟩ := dtCall h
  refine dr_callV_i (S0 := []) [.int (2 : Int32), .int (7 : Int32), .int (7 : Int32)] x13 μ11 dX12_aWord_24 (c_X12_newOne p0 (2 : Int32) (7 : Int32) (7 : Int32) μ5 e12) mf_X12_newOne wt_1579 ws_65 wt_1577 rfl (dtRv hb10) (by decide) rfl (Nat.le_of_ble_eq_true rfl) (Nat.le_of_ble_eq_true rfl) rfl ?_
  obtain ⟨ht15, hf16⟩ := dtIte h
  refine dr_if_eq 41 dX12_aWord_27 (by decide) (fun hc14 => ?_) (fun hc14 => ?_)
  · have h := ht15 hc14
    refine dr_mask [] [] rfl ?_
    exact c_X12_aWord_41 μ11 h
  · have h := hf16 hc14
    refine dr_aload_n p0 dX12_aWord_30 rfl ?_
    refine dr_ldcS1 dX12_aWord_31 rfl ?_
    refine dr_bipush (7 : Int32) dX12_aWord_33 (by decide) ?_
    obtain ⟨_, hb17, h⟩ := dtBind h
    obtain ⟨x20, μ18, e19, h⟩ := dtCall h
    refine dr_callV_i (S0 := []) [.ref 1000003, .int (7 : Int32)] x20 μ18 dX12_aWord_35 (c_X12_wantWord p0 1000003 (7 : Int32) μ11 e19) mf_X12_wantWord wt_1629 ws_76 wt_1627 rfl (dtRv hb17) (by decide) rfl (Nat.le_of_ble_eq_true rfl) (Nat.le_of_ble_eq_true rfl) rfl ?_
    obtain ⟨ht22, hf23⟩ := dtIte h
    refine dr_if_ne 43 dX12_aWord_38 (by decide) (fun hc21 => ?_) (fun hc21 => ?_)
    · have h := hf23 hc21
      refine dr_iconst (0 : Int32) dX12_aWord_43 (by decide) ?_
      refine dr_istore_n 3 [some (.ref p0), some (.int x3), some (.int x8), some (.int (0 : Int32))] dX12_aWord_44 rfl rfl rfl rfl ?_
      exact c_X12_aWord_45 dtFuel p0 x3 x8 (0 : Int32) μ18 h
    · have h := ht22 hc21
      refine dr_mask [] [] rfl ?_
      exact c_X12_aWord_41 μ18 h
