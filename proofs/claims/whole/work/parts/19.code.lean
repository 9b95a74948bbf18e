/-! X12_aPerson -/
theorem dX12_aPerson_0 : decode cX12_aPerson 0 = .ok (.sipush 2016, 3) := by decide +kernel
theorem dX12_aPerson_3 : decode cX12_aPerson 3 = .ok (.aload_n 0, 1) := by decide +kernel
theorem dX12_aPerson_4 : decode cX12_aPerson 4 = .ok (.getfield 7, 3) := by decide +kernel
theorem dX12_aPerson_7 : decode cX12_aPerson 7 = .ok (.sipush 2019, 3) := by decide +kernel
theorem dX12_aPerson_10 : decode cX12_aPerson 10 = .ok (.iaload, 1) := by decide +kernel
theorem dX12_aPerson_11 : decode cX12_aPerson 11 = .ok (.invokestatic 238, 3) := by decide +kernel
theorem dX12_aPerson_14 : decode cX12_aPerson 14 = .ok (.iadd, 1) := by decide +kernel
theorem dX12_aPerson_15 : decode cX12_aPerson 15 = .ok (.istore_n 1, 1) := by decide +kernel
theorem dX12_aPerson_16 : decode cX12_aPerson 16 = .ok (.sipush 2512, 3) := by decide +kernel
theorem dX12_aPerson_19 : decode cX12_aPerson 19 = .ok (.istore_n 2, 1) := by decide +kernel
theorem dX12_aPerson_20 : decode cX12_aPerson 20 = .ok (.aload_n 0, 1) := by decide +kernel
theorem dX12_aPerson_21 : decode cX12_aPerson 21 = .ok (.iconst 3, 1) := by decide +kernel
theorem dX12_aPerson_22 : decode cX12_aPerson 22 = .ok (.iconst 5, 1) := by decide +kernel
theorem dX12_aPerson_23 : decode cX12_aPerson 23 = .ok (.bipush 14, 2) := by decide +kernel
theorem dX12_aPerson_25 : decode cX12_aPerson 25 = .ok (.invokevirtual 207, 3) := by decide +kernel
theorem dX12_aPerson_28 : decode cX12_aPerson 28 = .ok (.ifCond .eq 22, 3) := by decide +kernel
theorem dX12_aPerson_31 : decode cX12_aPerson 31 = .ok (.aload_n 0, 1) := by decide +kernel
theorem dX12_aPerson_32 : decode cX12_aPerson 32 = .ok (.ldc 186, 2) := by decide +kernel
theorem dX12_aPerson_34 : decode cX12_aPerson 34 = .ok (.bipush 12, 2) := by decide +kernel
theorem dX12_aPerson_36 : decode cX12_aPerson 36 = .ok (.invokevirtual 228, 3) := by decide +kernel
theorem dX12_aPerson_39 : decode cX12_aPerson 39 = .ok (.ifCond .eq 11, 3) := by decide +kernel
theorem dX12_aPerson_42 : decode cX12_aPerson 42 = .ok (.aload_n 0, 1) := by decide +kernel
theorem dX12_aPerson_43 : decode cX12_aPerson 43 = .ok (.iload_n 1, 1) := by decide +kernel
theorem dX12_aPerson_44 : decode cX12_aPerson 44 = .ok (.invokevirtual 213, 3) := by decide +kernel
theorem dX12_aPerson_47 : decode cX12_aPerson 47 = .ok (.ifCond .ne 5, 3) := by decide +kernel
theorem dX12_aPerson_50 : decode cX12_aPerson 50 = .ok (.iconst 0, 1) := by decide +kernel
theorem dX12_aPerson_51 : decode cX12_aPerson 51 = .ok (.ireturn, 1) := by decide +kernel
theorem dX12_aPerson_52 : decode cX12_aPerson 52 = .ok (.aload_n 0, 1) := by decide +kernel
theorem dX12_aPerson_53 : decode cX12_aPerson 53 = .ok (.getfield 7, 3) := by decide +kernel
theorem dX12_aPerson_56 : decode cX12_aPerson 56 = .ok (.iload_n 1, 1) := by decide +kernel
theorem dX12_aPerson_57 : decode cX12_aPerson 57 = .ok (.iconst 1, 1) := by decide +kernel
theorem dX12_aPerson_58 : decode cX12_aPerson 58 = .ok (.iadd, 1) := by decide +kernel
theorem dX12_aPerson_59 : decode cX12_aPerson 59 = .ok (.iconst 0, 1) := by decide +kernel
theorem dX12_aPerson_60 : decode cX12_aPerson 60 = .ok (.iastore, 1) := by decide +kernel
theorem dX12_aPerson_61 : decode cX12_aPerson 61 = .ok (.aload_n 0, 1) := by decide +kernel
theorem dX12_aPerson_62 : decode cX12_aPerson 62 = .ok (.getfield 7, 3) := by decide +kernel
theorem dX12_aPerson_65 : decode cX12_aPerson 65 = .ok (.iload_n 1, 1) := by decide +kernel
theorem dX12_aPerson_66 : decode cX12_aPerson 66 = .ok (.iconst 2, 1) := by decide +kernel
theorem dX12_aPerson_67 : decode cX12_aPerson 67 = .ok (.iadd, 1) := by decide +kernel
theorem dX12_aPerson_68 : decode cX12_aPerson 68 = .ok (.iconst 0, 1) := by decide +kernel
theorem dX12_aPerson_69 : decode cX12_aPerson 69 = .ok (.iastore, 1) := by decide +kernel
theorem dX12_aPerson_70 : decode cX12_aPerson 70 = .ok (.aload_n 0, 1) := by decide +kernel
theorem dX12_aPerson_71 : decode cX12_aPerson 71 = .ok (.bipush 13, 2) := by decide +kernel
theorem dX12_aPerson_73 : decode cX12_aPerson 73 = .ok (.invokevirtual 216, 3) := by decide +kernel
theorem dX12_aPerson_76 : decode cX12_aPerson 76 = .ok (.ifCond .eq 18, 3) := by decide +kernel
theorem dX12_aPerson_79 : decode cX12_aPerson 79 = .ok (.aload_n 0, 1) := by decide +kernel
theorem dX12_aPerson_80 : decode cX12_aPerson 80 = .ok (.iload_n 1, 1) := by decide +kernel
theorem dX12_aPerson_81 : decode cX12_aPerson 81 = .ok (.iconst 1, 1) := by decide +kernel
theorem dX12_aPerson_82 : decode cX12_aPerson 82 = .ok (.iadd, 1) := by decide +kernel
theorem dX12_aPerson_83 : decode cX12_aPerson 83 = .ok (.iconst 0, 1) := by decide +kernel
theorem dX12_aPerson_84 : decode cX12_aPerson 84 = .ok (.bipush 9, 2) := by decide +kernel
theorem dX12_aPerson_86 : decode cX12_aPerson 86 = .ok (.invokevirtual 219, 3) := by decide +kernel
theorem dX12_aPerson_89 : decode cX12_aPerson 89 = .ok (.ifCond .ne 5, 3) := by decide +kernel
theorem dX12_aPerson_92 : decode cX12_aPerson 92 = .ok (.iconst 0, 1) := by decide +kernel
theorem dX12_aPerson_93 : decode cX12_aPerson 93 = .ok (.ireturn, 1) := by decide +kernel
theorem dX12_aPerson_94 : decode cX12_aPerson 94 = .ok (.aload_n 0, 1) := by decide +kernel
theorem dX12_aPerson_95 : decode cX12_aPerson 95 = .ok (.bipush 14, 2) := by decide +kernel
theorem dX12_aPerson_97 : decode cX12_aPerson 97 = .ok (.invokevirtual 216, 3) := by decide +kernel
theorem dX12_aPerson_100 : decode cX12_aPerson 100 = .ok (.istore_n 3, 1) := by decide +kernel
theorem dX12_aPerson_101 : decode cX12_aPerson 101 = .ok (.iload_n 3, 1) := by decide +kernel
theorem dX12_aPerson_102 : decode cX12_aPerson 102 = .ok (.ifCond .eq 95, 3) := by decide +kernel
theorem dX12_aPerson_105 : decode cX12_aPerson 105 = .ok (.aload_n 0, 1) := by decide +kernel
theorem dX12_aPerson_106 : decode cX12_aPerson 106 = .ok (.ldc 186, 2) := by decide +kernel
theorem dX12_aPerson_108 : decode cX12_aPerson 108 = .ok (.invokevirtual 195, 3) := by decide +kernel
theorem dX12_aPerson_111 : decode cX12_aPerson 111 = .ok (.ifCond .eq 86, 3) := by decide +kernel
theorem dX12_aPerson_114 : decode cX12_aPerson 114 = .ok (.aload_n 0, 1) := by decide +kernel
theorem dX12_aPerson_115 : decode cX12_aPerson 115 = .ok (.bipush 83, 2) := by decide +kernel
theorem dX12_aPerson_117 : decode cX12_aPerson 117 = .ok (.aload_n 0, 1) := by decide +kernel
theorem dX12_aPerson_118 : decode cX12_aPerson 118 = .ok (.getfield 7, 3) := by decide +kernel
theorem dX12_aPerson_121 : decode cX12_aPerson 121 = .ok (.sipush 2018, 3) := by decide +kernel
theorem dX12_aPerson_124 : decode cX12_aPerson 124 = .ok (.iaload, 1) := by decide +kernel
theorem dX12_aPerson_125 : decode cX12_aPerson 125 = .ok (.invokevirtual 188, 3) := by decide +kernel
theorem dX12_aPerson_128 : decode cX12_aPerson 128 = .ok (.istore 4, 2) := by decide +kernel
theorem dX12_aPerson_130 : decode cX12_aPerson 130 = .ok (.iload 4, 2) := by decide +kernel
theorem dX12_aPerson_132 : decode cX12_aPerson 132 = .ok (.iconst (-1), 1) := by decide +kernel
theorem dX12_aPerson_133 : decode cX12_aPerson 133 = .ok (.if_icmp .eq 26, 3) := by decide +kernel
theorem dX12_aPerson_136 : decode cX12_aPerson 136 = .ok (.aload_n 0, 1) := by decide +kernel
theorem dX12_aPerson_137 : decode cX12_aPerson 137 = .ok (.aload_n 0, 1) := by decide +kernel
theorem dX12_aPerson_138 : decode cX12_aPerson 138 = .ok (.getfield 7, 3) := by decide +kernel
theorem dX12_aPerson_141 : decode cX12_aPerson 141 = .ok (.iload_n 1, 1) := by decide +kernel
theorem dX12_aPerson_142 : decode cX12_aPerson 142 = .ok (.iconst 2, 1) := by decide +kernel
theorem dX12_aPerson_143 : decode cX12_aPerson 143 = .ok (.iadd, 1) := by decide +kernel
theorem dX12_aPerson_144 : decode cX12_aPerson 144 = .ok (.iaload, 1) := by decide +kernel
theorem dX12_aPerson_145 : decode cX12_aPerson 145 = .ok (.iload 4, 2) := by decide +kernel
theorem dX12_aPerson_147 : decode cX12_aPerson 147 = .ok (.invokevirtual 241, 3) := by decide +kernel
theorem dX12_aPerson_150 : decode cX12_aPerson 150 = .ok (.ifCond .eq 9, 3) := by decide +kernel
theorem dX12_aPerson_153 : decode cX12_aPerson 153 = .ok (.aload_n 0, 1) := by decide +kernel
theorem dX12_aPerson_154 : decode cX12_aPerson 154 = .ok (.iconst 5, 1) := by decide +kernel
theorem dX12_aPerson_155 : decode cX12_aPerson 155 = .ok (.invokevirtual 175, 3) := by decide +kernel
theorem dX12_aPerson_158 : decode cX12_aPerson 158 = .ok (.ireturn, 1) := by decide +kernel
theorem dX12_aPerson_159 : decode cX12_aPerson 159 = .ok (.aload_n 0, 1) := by decide +kernel
theorem dX12_aPerson_160 : decode cX12_aPerson 160 = .ok (.bipush 83, 2) := by decide +kernel
theorem dX12_aPerson_162 : decode cX12_aPerson 162 = .ok (.aload_n 0, 1) := by decide +kernel
theorem dX12_aPerson_163 : decode cX12_aPerson 163 = .ok (.getfield 7, 3) := by decide +kernel
theorem dX12_aPerson_166 : decode cX12_aPerson 166 = .ok (.sipush 2018, 3) := by decide +kernel
theorem dX12_aPerson_169 : decode cX12_aPerson 169 = .ok (.iaload, 1) := by decide +kernel
theorem dX12_aPerson_170 : decode cX12_aPerson 170 = .ok (.iload_n 2, 1) := by decide +kernel
theorem dX12_aPerson_171 : decode cX12_aPerson 171 = .ok (.invokevirtual 203, 3) := by decide +kernel
theorem dX12_aPerson_174 : decode cX12_aPerson 174 = .ok (.ifCond .ne 5, 3) := by decide +kernel
theorem dX12_aPerson_177 : decode cX12_aPerson 177 = .ok (.iconst 0, 1) := by decide +kernel
theorem dX12_aPerson_178 : decode cX12_aPerson 178 = .ok (.ireturn, 1) := by decide +kernel
theorem dX12_aPerson_179 : decode cX12_aPerson 179 = .ok (.aload_n 0, 1) := by decide +kernel
theorem dX12_aPerson_180 : decode cX12_aPerson 180 = .ok (.getfield 7, 3) := by decide +kernel
theorem dX12_aPerson_183 : decode cX12_aPerson 183 = .ok (.iload_n 1, 1) := by decide +kernel
theorem dX12_aPerson_184 : decode cX12_aPerson 184 = .ok (.iconst 2, 1) := by decide +kernel
theorem dX12_aPerson_185 : decode cX12_aPerson 185 = .ok (.iadd, 1) := by decide +kernel
theorem dX12_aPerson_186 : decode cX12_aPerson 186 = .ok (.dup2, 1) := by decide +kernel
theorem dX12_aPerson_187 : decode cX12_aPerson 187 = .ok (.iaload, 1) := by decide +kernel
theorem dX12_aPerson_188 : decode cX12_aPerson 188 = .ok (.iconst 1, 1) := by decide +kernel
theorem dX12_aPerson_189 : decode cX12_aPerson 189 = .ok (.iload 4, 2) := by decide +kernel
theorem dX12_aPerson_191 : decode cX12_aPerson 191 = .ok (.ishl, 1) := by decide +kernel
theorem dX12_aPerson_192 : decode cX12_aPerson 192 = .ok (.ior, 1) := by decide +kernel
theorem dX12_aPerson_193 : decode cX12_aPerson 193 = .ok (.iastore, 1) := by decide +kernel
theorem dX12_aPerson_194 : decode cX12_aPerson 194 = .ok (.goto (-93), 3) := by decide +kernel
theorem dX12_aPerson_197 : decode cX12_aPerson 197 = .ok (.aload_n 0, 1) := by decide +kernel
theorem dX12_aPerson_198 : decode cX12_aPerson 198 = .ok (.getfield 7, 3) := by decide +kernel
theorem dX12_aPerson_201 : decode cX12_aPerson 201 = .ok (.sipush 2019, 3) := by decide +kernel
theorem dX12_aPerson_204 : decode cX12_aPerson 204 = .ok (.dup2, 1) := by decide +kernel
theorem dX12_aPerson_205 : decode cX12_aPerson 205 = .ok (.iaload, 1) := by decide +kernel
theorem dX12_aPerson_206 : decode cX12_aPerson 206 = .ok (.iconst 1, 1) := by decide +kernel
theorem dX12_aPerson_207 : decode cX12_aPerson 207 = .ok (.iadd, 1) := by decide +kernel
theorem dX12_aPerson_208 : decode cX12_aPerson 208 = .ok (.iastore, 1) := by decide +kernel
theorem dX12_aPerson_209 : decode cX12_aPerson 209 = .ok (.iconst 1, 1) := by decide +kernel
theorem dX12_aPerson_210 : decode cX12_aPerson 210 = .ok (.ireturn, 1) := by decide +kernel
set_option maxRecDepth 100000 in
def f_X12_aPerson_50  (μ : dtM) : Option (Int32 × dtM) :=
  opRet (0 : Int32) μ
set_option maxRecDepth 100000 in
def f_X12_aPerson_197 (l0 : Nat) (μ : dtM) : Option (Int32 × dtM) :=
  (opGR 12 0 μ l0).bind fun x1 => (opLI 1 μ x1 (2019 : Int32)).bind fun x3 => (opSI μ x1 (2019 : Int32) (x3 + (1 : Int32))).bind fun μ5 => opRet (1 : Int32) μ5
set_option maxRecDepth 100000 in
def f_X12_aPerson_159 (k101 : Nat → Int32 → Int32 → Int32 → dtM → Option (Int32 × dtM)) (l0 : Nat) (l1 : Int32) (l2 : Int32) (l3 : Int32) (l4 : Int32) (μ : dtM) : Option (Int32 × dtM) :=
  (opGR 12 0 μ l0).bind fun x1 => (opLI 1 μ x1 (2018 : Int32)).bind fun x3 => (opRv 12 μ l0).bind fun _ => opCall (f_X12_oldOne l0 (83 : Int32) x3 l2 μ) fun x8 μ6 => if x8 = 0 then (opRet (0 : Int32) μ6) else ((opGR 12 0 μ6 l0).bind fun x12 => (opLI 1 μ6 x12 (l1 + (2 : Int32))).bind fun x14 => (opSI μ6 x12 (l1 + (2 : Int32)) (x14 ||| ((1 : Int32) <<< (l4 &&& 31)))).bind fun μ16 => k101 l0 l1 l2 l3 μ16)
set_option maxRecDepth 100000 in
def f_X12_aPerson_101 : Nat → Nat → Int32 → Int32 → Int32 → dtM → Option (Int32 × dtM)
  | 0, _, _, _, _, _ => none
  | n + 1, l0, l1, l2, l3, μ =>
    if l3 = 0 then (f_X12_aPerson_197 l0 μ) else ((opRv 12 μ l0).bind fun _ => opCall (f_X12_isName l0 1000003 μ) fun x7 μ5 => if x7 = 0 then (f_X12_aPerson_197 l0 μ5) else ((opGR 12 0 μ5 l0).bind fun x11 => (opLI 1 μ5 x11 (2018 : Int32)).bind fun x13 => (opRv 12 μ5 l0).bind fun _ => opCall (f_X12_findHere l0 (83 : Int32) x13 μ5) fun x18 μ16 => if x18 = (-1 : Int32) then (f_X12_aPerson_159 (f_X12_aPerson_101 n) l0 l1 l2 l3 x18 μ16) else ((opGR 12 0 μ16 l0).bind fun x22 => (opLI 1 μ16 x22 (l1 + (2 : Int32))).bind fun x24 => (opRv 12 μ16 l0).bind fun _ => opCall (f_X12_isIn l0 x24 x18 μ16) fun x29 μ27 => if x29 = 0 then (f_X12_aPerson_159 (f_X12_aPerson_101 n) l0 l1 l2 l3 x18 μ27) else ((opRv 12 μ27 l0).bind fun _ => opCall (f_X12_fails l0 (5 : Int32) μ27) fun x36 μ34 => opRet x36 μ34))))
set_option maxRecDepth 100000 in
def f_X12_aPerson_94 (l0 : Nat) (l1 : Int32) (l2 : Int32) (μ : dtM) : Option (Int32 × dtM) :=
  (opRv 12 μ l0).bind fun _ => opCall (f_X12_isThere l0 (14 : Int32) μ) fun x4 μ2 => f_X12_aPerson_101 dtFuel l0 l1 l2 x4 μ2
set_option maxRecDepth 100000 in
def f_X12_aPerson (p0 : Nat) (μ : dtM) : Option (Int32 × dtM) :=
  (opGR 12 0 μ p0).bind fun x1 => (opLI 1 μ x1 (2019 : Int32)).bind fun x3 => opCall (f_X12_personRow x3 μ) fun x7 μ5 => (some ((2016 : Int32) + x7)).bind fun x8 => (opRv 12 μ5 p0).bind fun _ => opCall (f_X12_newOne p0 (3 : Int32) (5 : Int32) (14 : Int32) μ5) fun x13 μ11 => if x13 = 0 then (f_X12_aPerson_50 μ11) else ((opRv 12 μ11 p0).bind fun _ => opCall (f_X12_wantWord p0 1000003 (12 : Int32) μ11) fun x20 μ18 => if x20 = 0 then (f_X12_aPerson_50 μ18) else ((opRv 12 μ18 p0).bind fun _ => opCall (f_X12_newRoomTo p0 x8 μ18) fun x27 μ25 => if x27 = 0 then (f_X12_aPerson_50 μ25) else ((opGR 12 0 μ25 p0).bind fun x31 => (opSI μ25 x31 (x8 + (1 : Int32)) (0 : Int32)).bind fun μ33 => (opGR 12 0 μ33 p0).bind fun x35 => (opSI μ33 x35 (x8 + (2 : Int32)) (0 : Int32)).bind fun μ37 => (opRv 12 μ37 p0).bind fun _ => opCall (f_X12_isThere p0 (13 : Int32) μ37) fun x42 μ40 => if x42 = 0 then (f_X12_aPerson_94 p0 x8 (2512 : Int32) μ40) else ((opRv 12 μ40 p0).bind fun _ => opCall (f_X12_number p0 (x8 + (1 : Int32)) (0 : Int32) (9 : Int32) μ40) fun x49 μ47 => if x49 = 0 then (opRet (0 : Int32) μ47) else (f_X12_aPerson_94 p0 x8 (2512 : Int32) μ47)))))
set_option maxRecDepth 100000 in
theorem c_X12_aPerson_50 {r : Int32} {F : dtM}  (μ : dtM) (h : f_X12_aPerson_50  μ = some (r, F)) : dtW yX12_aPerson cX12_aPerson 5 (some .boolean) 10 (some (.int r)) F 50 [] [] μ := by
  rw [f_X12_aPerson_50] at h
  refine dr_iconst (0 : Int32) dX12_aPerson_50 (by decide) ?_
  obtain ⟨hz, rfl, rfl⟩ := dtRet h
  exact dr_ireturn dX12_aPerson_51 (dtNz hz)
set_option maxRecDepth 100000 in
theorem c_X12_aPerson_197 {r : Int32} {F : dtM} (l0 : Nat) (μ : dtM) (h : f_X12_aPerson_197 l0 μ = some (r, F)) : dtW yX12_aPerson cX12_aPerson 5 (some .boolean) 10 (some (.int r)) F 197 [some (.ref l0)] [] μ := by
  rw [f_X12_aPerson_197] at h
  refine dr_aload_n l0 dX12_aPerson_197 rfl ?_
  obtain ⟨x1, e2, h⟩ := dtBind h
  refine dr_getR x1 dX12_aPerson_198 fl_RX12_7 e2 ?_
  refine dr_sipush (2019 : Int32) dX12_aPerson_201 (by decide) ?_
  refine dr_dup2 dX12_aPerson_204 rfl rfl ?_
  obtain ⟨x3, e4, h⟩ := dtBind h
  refine dr_iaload x3 dX12_aPerson_205 e4 ?_
  refine dr_iconst (1 : Int32) dX12_aPerson_206 (by decide) ?_
  refine dr_iadd dX12_aPerson_207 ?_
  obtain ⟨μ5, e6, h⟩ := dtBind h
  refine dr_iastore μ5 dX12_aPerson_208 e6 ?_
  refine dr_iconst (1 : Int32) dX12_aPerson_209 (by decide) ?_
  obtain ⟨hz, rfl, rfl⟩ := dtRet h
  exact dr_ireturn dX12_aPerson_210 (dtNz hz)
set_option maxRecDepth 100000 in
theorem c_X12_aPerson_159 {r : Int32} {F : dtM} (k101 : Nat → Int32 → Int32 → Int32 → dtM → Option (Int32 × dtM)) (hk101 : ∀ (l0 : Nat) (l1 : Int32) (l2 : Int32) (l3 : Int32) (μ : dtM), k101 l0 l1 l2 l3 μ = some (r, F) → dtW yX12_aPerson cX12_aPerson 5 (some .boolean) 10 (some (.int r)) F 101 [some (.ref l0), some (.int l1), some (.int l2), some (.int l3)] [] μ) (l0 : Nat) (l1 : Int32) (l2 : Int32) (l3 : Int32) (l4 : Int32) (μ : dtM) (h : f_X12_aPerson_159 k101 l0 l1 l2 l3 l4 μ = some (r, F)) : dtW yX12_aPerson cX12_aPerson 5 (some .boolean) 10 (some (.int r)) F 159 [some (.ref l0), some (.int l1), some (.int l2), some (.int l3), some (.int l4)] [] μ := by
  rw [f_X12_aPerson_159] at h
  refine dr_aload_n l0 dX12_aPerson_159 rfl ?_
  refine dr_bipush (83 : Int32) dX12_aPerson_160 (by decide) ?_
  refine dr_aload_n l0 dX12_aPerson_162 rfl ?_
  obtain ⟨x1, e2, h⟩ := dtBind h
  refine dr_getR x1 dX12_aPerson_163 fl_RX12_7 e2 ?_
  refine dr_sipush (2018 : Int32) dX12_aPerson_166 (by decide) ?_
  obtain ⟨x3, e4, h⟩ := dtBind h
  refine dr_iaload x3 dX12_aPerson_169 e4 ?_
  refine dr_iload_n l2 dX12_aPerson_170 rfl ?_
  obtain ⟨_, hb5, h⟩ := dtBind h
  obtain ⟨x8, μ6, e7, h⟩ := dtCall h
  refine dr_callV_i (S0 := []) [.int (83 : Int32), .int x3, .int l2] x8 μ6 dX12_aPerson_171 (c_X12_oldOne l0 (83 : Int32) x3 l2 μ e7) mf_X12_oldOne wt_1614 ws_73 wt_1612 rfl (dtRv hb5) (by decide) rfl (Nat.le_of_ble_eq_true rfl) (Nat.le_of_ble_eq_true rfl) rfl ?_
  obtain ⟨ht10, hf11⟩ := dtIte h
  refine dr_if_ne 179 dX12_aPerson_174 (by decide) (fun hc9 => ?_) (fun hc9 => ?_)
  · have h := hf11 hc9
    refine dr_aload_n l0 dX12_aPerson_179 rfl ?_
    obtain ⟨x12, e13, h⟩ := dtBind h
    refine dr_getR x12 dX12_aPerson_180 fl_RX12_7 e13 ?_
    refine dr_iload_n l1 dX12_aPerson_183 rfl ?_
    refine dr_iconst (2 : Int32) dX12_aPerson_184 (by decide) ?_
    refine dr_iadd dX12_aPerson_185 ?_
    refine dr_dup2 dX12_aPerson_186 rfl rfl ?_
    obtain ⟨x14, e15, h⟩ := dtBind h
    refine dr_iaload x14 dX12_aPerson_187 e15 ?_
    refine dr_iconst (1 : Int32) dX12_aPerson_188 (by decide) ?_
    refine dr_iload l4 dX12_aPerson_189 rfl ?_
    refine dr_ishl dX12_aPerson_191 ?_
    refine dr_ior dX12_aPerson_192 ?_
    obtain ⟨μ16, e17, h⟩ := dtBind h
    refine dr_iastore μ16 dX12_aPerson_193 e17 ?_
    refine dr_goto 101 dX12_aPerson_194 (by decide) ?_
    refine dr_mask [true, true, true, true] [some (.ref l0), some (.int l1), some (.int l2), some (.int l3)] rfl ?_
    exact hk101 l0 l1 l2 l3 μ16 h
  · have h := ht10 hc9
    refine dr_iconst (0 : Int32) dX12_aPerson_177 (by decide) ?_
    obtain ⟨hz, rfl, rfl⟩ := dtRet h
    exact dr_ireturn dX12_aPerson_178 (dtNz hz)
set_option maxRecDepth 100000 in
theorem c_X12_aPerson_101 {r : Int32} {F : dtM} : ∀ (n : Nat) (l0 : Nat) (l1 : Int32) (l2 : Int32) (l3 : Int32) (μ : dtM), f_X12_aPerson_101 n l0 l1 l2 l3 μ = some (r, F) → dtW yX12_aPerson cX12_aPerson 5 (some .boolean) 10 (some (.int r)) F 101 [some (.ref l0), some (.int l1), some (.int l2), some (.int l3)] [] μ := by
  intro n
  induction n with
  | zero => intro l0 l1 l2 l3 μ h; cases h
  | succ n ih =>
    intro l0 l1 l2 l3 μ h
    have h := (show f_X12_aPerson_101 (n + 1) l0 l1 l2 l3 μ = some _ from h)
    rw [f_X12_aPerson_101] at h
    refine dr_iload_n l3 dX12_aPerson_101 rfl ?_
    obtain ⟨ht2, hf3⟩ := dtIte h
    refine dr_if_eq 197 dX12_aPerson_102 (by decide) (fun hc1 => ?_) (fun hc1 => ?_)
    · have h := ht2 hc1
      refine dr_mask [true] [some (.ref l0)] rfl ?_
      exact c_X12_aPerson_197 l0 μ h
    · have h := hf3 hc1
      refine dr_aload_n l0 dX12_aPerson_105 rfl ?_
      refine dr_ldcS1 dX12_aPerson_106 rfl ?_
      obtain ⟨_, hb4, h⟩ := dtBind h
      obtain ⟨x7, μ5, e6, h⟩ := dtCall h
      refine dr_callV_i (S0 := []) [.ref 1000003] x7 μ5 dX12_aPerson_108 (c_X12_isName l0 1000003 μ e6) mf_X12_isName wt_1587 ws_67 wt_1585 rfl (dtRv hb4) (by decide) rfl (Nat.le_of_ble_eq_true rfl) (Nat.le_of_ble_eq_true rfl) rfl ?_
      obtain ⟨ht9, hf10⟩ := dtIte h
      refine dr_if_eq 197 dX12_aPerson_111 (by decide) (fun hc8 => ?_) (fun hc8 => ?_)
      · have h := ht9 hc8
        refine dr_mask [true] [some (.ref l0)] rfl ?_
        exact c_X12_aPerson_197 l0 μ5 h
      · have h := hf10 hc8
        refine dr_aload_n l0 dX12_aPerson_114 rfl ?_
        refine dr_bipush (83 : Int32) dX12_aPerson_115 (by decide) ?_
        refine dr_aload_n l0 dX12_aPerson_117 rfl ?_
        obtain ⟨x11, e12, h⟩ := dtBind h
        refine dr_getR x11 dX12_aPerson_118 fl_RX12_7 e12 ?_
        refine dr_sipush (2018 : Int32) dX12_aPerson_121 (by decide) ?_
        obtain ⟨x13, e14, h⟩ := dtBind h
        refine dr_iaload x13 dX12_aPerson_124 e14 ?_
        obtain ⟨_, hb15, h⟩ := dtBind h
        obtain ⟨x18, μ16, e17, h⟩ := dtCall h
        refine dr_callV_i (S0 := []) [.int (83 : Int32), .int x13] x18 μ16 dX12_aPerson_125 (c_X12_findHere l0 (83 : Int32) x13 μ5 e17) mf_X12_findHere wt_1595 ws_69 wt_1593 rfl (dtRv hb15) (by decide) rfl (Nat.le_of_ble_eq_true rfl) (Nat.le_of_ble_eq_true rfl) rfl ?_
        refine dr_istore [some (.ref l0), some (.int l1), some (.int l2), some (.int l3), some (.int x18)] dX12_aPerson_128 rfl rfl rfl ?_
        refine dr_iload x18 dX12_aPerson_130 rfl ?_
        refine dr_iconst (-1 : Int32) dX12_aPerson_132 (by decide) ?_
        obtain ⟨ht20, hf21⟩ := dtIte h
        refine dr_icmp_eq 159 dX12_aPerson_133 (by decide) (fun hc19 => ?_) (fun hc19 => ?_)
        · have h := ht20 hc19
          exact c_X12_aPerson_159 (f_X12_aPerson_101 n) ih l0 l1 l2 l3 x18 μ16 h
        · have h := hf21 hc19
          refine dr_aload_n l0 dX12_aPerson_136 rfl ?_
          refine dr_aload_n l0 dX12_aPerson_137 rfl ?_
          obtain ⟨x22, e23, h⟩ := dtBind h
          refine dr_getR x22 dX12_aPerson_138 fl_RX12_7 e23 ?_
          refine dr_iload_n l1 dX12_aPerson_141 rfl ?_
          refine dr_iconst (2 : Int32) dX12_aPerson_142 (by decide) ?_
          refine dr_iadd dX12_aPerson_143 ?_
          obtain ⟨x24, e25, h⟩ := dtBind h
          refine dr_iaload x24 dX12_aPerson_144 e25 ?_
          refine dr_iload x18 dX12_aPerson_145 rfl ?_
          obtain ⟨_, hb26, h⟩ := dtBind h
          obtain ⟨x29, μ27, e28, h⟩ := dtCall h
          refine dr_callV_i (S0 := []) [.int x24, .int x18] x29 μ27 dX12_aPerson_147 (c_X12_isIn l0 x24 x18 μ16 e28) mf_X12_isIn wt_1656 ws_82 wt_1654 rfl (dtRv hb26) (by decide) rfl (Nat.le_of_ble_eq_true rfl) (Nat.le_of_ble_eq_true rfl) rfl ?_
          obtain ⟨ht31, hf32⟩ := dtIte h
          refine dr_if_eq 159 dX12_aPerson_150 (by decide) (fun hc30 => ?_) (fun hc30 => ?_)
          · have h := ht31 hc30
            exact c_X12_aPerson_159 (f_X12_aPerson_101 n) ih l0 l1 l2 l3 x18 μ27 h
          · have h := hf32 hc30
            refine dr_aload_n l0 dX12_aPerson_153 rfl ?_
            refine dr_iconst (5 : Int32) dX12_aPerson_154 (by decide) ?_
            obtain ⟨_, hb33, h⟩ := dtBind h
            obtain ⟨x36, μ34, e35, h⟩ := dtCall h
            refine dr_callV_i (S0 := []) [.int (5 : Int32)] x36 μ34 dX12_aPerson_155 (c_X12_fails l0 (5 : Int32) μ27 e35) mf_X12_fails wt_1567 ws_62 wt_1565 rfl (dtRv hb33) (by decide) rfl (Nat.le_of_ble_eq_true rfl) (Nat.le_of_ble_eq_true rfl) rfl ?_
            obtain ⟨hz, rfl, rfl⟩ := dtRet h
            exact dr_ireturn dX12_aPerson_158 (dtNz hz)
set_option maxRecDepth 100000 in
theorem c_X12_aPerson_94 {r : Int32} {F : dtM} (l0 : Nat) (l1 : Int32) (l2 : Int32) (μ : dtM) (h : f_X12_aPerson_94 l0 l1 l2 μ = some (r, F)) : dtW yX12_aPerson cX12_aPerson 5 (some .boolean) 10 (some (.int r)) F 94 [some (.ref l0), some (.int l1), some (.int l2)] [] μ := by
  rw [f_X12_aPerson_94] at h
  refine dr_aload_n l0 dX12_aPerson_94 rfl ?_
  refine dr_bipush (14 : Int32) dX12_aPerson_95 (by decide) ?_
  obtain ⟨_, hb1, h⟩ := dtBind h
  obtain ⟨x4, μ2, e3, h⟩ := dtCall h
  refine dr_callV_i (S0 := []) [.int (14 : Int32)] x4 μ2 dX12_aPerson_97 (c_X12_isThere l0 (14 : Int32) μ e3) mf_X12_isThere wt_1618 ws_74 wt_1616 rfl (dtRv hb1) (by decide) rfl (Nat.le_of_ble_eq_true rfl) (Nat.le_of_ble_eq_true rfl) rfl ?_
  refine dr_istore_n 3 [some (.ref l0), some (.int l1), some (.int l2), some (.int x4)] dX12_aPerson_100 rfl rfl rfl rfl ?_
  exact c_X12_aPerson_101 dtFuel l0 l1 l2 x4 μ2 h
set_option maxRecDepth 100000 in
theorem c_X12_aPerson {r : Int32} {F : dtM} (p0 : Nat) (μ : dtM) (h : f_X12_aPerson p0 μ = some (r, F)) : dtMet yX12_aPerson cX12_aPerson 5 (some .boolean) 10 [.ref p0] μ (some (.int r)) F := by
  refine dtMet.of (by decide +kernel) (Nat.le_of_ble_eq_true rfl) (show dtW yX12_aPerson cX12_aPerson 5 (some .boolean) 10 (some (.int r)) F 0 [some (.ref p0)] [] μ from ?_)
  rw [f_X12_aPerson] at h
  refine dr_sipush (2016 : Int32) dX12_aPerson_0 (by decide) ?_
  refine dr_aload_n p0 dX12_aPerson_3 rfl ?_
  obtain ⟨x1, e2, h⟩ := dtBind h
  refine dr_getR x1 dX12_aPerson_4 fl_RX12_7 e2 ?_
  refine dr_sipush (2019 : Int32) dX12_aPerson_7 (by decide) ?_
  obtain ⟨x3, e4, h⟩ := dtBind h
  refine dr_iaload x3 dX12_aPerson_10 e4 ?_
  obtain ⟨x7, μ5, e6, h⟩ := dtCall h
  refine dr_callS_i (S0 := [.int (2016 : Int32)]) [.int x3] x7 μ5 dX12_aPerson_11 (c_X12_personRow x3 μ e6) mf_X12_personRow wt_1652 wt_1651 rfl (Nat.le_of_ble_eq_true rfl) (Nat.le_of_ble_eq_true rfl) rfl ?_
  refine dr_iadd dX12_aPerson_14 ?_
  obtain ⟨x8, e9, h⟩ := dtBind h
  refine dr_nmi e9 ?_
  refine dr_istore_n 1 [some (.ref p0), some (.int x8)] dX12_aPerson_15 rfl rfl rfl rfl ?_
  refine dr_sipush (2512 : Int32) dX12_aPerson_16 (by decide) ?_
  refine dr_istore_n 2 [some (.ref p0), some (.int x8), some (.int (2512 : Int32))] dX12_aPerson_19 rfl rfl rfl rfl ?_
  refine dr_aload_n p0 dX12_aPerson_20 rfl ?_
  refine dr_iconst (3 : Int32) dX12_aPerson_21 (by decide) ?_
  refine dr_iconst (5 : Int32) dX12_aPerson_22 (by decide) ?_
  refine dr_bipush (14 : Int32) dX12_aPerson_23 (by decide) ?_
  obtain ⟨_, hb10, h⟩ := dtBind h
  obtain ⟨x13, μ11, e12, h⟩ := dtCall h
  refine dr_callV_i (S0 := []) [.int (3 : Int32), .int (5 : Int32), .int (14 : Int32)] x13 μ11 dX12_aPerson_25 (c_X12_newOne p0 (3 : Int32) (5 : Int32) (14 : Int32) μ5 e12) mf_X12_newOne wt_1579 ws_65 wt_1577 rfl (dtRv hb10) (by decide) rfl (Nat.le_of_ble_eq_true rfl) (Nat.le_of_ble_eq_true rfl) rfl ?_
  obtain ⟨ht15, hf16⟩ := dtIte h
  refine dr_if_eq 50 dX12_aPerson_28 (by decide) (fun hc14 => ?_) (fun hc14 => ?_)
  · have h := ht15 hc14
    refine dr_mask [] [] rfl ?_
    exact c_X12_aPerson_50 μ11 h
  · have h := hf16 hc14
    refine dr_aload_n p0 dX12_aPerson_31 rfl ?_
    refine dr_ldcS1 dX12_aPerson_32 rfl ?_
    refine dr_bipush (12 : Int32) dX12_aPerson_34 (by decide) ?_
    obtain ⟨_, hb17, h⟩ := dtBind h
    obtain ⟨x20, μ18, e19, h⟩ := dtCall h
    refine dr_callV_i (S0 := []) [.ref 1000003, .int (12 : Int32)] x20 μ18 dX12_aPerson_36 (c_X12_wantWord p0 1000003 (12 : Int32) μ11 e19) mf_X12_wantWord wt_1629 ws_76 wt_1627 rfl (dtRv hb17) (by decide) rfl (Nat.le_of_ble_eq_true rfl) (Nat.le_of_ble_eq_true rfl) rfl ?_
    obtain ⟨ht22, hf23⟩ := dtIte h
    refine dr_if_eq 50 dX12_aPerson_39 (by decide) (fun hc21 => ?_) (fun hc21 => ?_)
    · have h := ht22 hc21
      refine dr_mask [] [] rfl ?_
      exact c_X12_aPerson_50 μ18 h
    · have h := hf23 hc21
      refine dr_aload_n p0 dX12_aPerson_42 rfl ?_
      refine dr_iload_n x8 dX12_aPerson_43 rfl ?_
      obtain ⟨_, hb24, h⟩ := dtBind h
      obtain ⟨x27, μ25, e26, h⟩ := dtCall h
      refine dr_callV_i (S0 := []) [.int x8] x27 μ25 dX12_aPerson_44 (c_X12_newRoomTo p0 x8 μ18 e26) mf_X12_newRoomTo wt_1610 ws_72 wt_1608 rfl (dtRv hb24) (by decide) rfl (Nat.le_of_ble_eq_true rfl) (Nat.le_of_ble_eq_true rfl) rfl ?_
      obtain ⟨ht29, hf30⟩ := dtIte h
      refine dr_if_ne 52 dX12_aPerson_47 (by decide) (fun hc28 => ?_) (fun hc28 => ?_)
      · have h := hf30 hc28
        refine dr_aload_n p0 dX12_aPerson_52 rfl ?_
        obtain ⟨x31, e32, h⟩ := dtBind h
        refine dr_getR x31 dX12_aPerson_53 fl_RX12_7 e32 ?_
        refine dr_iload_n x8 dX12_aPerson_56 rfl ?_
        refine dr_iconst (1 : Int32) dX12_aPerson_57 (by decide) ?_
        refine dr_iadd dX12_aPerson_58 ?_
        refine dr_iconst (0 : Int32) dX12_aPerson_59 (by decide) ?_
        obtain ⟨μ33, e34, h⟩ := dtBind h
        refine dr_iastore μ33 dX12_aPerson_60 e34 ?_
        refine dr_aload_n p0 dX12_aPerson_61 rfl ?_
        obtain ⟨x35, e36, h⟩ := dtBind h
        refine dr_getR x35 dX12_aPerson_62 fl_RX12_7 e36 ?_
        refine dr_iload_n x8 dX12_aPerson_65 rfl ?_
        refine dr_iconst (2 : Int32) dX12_aPerson_66 (by decide) ?_
        refine dr_iadd dX12_aPerson_67 ?_
        refine dr_iconst (0 : Int32) dX12_aPerson_68 (by decide) ?_
        obtain ⟨μ37, e38, h⟩ := dtBind h
        refine dr_iastore μ37 dX12_aPerson_69 e38 ?_
        refine dr_aload_n p0 dX12_aPerson_70 rfl ?_
        refine dr_bipush (13 : Int32) dX12_aPerson_71 (by decide) ?_
        obtain ⟨_, hb39, h⟩ := dtBind h
        obtain ⟨x42, μ40, e41, h⟩ := dtCall h
        refine dr_callV_i (S0 := []) [.int (13 : Int32)] x42 μ40 dX12_aPerson_73 (c_X12_isThere p0 (13 : Int32) μ37 e41) mf_X12_isThere wt_1618 ws_74 wt_1616 rfl (dtRv hb39) (by decide) rfl (Nat.le_of_ble_eq_true rfl) (Nat.le_of_ble_eq_true rfl) rfl ?_
        obtain ⟨ht44, hf45⟩ := dtIte h
        refine dr_if_eq 94 dX12_aPerson_76 (by decide) (fun hc43 => ?_) (fun hc43 => ?_)
        · have h := ht44 hc43
          exact c_X12_aPerson_94 p0 x8 (2512 : Int32) μ40 h
        · have h := hf45 hc43
          refine dr_aload_n p0 dX12_aPerson_79 rfl ?_
          refine dr_iload_n x8 dX12_aPerson_80 rfl ?_
          refine dr_iconst (1 : Int32) dX12_aPerson_81 (by decide) ?_
          refine dr_iadd dX12_aPerson_82 ?_
          refine dr_iconst (0 : Int32) dX12_aPerson_83 (by decide) ?_
          refine dr_bipush (9 : Int32) dX12_aPerson_84 (by decide) ?_
          obtain ⟨_, hb46, h⟩ := dtBind h
          obtain ⟨x49, μ47, e48, h⟩ := dtCall h
          refine dr_callV_i (S0 := []) [.int (x8 + (1 : Int32)), .int (0 : Int32), .int (9 : Int32)] x49 μ47 dX12_aPerson_86 (c_X12_number p0 (x8 + (1 : Int32)) (0 : Int32) (9 : Int32) μ40 e48) mf_X12_number wt_1571 ws_63 wt_1569 rfl (dtRv hb46) (by decide) rfl (Nat.le_of_ble_eq_true rfl) (Nat.le_of_ble_eq_true rfl) rfl ?_
          obtain ⟨ht51, hf52⟩ := dtIte h
          refine dr_if_ne 94 dX12_aPerson_89 (by decide) (fun hc50 => ?_) (fun hc50 => ?_)
          · have h := hf52 hc50
            exact c_X12_aPerson_94 p0 x8 (2512 : Int32) μ47 h
          · have h := ht51 hc50
            refine dr_iconst (0 : Int32) dX12_aPerson_92 (by decide) ?_
            obtain ⟨hz, rfl, rfl⟩ := dtRet h
            exact dr_ireturn dX12_aPerson_93 (dtNz hz)
      · have h := ht29 hc28
        refine dr_mask [] [] rfl ?_
        exact c_X12_aPerson_50 μ25 h
/-! X12_housePart -/
theorem dX12_housePart_0 : decode cX12_housePart 0 = .ok (.aload_n 0, 1) := by decide +kernel
theorem dX12_housePart_1 : decode cX12_housePart 1 = .ok (.ldc 186, 2) := by decide +kernel
theorem dX12_housePart_3 : decode cX12_housePart 3 = .ok (.invokevirtual 178, 3) := by decide +kernel
theorem dX12_housePart_6 : decode cX12_housePart 6 = .ok (.istore_n 1, 1) := by decide +kernel
theorem dX12_housePart_7 : decode cX12_housePart 7 = .ok (.iload_n 1, 1) := by decide +kernel
theorem dX12_housePart_8 : decode cX12_housePart 8 = .ok (.ifCond .lt 8, 3) := by decide +kernel
theorem dX12_housePart_11 : decode cX12_housePart 11 = .ok (.iload_n 1, 1) := by decide +kernel
theorem dX12_housePart_12 : decode cX12_housePart 12 = .ok (.iconst 4, 1) := by decide +kernel
theorem dX12_housePart_13 : decode cX12_housePart 13 = .ok (.if_icmp .le 9, 3) := by decide +kernel
theorem dX12_housePart_16 : decode cX12_housePart 16 = .ok (.aload_n 0, 1) := by decide +kernel
theorem dX12_housePart_17 : decode cX12_housePart 17 = .ok (.iconst 2, 1) := by decide +kernel
theorem dX12_housePart_18 : decode cX12_housePart 18 = .ok (.invokevirtual 175, 3) := by decide +kernel
theorem dX12_housePart_21 : decode cX12_housePart 21 = .ok (.ireturn, 1) := by decide +kernel
theorem dX12_housePart_22 : decode cX12_housePart 22 = .ok (.iload_n 1, 1) := by decide +kernel
theorem dX12_housePart_23 : decode cX12_housePart 23 = .ok (.ifCond .ne 17, 3) := by decide +kernel
theorem dX12_housePart_26 : decode cX12_housePart 26 = .ok (.aload_n 0, 1) := by decide +kernel
theorem dX12_housePart_27 : decode cX12_housePart 27 = .ok (.getfield 244, 3) := by decide +kernel
theorem dX12_housePart_30 : decode cX12_housePart 30 = .ok (.iconst 1, 1) := by decide +kernel
theorem dX12_housePart_31 : decode cX12_housePart 31 = .ok (.if_icmp .ne 9, 3) := by decide +kernel
theorem dX12_housePart_34 : decode cX12_housePart 34 = .ok (.aload_n 0, 1) := by decide +kernel
theorem dX12_housePart_35 : decode cX12_housePart 35 = .ok (.iconst 5, 1) := by decide +kernel
theorem dX12_housePart_36 : decode cX12_housePart 36 = .ok (.invokevirtual 175, 3) := by decide +kernel
theorem dX12_housePart_39 : decode cX12_housePart 39 = .ok (.ireturn, 1) := by decide +kernel
theorem dX12_housePart_40 : decode cX12_housePart 40 = .ok (.iload_n 1, 1) := by decide +kernel
theorem dX12_housePart_41 : decode cX12_housePart 41 = .ok (.ifCond .ne 12, 3) := by decide +kernel
theorem dX12_housePart_44 : decode cX12_housePart 44 = .ok (.aload_n 0, 1) := by decide +kernel
theorem dX12_housePart_45 : decode cX12_housePart 45 = .ok (.iconst 1, 1) := by decide +kernel
theorem dX12_housePart_46 : decode cX12_housePart 46 = .ok (.putfield 244, 3) := by decide +kernel
theorem dX12_housePart_49 : decode cX12_housePart 49 = .ok (.aload_n 0, 1) := by decide +kernel
theorem dX12_housePart_50 : decode cX12_housePart 50 = .ok (.invokevirtual 169, 3) := by decide +kernel
theorem dX12_housePart_53 : decode cX12_housePart 53 = .ok (.iload_n 1, 1) := by decide +kernel
theorem dX12_housePart_54 : decode cX12_housePart 54 = .ok (.tableswitch 68 0 3 #[30, 44, 52, 60], 30) := by decide +kernel
theorem dX12_housePart_84 : decode cX12_housePart 84 = .ok (.aload_n 0, 1) := by decide +kernel
theorem dX12_housePart_85 : decode cX12_housePart 85 = .ok (.sipush 2020, 3) := by decide +kernel
theorem dX12_housePart_88 : decode cX12_housePart 88 = .ok (.iconst 0, 1) := by decide +kernel
theorem dX12_housePart_89 : decode cX12_housePart 89 = .ok (.bipush 16, 2) := by decide +kernel
theorem dX12_housePart_91 : decode cX12_housePart 91 = .ok (.invokevirtual 219, 3) := by decide +kernel
theorem dX12_housePart_94 : decode cX12_housePart 94 = .ok (.istore_n 2, 1) := by decide +kernel
theorem dX12_housePart_95 : decode cX12_housePart 95 = .ok (.goto 32, 3) := by decide +kernel
theorem dX12_housePart_98 : decode cX12_housePart 98 = .ok (.aload_n 0, 1) := by decide +kernel
theorem dX12_housePart_99 : decode cX12_housePart 99 = .ok (.invokevirtual 247, 3) := by decide +kernel
theorem dX12_housePart_102 : decode cX12_housePart 102 = .ok (.istore_n 2, 1) := by decide +kernel
theorem dX12_housePart_103 : decode cX12_housePart 103 = .ok (.goto 24, 3) := by decide +kernel
theorem dX12_housePart_106 : decode cX12_housePart 106 = .ok (.aload_n 0, 1) := by decide +kernel
theorem dX12_housePart_107 : decode cX12_housePart 107 = .ok (.invokevirtual 250, 3) := by decide +kernel
theorem dX12_housePart_110 : decode cX12_housePart 110 = .ok (.istore_n 2, 1) := by decide +kernel
theorem dX12_housePart_111 : decode cX12_housePart 111 = .ok (.goto 16, 3) := by decide +kernel
theorem dX12_housePart_114 : decode cX12_housePart 114 = .ok (.aload_n 0, 1) := by decide +kernel
theorem dX12_housePart_115 : decode cX12_housePart 115 = .ok (.invokevirtual 253, 3) := by decide +kernel
theorem dX12_housePart_118 : decode cX12_housePart 118 = .ok (.istore_n 2, 1) := by decide +kernel
theorem dX12_housePart_119 : decode cX12_housePart 119 = .ok (.goto 8, 3) := by decide +kernel
theorem dX12_housePart_122 : decode cX12_housePart 122 = .ok (.aload_n 0, 1) := by decide +kernel
theorem dX12_housePart_123 : decode cX12_housePart 123 = .ok (.invokevirtual 256, 3) := by decide +kernel
theorem dX12_housePart_126 : decode cX12_housePart 126 = .ok (.istore_n 2, 1) := by decide +kernel
theorem dX12_housePart_127 : decode cX12_housePart 127 = .ok (.iload_n 2, 1) := by decide +kernel
theorem dX12_housePart_128 : decode cX12_housePart 128 = .ok (.ifCond .eq 16, 3) := by decide +kernel
theorem dX12_housePart_131 : decode cX12_housePart 131 = .ok (.aload_n 0, 1) := by decide +kernel
theorem dX12_housePart_132 : decode cX12_housePart 132 = .ok (.bipush 59, 2) := by decide +kernel
theorem dX12_housePart_134 : decode cX12_housePart 134 = .ok (.invokevirtual 259, 3) := by decide +kernel
theorem dX12_housePart_137 : decode cX12_housePart 137 = .ok (.ifCond .eq 7, 3) := by decide +kernel
theorem dX12_housePart_140 : decode cX12_housePart 140 = .ok (.iconst 1, 1) := by decide +kernel
theorem dX12_housePart_141 : decode cX12_housePart 141 = .ok (.goto 4, 3) := by decide +kernel
theorem dX12_housePart_144 : decode cX12_housePart 144 = .ok (.iconst 0, 1) := by decide +kernel
theorem dX12_housePart_145 : decode cX12_housePart 145 = .ok (.ireturn, 1) := by decide +kernel
set_option maxRecDepth 100000 in
def f_X12_housePart_16 (l0 : Nat) (μ : dtM) : Option (Int32 × dtM) :=
  (opRv 12 μ l0).bind fun _ => opCall (f_X12_fails l0 (2 : Int32) μ) fun x4 μ2 => opRet x4 μ2
set_option maxRecDepth 100000 in
def f_X12_housePart_145 (s0 : Int32) (μ : dtM) : Option (Int32 × dtM) :=
  opRet s0 μ
set_option maxRecDepth 100000 in
def f_X12_housePart_144  (μ : dtM) : Option (Int32 × dtM) :=
  f_X12_housePart_145 (0 : Int32) μ
set_option maxRecDepth 100000 in
def f_X12_housePart_127 (l0 : Nat) (l2 : Int32) (μ : dtM) : Option (Int32 × dtM) :=
  if l2 = 0 then (f_X12_housePart_144 μ) else ((opRv 12 μ l0).bind fun _ => opCall (f_X12_wantSign l0 (59 : Int32) μ) fun x7 μ5 => if x7 = 0 then (f_X12_housePart_144 μ5) else (f_X12_housePart_145 (1 : Int32) μ5))
set_option maxRecDepth 100000 in
def f_X12_housePart_122 (l0 : Nat) (μ : dtM) : Option (Int32 × dtM) :=
  (opRv 12 μ l0).bind fun _ => opCall (f_X12_aPerson l0 μ) fun x4 μ2 => f_X12_housePart_127 l0 x4 μ2
set_option maxRecDepth 100000 in
def f_X12_housePart_84 (l0 : Nat) (μ : dtM) : Option (Int32 × dtM) :=
  (opRv 12 μ l0).bind fun _ => opCall (f_X12_number l0 (2020 : Int32) (0 : Int32) (16 : Int32) μ) fun x4 μ2 => f_X12_housePart_127 l0 x4 μ2
set_option maxRecDepth 100000 in
def f_X12_housePart_98 (l0 : Nat) (μ : dtM) : Option (Int32 × dtM) :=
  (opRv 12 μ l0).bind fun _ => opCall (f_X12_aRoom l0 μ) fun x4 μ2 => f_X12_housePart_127 l0 x4 μ2
set_option maxRecDepth 100000 in
def f_X12_housePart_106 (l0 : Nat) (μ : dtM) : Option (Int32 × dtM) :=
  (opRv 12 μ l0).bind fun _ => opCall (f_X12_aDoor l0 μ) fun x4 μ2 => f_X12_housePart_127 l0 x4 μ2
set_option maxRecDepth 100000 in
def f_X12_housePart_114 (l0 : Nat) (μ : dtM) : Option (Int32 × dtM) :=
  (opRv 12 μ l0).bind fun _ => opCall (f_X12_aWord l0 μ) fun x4 μ2 => f_X12_housePart_127 l0 x4 μ2
set_option maxRecDepth 100000 in
def f_X12_housePart_53 (l0 : Nat) (l1 : Int32) (μ : dtM) : Option (Int32 × dtM) :=
  if l1 = 0 then (f_X12_housePart_84 l0 μ) else if l1 = 1 then (f_X12_housePart_98 l0 μ) else if l1 = 2 then (f_X12_housePart_106 l0 μ) else if l1 = 3 then (f_X12_housePart_114 l0 μ) else f_X12_housePart_122 l0 μ
set_option maxRecDepth 100000 in
def f_X12_housePart_40 (l0 : Nat) (l1 : Int32) (μ : dtM) : Option (Int32 × dtM) :=
  if l1 = 0 then ((opPI 12 20 μ l0 (1 : Int32)).bind fun μ4 => (opRv 12 μ4 l0).bind fun _ => (f_X12_ahead l0 μ4).bind fun μ7 => f_X12_housePart_53 l0 l1 μ7) else (f_X12_housePart_53 l0 l1 μ)
set_option maxRecDepth 100000 in
def f_X12_housePart (p0 : Nat) (μ : dtM) : Option (Int32 × dtM) :=
  (opRv 12 μ p0).bind fun _ => opCall (f_X12_inWords p0 1000003 μ) fun x4 μ2 => if x4 < 0 then (f_X12_housePart_16 p0 μ2) else (if x4 ≤ (4 : Int32) then (if x4 = 0 then ((opGI 12 20 μ2 p0).bind fun x14 => if x14 = (1 : Int32) then ((opRv 12 μ2 p0).bind fun _ => opCall (f_X12_fails p0 (5 : Int32) μ2) fun x22 μ20 => opRet x22 μ20) else (f_X12_housePart_40 p0 x4 μ2)) else (f_X12_housePart_40 p0 x4 μ2)) else (f_X12_housePart_16 p0 μ2))
set_option maxRecDepth 100000 in
theorem c_X12_housePart_16 {r : Int32} {F : dtM} (l0 : Nat) (μ : dtM) (h : f_X12_housePart_16 l0 μ = some (r, F)) : dtW yX12_housePart cX12_housePart 3 (some .boolean) 11 (some (.int r)) F 16 [some (.ref l0)] [] μ := by
  rw [f_X12_housePart_16] at h
  refine dr_aload_n l0 dX12_housePart_16 rfl ?_
  refine dr_iconst (2 : Int32) dX12_housePart_17 (by decide) ?_
  obtain ⟨_, hb1, h⟩ := dtBind h
  obtain ⟨x4, μ2, e3, h⟩ := dtCall h
  refine dr_callV_i (S0 := []) [.int (2 : Int32)] x4 μ2 dX12_housePart_18 (c_X12_fails l0 (2 : Int32) μ e3) mf_X12_fails wt_1567 ws_62 wt_1565 rfl (dtRv hb1) (by decide) rfl (Nat.le_of_ble_eq_true rfl) (Nat.le_of_ble_eq_true rfl) rfl ?_
  obtain ⟨hz, rfl, rfl⟩ := dtRet h
  exact dr_ireturn dX12_housePart_21 (dtNz hz)
set_option maxRecDepth 100000 in
theorem c_X12_housePart_145 {r : Int32} {F : dtM} (s0 : Int32) (μ : dtM) (h : f_X12_housePart_145 s0 μ = some (r, F)) : dtW yX12_housePart cX12_housePart 3 (some .boolean) 11 (some (.int r)) F 145 [] [.int s0] μ := by
  rw [f_X12_housePart_145] at h
  obtain ⟨hz, rfl, rfl⟩ := dtRet h
  exact dr_ireturn dX12_housePart_145 (dtNz hz)
set_option maxRecDepth 100000 in
theorem c_X12_housePart_144 {r : Int32} {F : dtM}  (μ : dtM) (h : f_X12_housePart_144  μ = some (r, F)) : dtW yX12_housePart cX12_housePart 3 (some .boolean) 11 (some (.int r)) F 144 [] [] μ := by
  rw [f_X12_housePart_144] at h
  refine dr_iconst (0 : Int32) dX12_housePart_144 (by decide) ?_
  exact c_X12_housePart_145 (0 : Int32) μ h
set_option maxRecDepth 100000 in
theorem c_X12_housePart_127 {r : Int32} {F : dtM} (l0 : Nat) (l2 : Int32) (μ : dtM) (h : f_X12_housePart_127 l0 l2 μ = some (r, F)) : dtW yX12_housePart cX12_housePart 3 (some .boolean) 11 (some (.int r)) F 127 [some (.ref l0), none, some (.int l2)] [] μ := by
  rw [f_X12_housePart_127] at h
  refine dr_iload_n l2 dX12_housePart_127 rfl ?_
  obtain ⟨ht2, hf3⟩ := dtIte h
  refine dr_if_eq 144 dX12_housePart_128 (by decide) (fun hc1 => ?_) (fun hc1 => ?_)
  · have h := ht2 hc1
    refine dr_mask [] [] rfl ?_
    exact c_X12_housePart_144 μ h
  · have h := hf3 hc1
    refine dr_aload_n l0 dX12_housePart_131 rfl ?_
    refine dr_bipush (59 : Int32) dX12_housePart_132 (by decide) ?_
    obtain ⟨_, hb4, h⟩ := dtBind h
    obtain ⟨x7, μ5, e6, h⟩ := dtCall h
    refine dr_callV_i (S0 := []) [.int (59 : Int32)] x7 μ5 dX12_housePart_134 (c_X12_wantSign l0 (59 : Int32) μ e6) mf_X12_wantSign wt_1660 ws_83 wt_1658 rfl (dtRv hb4) (by decide) rfl (Nat.le_of_ble_eq_true rfl) (Nat.le_of_ble_eq_true rfl) rfl ?_
    obtain ⟨ht9, hf10⟩ := dtIte h
    refine dr_if_eq 144 dX12_housePart_137 (by decide) (fun hc8 => ?_) (fun hc8 => ?_)
    · have h := ht9 hc8
      refine dr_mask [] [] rfl ?_
      exact c_X12_housePart_144 μ5 h
    · have h := hf10 hc8
      refine dr_iconst (1 : Int32) dX12_housePart_140 (by decide) ?_
      refine dr_goto 145 dX12_housePart_141 (by decide) ?_
      refine dr_mask [] [] rfl ?_
      exact c_X12_housePart_145 (1 : Int32) μ5 h
set_option maxRecDepth 100000 in
theorem c_X12_housePart_122 {r : Int32} {F : dtM} (l0 : Nat) (μ : dtM) (h : f_X12_housePart_122 l0 μ = some (r, F)) : dtW yX12_housePart cX12_housePart 3 (some .boolean) 11 (some (.int r)) F 122 [some (.ref l0)] [] μ := by
  rw [f_X12_housePart_122] at h
  refine dr_aload_n l0 dX12_housePart_122 rfl ?_
  obtain ⟨_, hb1, h⟩ := dtBind h
  obtain ⟨x4, μ2, e3, h⟩ := dtCall h
  refine dr_callV_i (S0 := []) [] x4 μ2 dX12_housePart_123 (c_X12_aPerson l0 μ e3) mf_X12_aPerson wt_1649 ws_81 wt_1647 rfl (dtRv hb1) (by decide) rfl (Nat.le_of_ble_eq_true rfl) (Nat.le_of_ble_eq_true rfl) rfl ?_
  refine dr_istore_n 2 [some (.ref l0), none, some (.int x4)] dX12_housePart_126 rfl rfl rfl rfl ?_
  exact c_X12_housePart_127 l0 x4 μ2 h
set_option maxRecDepth 100000 in
theorem c_X12_housePart_84 {r : Int32} {F : dtM} (l0 : Nat) (μ : dtM) (h : f_X12_housePart_84 l0 μ = some (r, F)) : dtW yX12_housePart cX12_housePart 3 (some .boolean) 11 (some (.int r)) F 84 [some (.ref l0)] [] μ := by
  rw [f_X12_housePart_84] at h
  refine dr_aload_n l0 dX12_housePart_84 rfl ?_
  refine dr_sipush (2020 : Int32) dX12_housePart_85 (by decide) ?_
  refine dr_iconst (0 : Int32) dX12_housePart_88 (by decide) ?_
  refine dr_bipush (16 : Int32) dX12_housePart_89 (by decide) ?_
  obtain ⟨_, hb1, h⟩ := dtBind h
  obtain ⟨x4, μ2, e3, h⟩ := dtCall h
  refine dr_callV_i (S0 := []) [.int (2020 : Int32), .int (0 : Int32), .int (16 : Int32)] x4 μ2 dX12_housePart_91 (c_X12_number l0 (2020 : Int32) (0 : Int32) (16 : Int32) μ e3) mf_X12_number wt_1571 ws_63 wt_1569 rfl (dtRv hb1) (by decide) rfl (Nat.le_of_ble_eq_true rfl) (Nat.le_of_ble_eq_true rfl) rfl ?_
  refine dr_istore_n 2 [some (.ref l0), none, some (.int x4)] dX12_housePart_94 rfl rfl rfl rfl ?_
  refine dr_goto 127 dX12_housePart_95 (by decide) ?_
  exact c_X12_housePart_127 l0 x4 μ2 h
set_option maxRecDepth 100000 in
theorem c_X12_housePart_98 {r : Int32} {F : dtM} (l0 : Nat) (μ : dtM) (h : f_X12_housePart_98 l0 μ = some (r, F)) : dtW yX12_housePart cX12_housePart 3 (some .boolean) 11 (some (.int r)) F 98 [some (.ref l0)] [] μ := by
  rw [f_X12_housePart_98] at h
  refine dr_aload_n l0 dX12_housePart_98 rfl ?_
  obtain ⟨_, hb1, h⟩ := dtBind h
  obtain ⟨x4, μ2, e3, h⟩ := dtCall h
  refine dr_callV_i (S0 := []) [] x4 μ2 dX12_housePart_99 (c_X12_aRoom l0 μ e3) mf_X12_aRoom wt_1575 ws_64 wt_1573 rfl (dtRv hb1) (by decide) rfl (Nat.le_of_ble_eq_true rfl) (Nat.le_of_ble_eq_true rfl) rfl ?_
  refine dr_istore_n 2 [some (.ref l0), none, some (.int x4)] dX12_housePart_102 rfl rfl rfl rfl ?_
  refine dr_goto 127 dX12_housePart_103 (by decide) ?_
  exact c_X12_housePart_127 l0 x4 μ2 h
set_option maxRecDepth 100000 in
theorem c_X12_housePart_106 {r : Int32} {F : dtM} (l0 : Nat) (μ : dtM) (h : f_X12_housePart_106 l0 μ = some (r, F)) : dtW yX12_housePart cX12_housePart 3 (some .boolean) 11 (some (.int r)) F 106 [some (.ref l0)] [] μ := by
  rw [f_X12_housePart_106] at h
  refine dr_aload_n l0 dX12_housePart_106 rfl ?_
  obtain ⟨_, hb1, h⟩ := dtBind h
  obtain ⟨x4, μ2, e3, h⟩ := dtCall h
  refine dr_callV_i (S0 := []) [] x4 μ2 dX12_housePart_107 (c_X12_aDoor l0 μ e3) mf_X12_aDoor wt_1603 ws_71 wt_1601 rfl (dtRv hb1) (by decide) rfl (Nat.le_of_ble_eq_true rfl) (Nat.le_of_ble_eq_true rfl) rfl ?_
  refine dr_istore_n 2 [some (.ref l0), none, some (.int x4)] dX12_housePart_110 rfl rfl rfl rfl ?_
  refine dr_goto 127 dX12_housePart_111 (by decide) ?_
  exact c_X12_housePart_127 l0 x4 μ2 h
set_option maxRecDepth 100000 in
theorem c_X12_housePart_114 {r : Int32} {F : dtM} (l0 : Nat) (μ : dtM) (h : f_X12_housePart_114 l0 μ = some (r, F)) : dtW yX12_housePart cX12_housePart 3 (some .boolean) 11 (some (.int r)) F 114 [some (.ref l0)] [] μ := by
  rw [f_X12_housePart_114] at h
  refine dr_aload_n l0 dX12_housePart_114 rfl ?_
  obtain ⟨_, hb1, h⟩ := dtBind h
  obtain ⟨x4, μ2, e3, h⟩ := dtCall h
  refine dr_callV_i (S0 := []) [] x4 μ2 dX12_housePart_115 (c_X12_aWord l0 μ e3) mf_X12_aWord wt_1622 ws_75 wt_1620 rfl (dtRv hb1) (by decide) rfl (Nat.le_of_ble_eq_true rfl) (Nat.le_of_ble_eq_true rfl) rfl ?_
  refine dr_istore_n 2 [some (.ref l0), none, some (.int x4)] dX12_housePart_118 rfl rfl rfl rfl ?_
  refine dr_goto 127 dX12_housePart_119 (by decide) ?_
  exact c_X12_housePart_127 l0 x4 μ2 h
set_option maxRecDepth 100000 in
theorem c_X12_housePart_53 {r : Int32} {F : dtM} (l0 : Nat) (l1 : Int32) (μ : dtM) (h : f_X12_housePart_53 l0 l1 μ = some (r, F)) : dtW yX12_housePart cX12_housePart 3 (some .boolean) 11 (some (.int r)) F 53 [some (.ref l0), some (.int l1)] [] μ := by
  rw [f_X12_housePart_53] at h
  refine dr_iload_n l1 dX12_housePart_53 rfl ?_
  obtain ⟨ht1, h⟩ := dtIte h
  refine Decidable.byCases (dec := inferInstance) (fun hc3 : l1 = 0 => ?_) (fun hc3 => ?_)
  · have h := ht1 hc3
    refine dr_tableIn (off := 30) 84 dX12_housePart_54 (by rw [hc3]; decide) (by rw [hc3]; decide) (by rw [hc3]; rfl) (by decide) ?_
    refine dr_mask [true] [some (.ref l0)] rfl ?_
    exact c_X12_housePart_84 l0 μ h
  have h := h hc3
  obtain ⟨ht4, h⟩ := dtIte h
  refine Decidable.byCases (dec := inferInstance) (fun hc6 : l1 = 1 => ?_) (fun hc6 => ?_)
  · have h := ht4 hc6
    refine dr_tableIn (off := 44) 98 dX12_housePart_54 (by rw [hc6]; decide) (by rw [hc6]; decide) (by rw [hc6]; rfl) (by decide) ?_
    refine dr_mask [true] [some (.ref l0)] rfl ?_
    exact c_X12_housePart_98 l0 μ h
  have h := h hc6
  obtain ⟨ht7, h⟩ := dtIte h
  refine Decidable.byCases (dec := inferInstance) (fun hc9 : l1 = 2 => ?_) (fun hc9 => ?_)
  · have h := ht7 hc9
    refine dr_tableIn (off := 52) 106 dX12_housePart_54 (by rw [hc9]; decide) (by rw [hc9]; decide) (by rw [hc9]; rfl) (by decide) ?_
    refine dr_mask [true] [some (.ref l0)] rfl ?_
    exact c_X12_housePart_106 l0 μ h
  have h := h hc9
  obtain ⟨ht10, h⟩ := dtIte h
  refine Decidable.byCases (dec := inferInstance) (fun hc12 : l1 = 3 => ?_) (fun hc12 => ?_)
  · have h := ht10 hc12
    refine dr_tableIn (off := 60) 114 dX12_housePart_54 (by rw [hc12]; decide) (by rw [hc12]; decide) (by rw [hc12]; rfl) (by decide) ?_
    refine dr_mask [true] [some (.ref l0)] rfl ?_
    exact c_X12_housePart_114 l0 μ h
  have h := h hc12
  have kd13 : dtW yX12_housePart cX12_housePart 3 (some .boolean) 11 (some (.int r)) F 122 [some (.ref l0), some (.int l1)] [] μ := by
    refine dr_mask [true] [some (.ref l0)] rfl ?_
    exact c_X12_housePart_122 l0 μ h
  refine Decidable.byCases (dec := inferInstance) (fun hlo : (l1).toInt < 0 ∨ 3 < (l1).toInt => dr_tableOut 122 dX12_housePart_54 hlo (by decide) kd13) (fun hlo => ?_)
  obtain ⟨hl1, hl2⟩ := not_or.mp hlo
  have hv : (l1).toInt = 0 ∨ (l1).toInt = 1 ∨ (l1).toInt = 2 ∨ (l1).toInt = 3 := by omega
  rcases hv with hv | hv | hv | hv
  · exact absurd (Int32.toInt_inj.mp (hv.trans (show (0 : Int) = (0 : Int32).toInt by decide))) hc3
  · exact absurd (Int32.toInt_inj.mp (hv.trans (show (1 : Int) = (1 : Int32).toInt by decide))) hc6
  · exact absurd (Int32.toInt_inj.mp (hv.trans (show (2 : Int) = (2 : Int32).toInt by decide))) hc9
  · exact absurd (Int32.toInt_inj.mp (hv.trans (show (3 : Int) = (3 : Int32).toInt by decide))) hc12
set_option maxRecDepth 100000 in
theorem c_X12_housePart_40 {r : Int32} {F : dtM} (l0 : Nat) (l1 : Int32) (μ : dtM) (h : f_X12_housePart_40 l0 l1 μ = some (r, F)) : dtW yX12_housePart cX12_housePart 3 (some .boolean) 11 (some (.int r)) F 40 [some (.ref l0), some (.int l1)] [] μ := by
  rw [f_X12_housePart_40] at h
  refine dr_iload_n l1 dX12_housePart_40 rfl ?_
  obtain ⟨ht2, hf3⟩ := dtIte h
  refine dr_if_ne 53 dX12_housePart_41 (by decide) (fun hc1 => ?_) (fun hc1 => ?_)
  · have h := hf3 hc1
    exact c_X12_housePart_53 l0 l1 μ h
  · have h := ht2 hc1
    refine dr_aload_n l0 dX12_housePart_44 rfl ?_
    refine dr_iconst (1 : Int32) dX12_housePart_45 (by decide) ?_
    obtain ⟨μ4, e5, h⟩ := dtBind h
    refine dr_putI μ4 dX12_housePart_46 fl_RX12_244 rfl e5 ?_
    refine dr_aload_n l0 dX12_housePart_49 rfl ?_
    obtain ⟨_, hb6, h⟩ := dtBind h
    obtain ⟨μ7, e8, h⟩ := dtBind h
    refine dr_callV_v (S0 := []) [] μ7 dX12_housePart_50 (c_X12_ahead l0 μ4 e8) mf_X12_ahead wt_1536 ws_57 wt_1534 rfl (dtRv hb6) (by decide) rfl (Nat.le_of_ble_eq_true rfl) (Nat.le_of_ble_eq_true rfl) rfl ?_
    exact c_X12_housePart_53 l0 l1 μ7 h
set_option maxRecDepth 100000 in
theorem c_X12_housePart {r : Int32} {F : dtM} (p0 : Nat) (μ : dtM) (h : f_X12_housePart p0 μ = some (r, F)) : dtMet yX12_housePart cX12_housePart 3 (some .boolean) 11 [.ref p0] μ (some (.int r)) F := by
  refine dtMet.of (by decide +kernel) (Nat.le_of_ble_eq_true rfl) (show dtW yX12_housePart cX12_housePart 3 (some .boolean) 11 (some (.int r)) F 0 [some (.ref p0)] [] μ from ?_)
  rw [f_X12_housePart] at h
  refine dr_aload_n p0 dX12_housePart_0 rfl ?_
  refine dr_ldcS1 dX12_housePart_1 rfl ?_
  obtain ⟨_, hb1, h⟩ := dtBind h
  obtain ⟨x4, μ2, e3, h⟩ := dtCall h
  refine dr_callV_i (S0 := []) [.ref 1000003] x4 μ2 dX12_housePart_3 (c_X12_inWords p0 1000003 μ e3) mf_X12_inWords wt_1561 ws_61 wt_1559 rfl (dtRv hb1) (by decide) rfl (Nat.le_of_ble_eq_true rfl) (Nat.le_of_ble_eq_true rfl) rfl ?_
  refine dr_istore_n 1 [some (.ref p0), some (.int x4)] dX12_housePart_6 rfl rfl rfl rfl ?_
  refine dr_iload_n x4 dX12_housePart_7 rfl ?_
  obtain ⟨ht6, hf7⟩ := dtIte h
  refine dr_if_lt 16 dX12_housePart_8 (by decide) (fun hc5 => ?_) (fun hc5 => ?_)
  · have h := ht6 hc5
    refine dr_mask [true] [some (.ref p0)] rfl ?_
    exact c_X12_housePart_16 p0 μ2 h
  · have h := hf7 hc5
    refine dr_iload_n x4 dX12_housePart_11 rfl ?_
    refine dr_iconst (4 : Int32) dX12_housePart_12 (by decide) ?_
    obtain ⟨ht9, hf10⟩ := dtIte h
    refine dr_icmp_le 22 dX12_housePart_13 (by decide) (fun hc8 => ?_) (fun hc8 => ?_)
    · have h := ht9 hc8
      refine dr_iload_n x4 dX12_housePart_22 rfl ?_
      obtain ⟨ht12, hf13⟩ := dtIte h
      refine dr_if_ne 40 dX12_housePart_23 (by decide) (fun hc11 => ?_) (fun hc11 => ?_)
      · have h := hf13 hc11
        exact c_X12_housePart_40 p0 x4 μ2 h
      · have h := ht12 hc11
        refine dr_aload_n p0 dX12_housePart_26 rfl ?_
        obtain ⟨x14, e15, h⟩ := dtBind h
        refine dr_getI x14 dX12_housePart_27 fl_RX12_244 e15 ?_
        refine dr_iconst (1 : Int32) dX12_housePart_30 (by decide) ?_
        obtain ⟨ht17, hf18⟩ := dtIte h
        refine dr_icmp_ne 40 dX12_housePart_31 (by decide) (fun hc16 => ?_) (fun hc16 => ?_)
        · have h := hf18 hc16
          exact c_X12_housePart_40 p0 x4 μ2 h
        · have h := ht17 hc16
          refine dr_aload_n p0 dX12_housePart_34 rfl ?_
          refine dr_iconst (5 : Int32) dX12_housePart_35 (by decide) ?_
          obtain ⟨_, hb19, h⟩ := dtBind h
          obtain ⟨x22, μ20, e21, h⟩ := dtCall h
          refine dr_callV_i (S0 := []) [.int (5 : Int32)] x22 μ20 dX12_housePart_36 (c_X12_fails p0 (5 : Int32) μ2 e21) mf_X12_fails wt_1567 ws_62 wt_1565 rfl (dtRv hb19) (by decide) rfl (Nat.le_of_ble_eq_true rfl) (Nat.le_of_ble_eq_true rfl) rfl ?_
          obtain ⟨hz, rfl, rfl⟩ := dtRet h
          exact dr_ireturn dX12_housePart_39 (dtNz hz)
    · have h := hf10 hc8
      refine dr_mask [true] [some (.ref p0)] rfl ?_
      exact c_X12_housePart_16 p0 μ2 h
/-! X12_house -/
theorem dX12_house_0 : decode cX12_house 0 = .ok (.aload_n 0, 1) := by decide +kernel
theorem dX12_house_1 : decode cX12_house 1 = .ok (.iload_n 1, 1) := by decide +kernel
theorem dX12_house_2 : decode cX12_house 2 = .ok (.sipush 900, 3) := by decide +kernel
theorem dX12_house_5 : decode cX12_house 5 = .ok (.invokevirtual 262, 3) := by decide +kernel
theorem dX12_house_8 : decode cX12_house 8 = .ok (.ifCond .ne 9, 3) := by decide +kernel
theorem dX12_house_11 : decode cX12_house 11 = .ok (.aload_n 0, 1) := by decide +kernel
theorem dX12_house_12 : decode cX12_house 12 = .ok (.iconst 1, 1) := by decide +kernel
theorem dX12_house_13 : decode cX12_house 13 = .ok (.invokevirtual 93, 3) := by decide +kernel
theorem dX12_house_16 : decode cX12_house 16 = .ok (.ireturn, 1) := by decide +kernel
theorem dX12_house_17 : decode cX12_house 17 = .ok (.aload_n 0, 1) := by decide +kernel
theorem dX12_house_18 : decode cX12_house 18 = .ok (.sipush 2016, 3) := by decide +kernel
theorem dX12_house_21 : decode cX12_house 21 = .ok (.invokevirtual 83, 3) := by decide +kernel
theorem dX12_house_24 : decode cX12_house 24 = .ok (.aload_n 0, 1) := by decide +kernel
theorem dX12_house_25 : decode cX12_house 25 = .ok (.iconst 0, 1) := by decide +kernel
theorem dX12_house_26 : decode cX12_house 26 = .ok (.putfield 244, 3) := by decide +kernel
theorem dX12_house_29 : decode cX12_house 29 = .ok (.iconst 1, 1) := by decide +kernel
theorem dX12_house_30 : decode cX12_house 30 = .ok (.istore_n 2, 1) := by decide +kernel
theorem dX12_house_31 : decode cX12_house 31 = .ok (.iload_n 2, 1) := by decide +kernel
theorem dX12_house_32 : decode cX12_house 32 = .ok (.ifCond .eq 18, 3) := by decide +kernel
theorem dX12_house_35 : decode cX12_house 35 = .ok (.aload_n 0, 1) := by decide +kernel
theorem dX12_house_36 : decode cX12_house 36 = .ok (.getfield 138, 3) := by decide +kernel
theorem dX12_house_39 : decode cX12_house 39 = .ok (.ifCond .eq 11, 3) := by decide +kernel
theorem dX12_house_42 : decode cX12_house 42 = .ok (.aload_n 0, 1) := by decide +kernel
theorem dX12_house_43 : decode cX12_house 43 = .ok (.invokevirtual 265, 3) := by decide +kernel
theorem dX12_house_46 : decode cX12_house 46 = .ok (.istore_n 2, 1) := by decide +kernel
theorem dX12_house_47 : decode cX12_house 47 = .ok (.goto (-16), 3) := by decide +kernel
theorem dX12_house_50 : decode cX12_house 50 = .ok (.aload_n 0, 1) := by decide +kernel
theorem dX12_house_51 : decode cX12_house 51 = .ok (.getfield 163, 3) := by decide +kernel
theorem dX12_house_54 : decode cX12_house 54 = .ok (.ifCond .ne 63, 3) := by decide +kernel
theorem dX12_house_57 : decode cX12_house 57 = .ok (.iconst 0, 1) := by decide +kernel
theorem dX12_house_58 : decode cX12_house 58 = .ok (.istore_n 3, 1) := by decide +kernel
theorem dX12_house_59 : decode cX12_house 59 = .ok (.iload_n 3, 1) := by decide +kernel
theorem dX12_house_60 : decode cX12_house 60 = .ok (.sipush 504, 3) := by decide +kernel
theorem dX12_house_63 : decode cX12_house 63 = .ok (.if_icmp .ge 25, 3) := by decide +kernel
theorem dX12_house_66 : decode cX12_house 66 = .ok (.aload_n 0, 1) := by decide +kernel
theorem dX12_house_67 : decode cX12_house 67 = .ok (.getfield 7, 3) := by decide +kernel
theorem dX12_house_70 : decode cX12_house 70 = .ok (.iload_n 3, 1) := by decide +kernel
theorem dX12_house_71 : decode cX12_house 71 = .ok (.aload_n 0, 1) := by decide +kernel
theorem dX12_house_72 : decode cX12_house 72 = .ok (.getfield 7, 3) := by decide +kernel
theorem dX12_house_75 : decode cX12_house 75 = .ok (.sipush 2016, 3) := by decide +kernel
theorem dX12_house_78 : decode cX12_house 78 = .ok (.iload_n 3, 1) := by decide +kernel
theorem dX12_house_79 : decode cX12_house 79 = .ok (.iadd, 1) := by decide +kernel
theorem dX12_house_80 : decode cX12_house 80 = .ok (.iaload, 1) := by decide +kernel
theorem dX12_house_81 : decode cX12_house 81 = .ok (.iastore, 1) := by decide +kernel
theorem dX12_house_82 : decode cX12_house 82 = .ok (.iinc 3 1, 3) := by decide +kernel
theorem dX12_house_85 : decode cX12_house 85 = .ok (.goto (-26), 3) := by decide +kernel
theorem dX12_house_88 : decode cX12_house 88 = .ok (.iconst 0, 1) := by decide +kernel
theorem dX12_house_89 : decode cX12_house 89 = .ok (.istore_n 3, 1) := by decide +kernel
theorem dX12_house_90 : decode cX12_house 90 = .ok (.iload_n 3, 1) := by decide +kernel
theorem dX12_house_91 : decode cX12_house 91 = .ok (.bipush 19, 2) := by decide +kernel
theorem dX12_house_93 : decode cX12_house 93 = .ok (.if_icmp .ge 24, 3) := by decide +kernel
theorem dX12_house_96 : decode cX12_house 96 = .ok (.aload_n 0, 1) := by decide +kernel
theorem dX12_house_97 : decode cX12_house 97 = .ok (.getfield 13, 3) := by decide +kernel
theorem dX12_house_100 : decode cX12_house 100 = .ok (.iload_n 3, 1) := by decide +kernel
theorem dX12_house_101 : decode cX12_house 101 = .ok (.aload_n 0, 1) := by decide +kernel
theorem dX12_house_102 : decode cX12_house 102 = .ok (.getfield 13, 3) := by decide +kernel
theorem dX12_house_105 : decode cX12_house 105 = .ok (.bipush 76, 2) := by decide +kernel
theorem dX12_house_107 : decode cX12_house 107 = .ok (.iload_n 3, 1) := by decide +kernel
theorem dX12_house_108 : decode cX12_house 108 = .ok (.iadd, 1) := by decide +kernel
theorem dX12_house_109 : decode cX12_house 109 = .ok (.laload, 1) := by decide +kernel
theorem dX12_house_110 : decode cX12_house 110 = .ok (.lastore, 1) := by decide +kernel
theorem dX12_house_111 : decode cX12_house 111 = .ok (.iinc 3 1, 3) := by decide +kernel
theorem dX12_house_114 : decode cX12_house 114 = .ok (.goto (-24), 3) := by decide +kernel
theorem dX12_house_117 : decode cX12_house 117 = .ok (.aload_n 0, 1) := by decide +kernel
theorem dX12_house_118 : decode cX12_house 118 = .ok (.aload_n 0, 1) := by decide +kernel
theorem dX12_house_119 : decode cX12_house 119 = .ok (.getfield 7, 3) := by decide +kernel
theorem dX12_house_122 : decode cX12_house 122 = .ok (.iconst 3, 1) := by decide +kernel
theorem dX12_house_123 : decode cX12_house 123 = .ok (.iaload, 1) := by decide +kernel
theorem dX12_house_124 : decode cX12_house 124 = .ok (.invokevirtual 268, 3) := by decide +kernel
theorem dX12_house_127 : decode cX12_house 127 = .ok (.ireturn, 1) := by decide +kernel
set_option maxRecDepth 100000 in
def f_X12_house_117 (l0 : Nat) (μ : dtM) : Option (Int32 × dtM) :=
  (opGR 12 0 μ l0).bind fun x1 => (opLI 1 μ x1 (3 : Int32)).bind fun x3 => (opRv 12 μ l0).bind fun _ => opCall (f_X12_taken l0 x3 μ) fun x8 μ6 => some (x8, μ6)
set_option maxRecDepth 100000 in
def f_X12_house_90 : Nat → Nat → Int32 → dtM → Option (Int32 × dtM)
  | 0, _, _, _ => none
  | n + 1, l0, l3, μ =>
    if (19 : Int32) ≤ l3 then (f_X12_house_117 l0 μ) else ((opGR 12 1 μ l0).bind fun x4 => (opGR 12 1 μ l0).bind fun x6 => (opLJ 3 μ x6 ((76 : Int32) + l3)).bind fun x8 => (opSJ μ x4 l3 x8).bind fun μ10 => f_X12_house_90 n l0 (l3 + 1) μ10)
set_option maxRecDepth 100000 in
def f_X12_house_59 : Nat → Nat → Int32 → dtM → Option (Int32 × dtM)
  | 0, _, _, _ => none
  | n + 1, l0, l3, μ =>
    if (504 : Int32) ≤ l3 then (f_X12_house_90 dtFuel l0 (0 : Int32) μ) else ((opGR 12 0 μ l0).bind fun x4 => (opGR 12 0 μ l0).bind fun x6 => (opLI 1 μ x6 ((2016 : Int32) + l3)).bind fun x8 => (opSI μ x4 l3 x8).bind fun μ10 => f_X12_house_59 n l0 (l3 + 1) μ10)
set_option maxRecDepth 100000 in
def f_X12_house_50 (l0 : Nat) (μ : dtM) : Option (Int32 × dtM) :=
  (opGI 12 18 μ l0).bind fun x1 => if x1 = 0 then (f_X12_house_59 dtFuel l0 (0 : Int32) μ) else (f_X12_house_117 l0 μ)
set_option maxRecDepth 100000 in
def f_X12_house_31 : Nat → Nat → Int32 → dtM → Option (Int32 × dtM)
  | 0, _, _, _ => none
  | n + 1, l0, l2, μ =>
    if l2 = 0 then (f_X12_house_50 l0 μ) else ((opGI 12 12 μ l0).bind fun x4 => if x4 = 0 then (f_X12_house_50 l0 μ) else ((opRv 12 μ l0).bind fun _ => opCall (f_X12_housePart l0 μ) fun x12 μ10 => f_X12_house_31 n l0 x12 μ10))
set_option maxRecDepth 100000 in
def f_X12_house (p0 : Nat) (p1 : Int32) (μ : dtM) : Option (Int32 × dtM) :=
  (opRv 12 μ p0).bind fun _ => opCall (f_X12_begins p0 p1 (900 : Int32) μ) fun x4 μ2 => if x4 = 0 then ((opRv 12 μ2 p0).bind fun _ => opCall (f_X12_refuse p0 (1 : Int32) μ2) fun x16 μ14 => some (x16, μ14)) else ((opRv 12 μ2 p0).bind fun _ => (f_X12_plain p0 (2016 : Int32) μ2).bind fun μ9 => (opPI 12 20 μ9 p0 (0 : Int32)).bind fun μ11 => f_X12_house_31 dtFuel p0 (1 : Int32) μ11)
set_option maxRecDepth 100000 in
theorem c_X12_house_117 {r : Int32} {F : dtM} (l0 : Nat) (μ : dtM) (h : f_X12_house_117 l0 μ = some (r, F)) : dtW yX12_house cX12_house 4 (some .int) 12 (some (.int r)) F 117 [some (.ref l0)] [] μ := by
  rw [f_X12_house_117] at h
  refine dr_aload_n l0 dX12_house_117 rfl ?_
  refine dr_aload_n l0 dX12_house_118 rfl ?_
  obtain ⟨x1, e2, h⟩ := dtBind h
  refine dr_getR x1 dX12_house_119 fl_RX12_7 e2 ?_
  refine dr_iconst (3 : Int32) dX12_house_122 (by decide) ?_
  obtain ⟨x3, e4, h⟩ := dtBind h
  refine dr_iaload x3 dX12_house_123 e4 ?_
  obtain ⟨_, hb5, h⟩ := dtBind h
  obtain ⟨x8, μ6, e7, h⟩ := dtCall h
  refine dr_callV_i (S0 := []) [.int x3] x8 μ6 dX12_house_124 (c_X12_taken l0 x3 μ e7) mf_X12_taken wt_1664 ws_84 wt_1662 rfl (dtRv hb5) (by decide) rfl (Nat.le_of_ble_eq_true rfl) (Nat.le_of_ble_eq_true rfl) rfl ?_
  cases h
  exact dr_ireturn dX12_house_127 rfl
set_option maxRecDepth 100000 in
theorem c_X12_house_90 {r : Int32} {F : dtM} : ∀ (n : Nat) (l0 : Nat) (l3 : Int32) (μ : dtM), f_X12_house_90 n l0 l3 μ = some (r, F) → dtW yX12_house cX12_house 4 (some .int) 12 (some (.int r)) F 90 [some (.ref l0), none, none, some (.int l3)] [] μ := by
  intro n
  induction n with
  | zero => intro l0 l3 μ h; cases h
  | succ n ih =>
    intro l0 l3 μ h
    have h := (show f_X12_house_90 (n + 1) l0 l3 μ = some _ from h)
    rw [f_X12_house_90] at h
    refine dr_iload_n l3 dX12_house_90 rfl ?_
    refine dr_bipush (19 : Int32) dX12_house_91 (by decide) ?_
    obtain ⟨ht2, hf3⟩ := dtIte h
    refine dr_icmp_ge 117 dX12_house_93 (by decide) (fun hc1 => ?_) (fun hc1 => ?_)
    · have h := ht2 hc1
      refine dr_mask [true] [some (.ref l0)] rfl ?_
      exact c_X12_house_117 l0 μ h
    · have h := hf3 hc1
      refine dr_aload_n l0 dX12_house_96 rfl ?_
      obtain ⟨x4, e5, h⟩ := dtBind h
      refine dr_getR x4 dX12_house_97 fl_RX12_13 e5 ?_
      refine dr_iload_n l3 dX12_house_100 rfl ?_
      refine dr_aload_n l0 dX12_house_101 rfl ?_
      obtain ⟨x6, e7, h⟩ := dtBind h
      refine dr_getR x6 dX12_house_102 fl_RX12_13 e7 ?_
      refine dr_bipush (76 : Int32) dX12_house_105 (by decide) ?_
      refine dr_iload_n l3 dX12_house_107 rfl ?_
      refine dr_iadd dX12_house_108 ?_
      obtain ⟨x8, e9, h⟩ := dtBind h
      refine dr_laload x8 dX12_house_109 e9 ?_
      obtain ⟨μ10, e11, h⟩ := dtBind h
      refine dr_lastore μ10 dX12_house_110 e11 ?_
      refine dr_iinc l3 (l3 + 1) [some (.ref l0), none, none, some (.int (l3 + 1))] dX12_house_111 rfl rfl rfl rfl rfl ?_
      refine dr_goto 90 dX12_house_114 (by decide) ?_
      exact ih l0 (l3 + 1) μ10 h
set_option maxRecDepth 100000 in
theorem c_X12_house_59 {r : Int32} {F : dtM} : ∀ (n : Nat) (l0 : Nat) (l3 : Int32) (μ : dtM), f_X12_house_59 n l0 l3 μ = some (r, F) → dtW yX12_house cX12_house 4 (some .int) 12 (some (.int r)) F 59 [some (.ref l0), none, none, some (.int l3)] [] μ := by
  intro n
  induction n with
  | zero => intro l0 l3 μ h; cases h
  | succ n ih =>
    intro l0 l3 μ h
    have h := (show f_X12_house_59 (n + 1) l0 l3 μ = some _ from h)
    rw [f_X12_house_59] at h
    refine dr_iload_n l3 dX12_house_59 rfl ?_
    refine dr_sipush (504 : Int32) dX12_house_60 (by decide) ?_
    obtain ⟨ht2, hf3⟩ := dtIte h
    refine dr_icmp_ge 88 dX12_house_63 (by decide) (fun hc1 => ?_) (fun hc1 => ?_)
    · have h := ht2 hc1
      refine dr_iconst (0 : Int32) dX12_house_88 (by decide) ?_
      refine dr_istore_n 3 [some (.ref l0), none, none, some (.int (0 : Int32))] dX12_house_89 rfl rfl rfl rfl ?_
      exact c_X12_house_90 dtFuel l0 (0 : Int32) μ h
    · have h := hf3 hc1
      refine dr_aload_n l0 dX12_house_66 rfl ?_
      obtain ⟨x4, e5, h⟩ := dtBind h
      refine dr_getR x4 dX12_house_67 fl_RX12_7 e5 ?_
      refine dr_iload_n l3 dX12_house_70 rfl ?_
      refine dr_aload_n l0 dX12_house_71 rfl ?_
      obtain ⟨x6, e7, h⟩ := dtBind h
      refine dr_getR x6 dX12_house_72 fl_RX12_7 e7 ?_
      refine dr_sipush (2016 : Int32) dX12_house_75 (by decide) ?_
      refine dr_iload_n l3 dX12_house_78 rfl ?_
      refine dr_iadd dX12_house_79 ?_
      obtain ⟨x8, e9, h⟩ := dtBind h
      refine dr_iaload x8 dX12_house_80 e9 ?_
      obtain ⟨μ10, e11, h⟩ := dtBind h
      refine dr_iastore μ10 dX12_house_81 e11 ?_
      refine dr_iinc l3 (l3 + 1) [some (.ref l0), none, none, some (.int (l3 + 1))] dX12_house_82 rfl rfl rfl rfl rfl ?_
      refine dr_goto 59 dX12_house_85 (by decide) ?_
      exact ih l0 (l3 + 1) μ10 h
set_option maxRecDepth 100000 in
theorem c_X12_house_50 {r : Int32} {F : dtM} (l0 : Nat) (μ : dtM) (h : f_X12_house_50 l0 μ = some (r, F)) : dtW yX12_house cX12_house 4 (some .int) 12 (some (.int r)) F 50 [some (.ref l0)] [] μ := by
  rw [f_X12_house_50] at h
  refine dr_aload_n l0 dX12_house_50 rfl ?_
  obtain ⟨x1, e2, h⟩ := dtBind h
  refine dr_getI x1 dX12_house_51 fl_RX12_163 e2 ?_
  obtain ⟨ht4, hf5⟩ := dtIte h
  refine dr_if_ne 117 dX12_house_54 (by decide) (fun hc3 => ?_) (fun hc3 => ?_)
  · have h := hf5 hc3
    exact c_X12_house_117 l0 μ h
  · have h := ht4 hc3
    refine dr_iconst (0 : Int32) dX12_house_57 (by decide) ?_
    refine dr_istore_n 3 [some (.ref l0), none, none, some (.int (0 : Int32))] dX12_house_58 rfl rfl rfl rfl ?_
    exact c_X12_house_59 dtFuel l0 (0 : Int32) μ h
set_option maxRecDepth 100000 in
theorem c_X12_house_31 {r : Int32} {F : dtM} : ∀ (n : Nat) (l0 : Nat) (l2 : Int32) (μ : dtM), f_X12_house_31 n l0 l2 μ = some (r, F) → dtW yX12_house cX12_house 4 (some .int) 12 (some (.int r)) F 31 [some (.ref l0), none, some (.int l2)] [] μ := by
  intro n
  induction n with
  | zero => intro l0 l2 μ h; cases h
  | succ n ih =>
    intro l0 l2 μ h
    have h := (show f_X12_house_31 (n + 1) l0 l2 μ = some _ from h)
    rw [f_X12_house_31] at h
    refine dr_iload_n l2 dX12_house_31 rfl ?_
    obtain ⟨ht2, hf3⟩ := dtIte h
    refine dr_if_eq 50 dX12_house_32 (by decide) (fun hc1 => ?_) (fun hc1 => ?_)
    · have h := ht2 hc1
      refine dr_mask [true] [some (.ref l0)] rfl ?_
      exact c_X12_house_50 l0 μ h
    · have h := hf3 hc1
      refine dr_aload_n l0 dX12_house_35 rfl ?_
      obtain ⟨x4, e5, h⟩ := dtBind h
      refine dr_getI x4 dX12_house_36 fl_RX12_138 e5 ?_
      obtain ⟨ht7, hf8⟩ := dtIte h
      refine dr_if_eq 50 dX12_house_39 (by decide) (fun hc6 => ?_) (fun hc6 => ?_)
      · have h := ht7 hc6
        refine dr_mask [true] [some (.ref l0)] rfl ?_
        exact c_X12_house_50 l0 μ h
      · have h := hf8 hc6
        refine dr_aload_n l0 dX12_house_42 rfl ?_
        obtain ⟨_, hb9, h⟩ := dtBind h
        obtain ⟨x12, μ10, e11, h⟩ := dtCall h
        refine dr_callV_i (S0 := []) [] x12 μ10 dX12_house_43 (c_X12_housePart l0 μ e11) mf_X12_housePart wt_1556 ws_60 wt_1554 rfl (dtRv hb9) (by decide) rfl (Nat.le_of_ble_eq_true rfl) (Nat.le_of_ble_eq_true rfl) rfl ?_
        refine dr_istore_n 2 [some (.ref l0), none, some (.int x12)] dX12_house_46 rfl rfl rfl rfl ?_
        refine dr_goto 31 dX12_house_47 (by decide) ?_
        exact ih l0 x12 μ10 h
set_option maxRecDepth 100000 in
theorem c_X12_house {r : Int32} {F : dtM} (p0 : Nat) (p1 : Int32) (μ : dtM) (h : f_X12_house p0 p1 μ = some (r, F)) : dtMet yX12_house cX12_house 4 (some .int) 12 [.ref p0, .int p1] μ (some (.int r)) F := by
  refine dtMet.of (by decide +kernel) (Nat.le_of_ble_eq_true rfl) (show dtW yX12_house cX12_house 4 (some .int) 12 (some (.int r)) F 0 [some (.ref p0), some (.int p1)] [] μ from ?_)
  rw [f_X12_house] at h
  refine dr_aload_n p0 dX12_house_0 rfl ?_
  refine dr_iload_n p1 dX12_house_1 rfl ?_
  refine dr_sipush (900 : Int32) dX12_house_2 (by decide) ?_
  obtain ⟨_, hb1, h⟩ := dtBind h
  obtain ⟨x4, μ2, e3, h⟩ := dtCall h
  refine dr_callV_i (S0 := []) [.int p1, .int (900 : Int32)] x4 μ2 dX12_house_5 (c_X12_begins p0 p1 (900 : Int32) μ e3) mf_X12_begins wt_1532 ws_56 wt_1530 rfl (dtRv hb1) (by decide) rfl (Nat.le_of_ble_eq_true rfl) (Nat.le_of_ble_eq_true rfl) rfl ?_
  obtain ⟨ht6, hf7⟩ := dtIte h
  refine dr_if_ne 17 dX12_house_8 (by decide) (fun hc5 => ?_) (fun hc5 => ?_)
  · have h := hf7 hc5
    refine dr_aload_n p0 dX12_house_17 rfl ?_
    refine dr_sipush (2016 : Int32) dX12_house_18 (by decide) ?_
    obtain ⟨_, hb8, h⟩ := dtBind h
    obtain ⟨μ9, e10, h⟩ := dtBind h
    refine dr_callV_v (S0 := []) [.int (2016 : Int32)] μ9 dX12_house_21 (c_X12_plain p0 (2016 : Int32) μ2 e10) mf_X12_plain wt_1345 ws_52 wt_1343 rfl (dtRv hb8) (by decide) rfl (Nat.le_of_ble_eq_true rfl) (Nat.le_of_ble_eq_true rfl) rfl ?_
    refine dr_aload_n p0 dX12_house_24 rfl ?_
    refine dr_iconst (0 : Int32) dX12_house_25 (by decide) ?_
    obtain ⟨μ11, e12, h⟩ := dtBind h
    refine dr_putI μ11 dX12_house_26 fl_RX12_244 rfl e12 ?_
    refine dr_iconst (1 : Int32) dX12_house_29 (by decide) ?_
    refine dr_istore_n 2 [some (.ref p0), some (.int p1), some (.int (1 : Int32))] dX12_house_30 rfl rfl rfl rfl ?_
    refine dr_mask [true, false, true] [some (.ref p0), none, some (.int (1 : Int32))] rfl ?_
    exact c_X12_house_31 dtFuel p0 (1 : Int32) μ11 h
  · have h := ht6 hc5
    refine dr_aload_n p0 dX12_house_11 rfl ?_
    refine dr_iconst (1 : Int32) dX12_house_12 (by decide) ?_
    obtain ⟨_, hb13, h⟩ := dtBind h
    obtain ⟨x16, μ14, e15, h⟩ := dtCall h
    refine dr_callV_i (S0 := []) [.int (1 : Int32)] x16 μ14 dX12_house_13 (c_X12_refuse p0 (1 : Int32) μ2 e15) mf_X12_refuse wt_1552 ws_59 wt_1550 rfl (dtRv hb13) (by decide) rfl (Nat.le_of_ble_eq_true rfl) (Nat.le_of_ble_eq_true rfl) rfl ?_
    cases h
    exact dr_ireturn dX12_house_16 rfl
/-! X12_personTo -/
theorem dX12_personTo_0 : decode cX12_personTo 0 = .ok (.aload_n 0, 1) := by decide +kernel
theorem dX12_personTo_1 : decode cX12_personTo 1 = .ok (.bipush 14, 2) := by decide +kernel
theorem dX12_personTo_3 : decode cX12_personTo 3 = .ok (.aload_n 0, 1) := by decide +kernel
theorem dX12_personTo_4 : decode cX12_personTo 4 = .ok (.getfield 7, 3) := by decide +kernel
theorem dX12_personTo_7 : decode cX12_personTo 7 = .ok (.iconst 3, 1) := by decide +kernel
theorem dX12_personTo_8 : decode cX12_personTo 8 = .ok (.iaload, 1) := by decide +kernel
theorem dX12_personTo_9 : decode cX12_personTo 9 = .ok (.iload_n 1, 1) := by decide +kernel
theorem dX12_personTo_10 : decode cX12_personTo 10 = .ok (.invokevirtual 203, 3) := by decide +kernel
theorem dX12_personTo_13 : decode cX12_personTo 13 = .ok (.ireturn, 1) := by decide +kernel
set_option maxRecDepth 100000 in
def f_X12_personTo (p0 : Nat) (p1 : Int32) (μ : dtM) : Option (Int32 × dtM) :=
  (opGR 12 0 μ p0).bind fun x1 => (opLI 1 μ x1 (3 : Int32)).bind fun x3 => (opRv 12 μ p0).bind fun _ => opCall (f_X12_oldOne p0 (14 : Int32) x3 p1 μ) fun x8 μ6 => opRet x8 μ6
set_option maxRecDepth 100000 in
theorem c_X12_personTo {r : Int32} {F : dtM} (p0 : Nat) (p1 : Int32) (μ : dtM) (h : f_X12_personTo p0 p1 μ = some (r, F)) : dtMet yX12_personTo cX12_personTo 2 (some .boolean) 9 [.ref p0, .int p1] μ (some (.int r)) F := by
  refine dtMet.of (by decide +kernel) (Nat.le_of_ble_eq_true rfl) (show dtW yX12_personTo cX12_personTo 2 (some .boolean) 9 (some (.int r)) F 0 [some (.ref p0), some (.int p1)] [] μ from ?_)
  rw [f_X12_personTo] at h
  refine dr_aload_n p0 dX12_personTo_0 rfl ?_
  refine dr_bipush (14 : Int32) dX12_personTo_1 (by decide) ?_
  refine dr_aload_n p0 dX12_personTo_3 rfl ?_
  obtain ⟨x1, e2, h⟩ := dtBind h
  refine dr_getR x1 dX12_personTo_4 fl_RX12_7 e2 ?_
  refine dr_iconst (3 : Int32) dX12_personTo_7 (by decide) ?_
  obtain ⟨x3, e4, h⟩ := dtBind h
  refine dr_iaload x3 dX12_personTo_8 e4 ?_
  refine dr_iload_n p1 dX12_personTo_9 rfl ?_
  obtain ⟨_, hb5, h⟩ := dtBind h
  obtain ⟨x8, μ6, e7, h⟩ := dtCall h
  refine dr_callV_i (S0 := []) [.int (14 : Int32), .int x3, .int p1] x8 μ6 dX12_personTo_10 (c_X12_oldOne p0 (14 : Int32) x3 p1 μ e7) mf_X12_oldOne wt_1614 ws_73 wt_1612 rfl (dtRv hb5) (by decide) rfl (Nat.le_of_ble_eq_true rfl) (Nat.le_of_ble_eq_true rfl) rfl ?_
  obtain ⟨hz, rfl, rfl⟩ := dtRet h
  exact dr_ireturn dX12_personTo_13 (dtNz hz)
/-! X12_doorTo -/
theorem dX12_doorTo_0 : decode cX12_doorTo 0 = .ok (.aload_n 0, 1) := by decide +kernel
theorem dX12_doorTo_1 : decode cX12_doorTo 1 = .ok (.iload_n 1, 1) := by decide +kernel
theorem dX12_doorTo_2 : decode cX12_doorTo 2 = .ok (.iconst 0, 1) := by decide +kernel
theorem dX12_doorTo_3 : decode cX12_doorTo 3 = .ok (.aload_n 0, 1) := by decide +kernel
theorem dX12_doorTo_4 : decode cX12_doorTo 4 = .ok (.getfield 7, 3) := by decide +kernel
theorem dX12_doorTo_7 : decode cX12_doorTo 7 = .ok (.iconst 1, 1) := by decide +kernel
theorem dX12_doorTo_8 : decode cX12_doorTo 8 = .ok (.iaload, 1) := by decide +kernel
theorem dX12_doorTo_9 : decode cX12_doorTo 9 = .ok (.iconst 1, 1) := by decide +kernel
theorem dX12_doorTo_10 : decode cX12_doorTo 10 = .ok (.isub, 1) := by decide +kernel
theorem dX12_doorTo_11 : decode cX12_doorTo 11 = .ok (.invokevirtual 219, 3) := by decide +kernel
theorem dX12_doorTo_14 : decode cX12_doorTo 14 = .ok (.ireturn, 1) := by decide +kernel
set_option maxRecDepth 100000 in
def f_X12_doorTo (p0 : Nat) (p1 : Int32) (μ : dtM) : Option (Int32 × dtM) :=
  (opGR 12 0 μ p0).bind fun x1 => (opLI 1 μ x1 (1 : Int32)).bind fun x3 => (opRv 12 μ p0).bind fun _ => opCall (f_X12_number p0 p1 (0 : Int32) (x3 - (1 : Int32)) μ) fun x8 μ6 => opRet x8 μ6
set_option maxRecDepth 100000 in
theorem c_X12_doorTo {r : Int32} {F : dtM} (p0 : Nat) (p1 : Int32) (μ : dtM) (h : f_X12_doorTo p0 p1 μ = some (r, F)) : dtMet yX12_doorTo cX12_doorTo 2 (some .boolean) 4 [.ref p0, .int p1] μ (some (.int r)) F := by
  refine dtMet.of (by decide +kernel) (Nat.le_of_ble_eq_true rfl) (show dtW yX12_doorTo cX12_doorTo 2 (some .boolean) 4 (some (.int r)) F 0 [some (.ref p0), some (.int p1)] [] μ from ?_)
  rw [f_X12_doorTo] at h
  refine dr_aload_n p0 dX12_doorTo_0 rfl ?_
  refine dr_iload_n p1 dX12_doorTo_1 rfl ?_
  refine dr_iconst (0 : Int32) dX12_doorTo_2 (by decide) ?_
  refine dr_aload_n p0 dX12_doorTo_3 rfl ?_
  obtain ⟨x1, e2, h⟩ := dtBind h
  refine dr_getR x1 dX12_doorTo_4 fl_RX12_7 e2 ?_
  refine dr_iconst (1 : Int32) dX12_doorTo_7 (by decide) ?_
  obtain ⟨x3, e4, h⟩ := dtBind h
  refine dr_iaload x3 dX12_doorTo_8 e4 ?_
  refine dr_iconst (1 : Int32) dX12_doorTo_9 (by decide) ?_
  refine dr_isub dX12_doorTo_10 ?_
  obtain ⟨_, hb5, h⟩ := dtBind h
  obtain ⟨x8, μ6, e7, h⟩ := dtCall h
  refine dr_callV_i (S0 := []) [.int p1, .int (0 : Int32), .int (x3 - (1 : Int32))] x8 μ6 dX12_doorTo_11 (c_X12_number p0 p1 (0 : Int32) (x3 - (1 : Int32)) μ e7) mf_X12_number wt_1571 ws_63 wt_1569 rfl (dtRv hb5) (by decide) rfl (Nat.le_of_ble_eq_true rfl) (Nat.le_of_ble_eq_true rfl) rfl ?_
  obtain ⟨hz, rfl, rfl⟩ := dtRet h
  exact dr_ireturn dX12_doorTo_14 (dtNz hz)
/-! X12_soundTo -/
theorem dX12_soundTo_0 : decode cX12_soundTo 0 = .ok (.aload_n 0, 1) := by decide +kernel
theorem dX12_soundTo_1 : decode cX12_soundTo 1 = .ok (.invokevirtual 232, 3) := by decide +kernel
theorem dX12_soundTo_4 : decode cX12_soundTo 4 = .ok (.ifCond .ne 9, 3) := by decide +kernel
theorem dX12_soundTo_7 : decode cX12_soundTo 7 = .ok (.aload_n 0, 1) := by decide +kernel
theorem dX12_soundTo_8 : decode cX12_soundTo 8 = .ok (.iconst 2, 1) := by decide +kernel
theorem dX12_soundTo_9 : decode cX12_soundTo 9 = .ok (.invokevirtual 175, 3) := by decide +kernel
theorem dX12_soundTo_12 : decode cX12_soundTo 12 = .ok (.ireturn, 1) := by decide +kernel
theorem dX12_soundTo_13 : decode cX12_soundTo 13 = .ok (.aload_n 0, 1) := by decide +kernel
theorem dX12_soundTo_14 : decode cX12_soundTo 14 = .ok (.getfield 7, 3) := by decide +kernel
theorem dX12_soundTo_17 : decode cX12_soundTo 17 = .ok (.iload_n 1, 1) := by decide +kernel
theorem dX12_soundTo_18 : decode cX12_soundTo 18 = .ok (.aload_n 0, 1) := by decide +kernel
theorem dX12_soundTo_19 : decode cX12_soundTo 19 = .ok (.ldc 186, 2) := by decide +kernel
theorem dX12_soundTo_21 : decode cX12_soundTo 21 = .ok (.invokevirtual 178, 3) := by decide +kernel
theorem dX12_soundTo_24 : decode cX12_soundTo 24 = .ok (.bipush 8, 2) := by decide +kernel
theorem dX12_soundTo_26 : decode cX12_soundTo 26 = .ok (.isub, 1) := by decide +kernel
theorem dX12_soundTo_27 : decode cX12_soundTo 27 = .ok (.iastore, 1) := by decide +kernel
theorem dX12_soundTo_28 : decode cX12_soundTo 28 = .ok (.aload_n 0, 1) := by decide +kernel
theorem dX12_soundTo_29 : decode cX12_soundTo 29 = .ok (.invokevirtual 169, 3) := by decide +kernel
theorem dX12_soundTo_32 : decode cX12_soundTo 32 = .ok (.iconst 1, 1) := by decide +kernel
theorem dX12_soundTo_33 : decode cX12_soundTo 33 = .ok (.ireturn, 1) := by decide +kernel
set_option maxRecDepth 100000 in
def f_X12_soundTo (p0 : Nat) (p1 : Int32) (μ : dtM) : Option (Int32 × dtM) :=
  (opRv 12 μ p0).bind fun _ => opCall (f_X12_isSound p0 μ) fun x4 μ2 => if x4 = 0 then ((opRv 12 μ2 p0).bind fun _ => opCall (f_X12_fails p0 (2 : Int32) μ2) fun x22 μ20 => opRet x22 μ20) else ((opGR 12 0 μ2 p0).bind fun x8 => (opRv 12 μ2 p0).bind fun _ => opCall (f_X12_inWords p0 1000003 μ2) fun x13 μ11 => (opSI μ11 x8 p1 (x13 - (8 : Int32))).bind fun μ14 => (opRv 12 μ14 p0).bind fun _ => (f_X12_ahead p0 μ14).bind fun μ17 => opRet (1 : Int32) μ17)
set_option maxRecDepth 100000 in
theorem c_X12_soundTo {r : Int32} {F : dtM} (p0 : Nat) (p1 : Int32) (μ : dtM) (h : f_X12_soundTo p0 p1 μ = some (r, F)) : dtMet yX12_soundTo cX12_soundTo 2 (some .boolean) 8 [.ref p0, .int p1] μ (some (.int r)) F := by
  refine dtMet.of (by decide +kernel) (Nat.le_of_ble_eq_true rfl) (show dtW yX12_soundTo cX12_soundTo 2 (some .boolean) 8 (some (.int r)) F 0 [some (.ref p0), some (.int p1)] [] μ from ?_)
  rw [f_X12_soundTo] at h
  refine dr_aload_n p0 dX12_soundTo_0 rfl ?_
  obtain ⟨_, hb1, h⟩ := dtBind h
  obtain ⟨x4, μ2, e3, h⟩ := dtCall h
  refine dr_callV_i (S0 := []) [] x4 μ2 dX12_soundTo_1 (c_X12_isSound p0 μ e3) mf_X12_isSound wt_1633 ws_77 wt_1631 rfl (dtRv hb1) (by decide) rfl (Nat.le_of_ble_eq_true rfl) (Nat.le_of_ble_eq_true rfl) rfl ?_
  obtain ⟨ht6, hf7⟩ := dtIte h
  refine dr_if_ne 13 dX12_soundTo_4 (by decide) (fun hc5 => ?_) (fun hc5 => ?_)
  · have h := hf7 hc5
    refine dr_aload_n p0 dX12_soundTo_13 rfl ?_
    obtain ⟨x8, e9, h⟩ := dtBind h
    refine dr_getR x8 dX12_soundTo_14 fl_RX12_7 e9 ?_
    refine dr_iload_n p1 dX12_soundTo_17 rfl ?_
    refine dr_aload_n p0 dX12_soundTo_18 rfl ?_
    refine dr_ldcS1 dX12_soundTo_19 rfl ?_
    obtain ⟨_, hb10, h⟩ := dtBind h
    obtain ⟨x13, μ11, e12, h⟩ := dtCall h
    refine dr_callV_i (S0 := [.int p1, .ref x8]) [.ref 1000003] x13 μ11 dX12_soundTo_21 (c_X12_inWords p0 1000003 μ2 e12) mf_X12_inWords wt_1561 ws_61 wt_1559 rfl (dtRv hb10) (by decide) rfl (Nat.le_of_ble_eq_true rfl) (Nat.le_of_ble_eq_true rfl) rfl ?_
    refine dr_bipush (8 : Int32) dX12_soundTo_24 (by decide) ?_
    refine dr_isub dX12_soundTo_26 ?_
    obtain ⟨μ14, e15, h⟩ := dtBind h
    refine dr_iastore μ14 dX12_soundTo_27 e15 ?_
    refine dr_aload_n p0 dX12_soundTo_28 rfl ?_
    obtain ⟨_, hb16, h⟩ := dtBind h
    obtain ⟨μ17, e18, h⟩ := dtBind h
    refine dr_callV_v (S0 := []) [] μ17 dX12_soundTo_29 (c_X12_ahead p0 μ14 e18) mf_X12_ahead wt_1536 ws_57 wt_1534 rfl (dtRv hb16) (by decide) rfl (Nat.le_of_ble_eq_true rfl) (Nat.le_of_ble_eq_true rfl) rfl ?_
    refine dr_iconst (1 : Int32) dX12_soundTo_32 (by decide) ?_
    obtain ⟨hz, rfl, rfl⟩ := dtRet h
    exact dr_ireturn dX12_soundTo_33 (dtNz hz)
  · have h := ht6 hc5
    refine dr_aload_n p0 dX12_soundTo_7 rfl ?_
    refine dr_iconst (2 : Int32) dX12_soundTo_8 (by decide) ?_
    obtain ⟨_, hb19, h⟩ := dtBind h
    obtain ⟨x22, μ20, e21, h⟩ := dtCall h
    refine dr_callV_i (S0 := []) [.int (2 : Int32)] x22 μ20 dX12_soundTo_9 (c_X12_fails p0 (2 : Int32) μ2 e21) mf_X12_fails wt_1567 ws_62 wt_1565 rfl (dtRv hb19) (by decide) rfl (Nat.le_of_ble_eq_true rfl) (Nat.le_of_ble_eq_true rfl) rfl ?_
    obtain ⟨hz, rfl, rfl⟩ := dtRet h
    exact dr_ireturn dX12_soundTo_12 (dtNz hz)
/-! X12_test -/
theorem dX12_test_0 : decode cX12_test 0 = .ok (.aload_n 0, 1) := by decide +kernel
theorem dX12_test_1 : decode cX12_test 1 = .ok (.ldc 186, 2) := by decide +kernel
theorem dX12_test_3 : decode cX12_test 3 = .ok (.invokevirtual 178, 3) := by decide +kernel
theorem dX12_test_6 : decode cX12_test 6 = .ok (.istore_n 2, 1) := by decide +kernel
theorem dX12_test_7 : decode cX12_test 7 = .ok (.iload_n 2, 1) := by decide +kernel
theorem dX12_test_8 : decode cX12_test 8 = .ok (.bipush 12, 2) := by decide +kernel
theorem dX12_test_10 : decode cX12_test 10 = .ok (.if_icmp .eq 21, 3) := by decide +kernel
theorem dX12_test_13 : decode cX12_test 13 = .ok (.iload_n 2, 1) := by decide +kernel
theorem dX12_test_14 : decode cX12_test 14 = .ok (.bipush 6, 2) := by decide +kernel
theorem dX12_test_16 : decode cX12_test 16 = .ok (.if_icmp .eq 15, 3) := by decide +kernel
theorem dX12_test_19 : decode cX12_test 19 = .ok (.iload_n 2, 1) := by decide +kernel
theorem dX12_test_20 : decode cX12_test 20 = .ok (.bipush 23, 2) := by decide +kernel
theorem dX12_test_22 : decode cX12_test 22 = .ok (.if_icmp .eq 9, 3) := by decide +kernel
theorem dX12_test_25 : decode cX12_test 25 = .ok (.aload_n 0, 1) := by decide +kernel
theorem dX12_test_26 : decode cX12_test 26 = .ok (.iconst 2, 1) := by decide +kernel
theorem dX12_test_27 : decode cX12_test 27 = .ok (.invokevirtual 175, 3) := by decide +kernel
theorem dX12_test_30 : decode cX12_test 30 = .ok (.ireturn, 1) := by decide +kernel
theorem dX12_test_31 : decode cX12_test 31 = .ok (.aload_n 0, 1) := by decide +kernel
theorem dX12_test_32 : decode cX12_test 32 = .ok (.getfield 7, 3) := by decide +kernel
theorem dX12_test_35 : decode cX12_test 35 = .ok (.iload_n 1, 1) := by decide +kernel
theorem dX12_test_36 : decode cX12_test 36 = .ok (.sipush 1900, 3) := by decide +kernel
theorem dX12_test_39 : decode cX12_test 39 = .ok (.iload_n 2, 1) := by decide +kernel
theorem dX12_test_40 : decode cX12_test 40 = .ok (.iadd, 1) := by decide +kernel
theorem dX12_test_41 : decode cX12_test 41 = .ok (.iastore, 1) := by decide +kernel
theorem dX12_test_42 : decode cX12_test 42 = .ok (.aload_n 0, 1) := by decide +kernel
theorem dX12_test_43 : decode cX12_test 43 = .ok (.invokevirtual 169, 3) := by decide +kernel
theorem dX12_test_46 : decode cX12_test 46 = .ok (.iload_n 2, 1) := by decide +kernel
theorem dX12_test_47 : decode cX12_test 47 = .ok (.bipush 6, 2) := by decide +kernel
theorem dX12_test_49 : decode cX12_test 49 = .ok (.if_icmp .ne 11, 3) := by decide +kernel
theorem dX12_test_52 : decode cX12_test 52 = .ok (.aload_n 0, 1) := by decide +kernel
theorem dX12_test_53 : decode cX12_test 53 = .ok (.iload_n 1, 1) := by decide +kernel
theorem dX12_test_54 : decode cX12_test 54 = .ok (.iconst 1, 1) := by decide +kernel
theorem dX12_test_55 : decode cX12_test 55 = .ok (.iadd, 1) := by decide +kernel
theorem dX12_test_56 : decode cX12_test 56 = .ok (.invokevirtual 271, 3) := by decide +kernel
theorem dX12_test_59 : decode cX12_test 59 = .ok (.ireturn, 1) := by decide +kernel
theorem dX12_test_60 : decode cX12_test 60 = .ok (.aload_n 0, 1) := by decide +kernel
theorem dX12_test_61 : decode cX12_test 61 = .ok (.iload_n 1, 1) := by decide +kernel
theorem dX12_test_62 : decode cX12_test 62 = .ok (.iconst 1, 1) := by decide +kernel
theorem dX12_test_63 : decode cX12_test 63 = .ok (.iadd, 1) := by decide +kernel
theorem dX12_test_64 : decode cX12_test 64 = .ok (.invokevirtual 274, 3) := by decide +kernel
theorem dX12_test_67 : decode cX12_test 67 = .ok (.ifCond .ne 5, 3) := by decide +kernel
theorem dX12_test_70 : decode cX12_test 70 = .ok (.iconst 0, 1) := by decide +kernel
theorem dX12_test_71 : decode cX12_test 71 = .ok (.ireturn, 1) := by decide +kernel
theorem dX12_test_72 : decode cX12_test 72 = .ok (.iload_n 2, 1) := by decide +kernel
theorem dX12_test_73 : decode cX12_test 73 = .ok (.bipush 12, 2) := by decide +kernel
theorem dX12_test_75 : decode cX12_test 75 = .ok (.if_icmp .ne 18, 3) := by decide +kernel
theorem dX12_test_78 : decode cX12_test 78 = .ok (.aload_n 0, 1) := by decide +kernel
theorem dX12_test_79 : decode cX12_test 79 = .ok (.iconst 0, 1) := by decide +kernel
theorem dX12_test_80 : decode cX12_test 80 = .ok (.aload_n 0, 1) := by decide +kernel
theorem dX12_test_81 : decode cX12_test 81 = .ok (.getfield 7, 3) := by decide +kernel
theorem dX12_test_84 : decode cX12_test 84 = .ok (.iconst 0, 1) := by decide +kernel
theorem dX12_test_85 : decode cX12_test 85 = .ok (.iaload, 1) := by decide +kernel
theorem dX12_test_86 : decode cX12_test 86 = .ok (.iload_n 1, 1) := by decide +kernel
theorem dX12_test_87 : decode cX12_test 87 = .ok (.iconst 2, 1) := by decide +kernel
theorem dX12_test_88 : decode cX12_test 88 = .ok (.iadd, 1) := by decide +kernel
theorem dX12_test_89 : decode cX12_test 89 = .ok (.invokevirtual 203, 3) := by decide +kernel
theorem dX12_test_92 : decode cX12_test 92 = .ok (.ireturn, 1) := by decide +kernel
theorem dX12_test_93 : decode cX12_test 93 = .ok (.aload_n 0, 1) := by decide +kernel
theorem dX12_test_94 : decode cX12_test 94 = .ok (.bipush 60, 2) := by decide +kernel
theorem dX12_test_96 : decode cX12_test 96 = .ok (.invokevirtual 172, 3) := by decide +kernel
theorem dX12_test_99 : decode cX12_test 99 = .ok (.ifCond .ne 27, 3) := by decide +kernel
theorem dX12_test_102 : decode cX12_test 102 = .ok (.aload_n 0, 1) := by decide +kernel
theorem dX12_test_103 : decode cX12_test 103 = .ok (.bipush 62, 2) := by decide +kernel
theorem dX12_test_105 : decode cX12_test 105 = .ok (.invokevirtual 172, 3) := by decide +kernel
theorem dX12_test_108 : decode cX12_test 108 = .ok (.ifCond .ne 18, 3) := by decide +kernel
theorem dX12_test_111 : decode cX12_test 111 = .ok (.aload_n 0, 1) := by decide +kernel
theorem dX12_test_112 : decode cX12_test 112 = .ok (.bipush 61, 2) := by decide +kernel
theorem dX12_test_114 : decode cX12_test 114 = .ok (.invokevirtual 172, 3) := by decide +kernel
theorem dX12_test_117 : decode cX12_test 117 = .ok (.ifCond .ne 9, 3) := by decide +kernel
theorem dX12_test_120 : decode cX12_test 120 = .ok (.aload_n 0, 1) := by decide +kernel
theorem dX12_test_121 : decode cX12_test 121 = .ok (.iconst 2, 1) := by decide +kernel
theorem dX12_test_122 : decode cX12_test 122 = .ok (.invokevirtual 175, 3) := by decide +kernel
theorem dX12_test_125 : decode cX12_test 125 = .ok (.ireturn, 1) := by decide +kernel
theorem dX12_test_126 : decode cX12_test 126 = .ok (.aload_n 0, 1) := by decide +kernel
theorem dX12_test_127 : decode cX12_test 127 = .ok (.getfield 7, 3) := by decide +kernel
theorem dX12_test_130 : decode cX12_test 130 = .ok (.iload_n 1, 1) := by decide +kernel
theorem dX12_test_131 : decode cX12_test 131 = .ok (.iconst 5, 1) := by decide +kernel
theorem dX12_test_132 : decode cX12_test 132 = .ok (.iadd, 1) := by decide +kernel
theorem dX12_test_133 : decode cX12_test 133 = .ok (.aload_n 0, 1) := by decide +kernel
theorem dX12_test_134 : decode cX12_test 134 = .ok (.getfield 135, 3) := by decide +kernel
theorem dX12_test_137 : decode cX12_test 137 = .ok (.iastore, 1) := by decide +kernel
theorem dX12_test_138 : decode cX12_test 138 = .ok (.aload_n 0, 1) := by decide +kernel
theorem dX12_test_139 : decode cX12_test 139 = .ok (.invokevirtual 169, 3) := by decide +kernel
theorem dX12_test_142 : decode cX12_test 142 = .ok (.aload_n 0, 1) := by decide +kernel
theorem dX12_test_143 : decode cX12_test 143 = .ok (.iload_n 1, 1) := by decide +kernel
theorem dX12_test_144 : decode cX12_test 144 = .ok (.iconst 2, 1) := by decide +kernel
theorem dX12_test_145 : decode cX12_test 145 = .ok (.iadd, 1) := by decide +kernel
theorem dX12_test_146 : decode cX12_test 146 = .ok (.iconst 0, 1) := by decide +kernel
theorem dX12_test_147 : decode cX12_test 147 = .ok (.bipush 8, 2) := by decide +kernel
theorem dX12_test_149 : decode cX12_test 149 = .ok (.invokevirtual 219, 3) := by decide +kernel
theorem dX12_test_152 : decode cX12_test 152 = .ok (.ireturn, 1) := by decide +kernel
set_option maxRecDepth 100000 in
def f_X12_test_126 (l0 : Nat) (l1 : Int32) (μ : dtM) : Option (Int32 × dtM) :=
  (opGR 12 0 μ l0).bind fun x1 => (opGI 12 15 μ l0).bind fun x3 => (opSI μ x1 (l1 + (5 : Int32)) x3).bind fun μ5 => (opRv 12 μ5 l0).bind fun _ => (f_X12_ahead l0 μ5).bind fun μ8 => (opRv 12 μ8 l0).bind fun _ => opCall (f_X12_number l0 (l1 + (2 : Int32)) (0 : Int32) (8 : Int32) μ8) fun x13 μ11 => opRet x13 μ11
set_option maxRecDepth 100000 in
def f_X12_test_31 (l0 : Nat) (l1 : Int32) (l2 : Int32) (μ : dtM) : Option (Int32 × dtM) :=
  (opGR 12 0 μ l0).bind fun x1 => (opSI μ x1 l1 ((1900 : Int32) + l2)).bind fun μ3 => (opRv 12 μ3 l0).bind fun _ => (f_X12_ahead l0 μ3).bind fun μ6 => if l2 = (6 : Int32) then ((opRv 12 μ6 l0).bind fun _ => opCall (f_X12_doorTo l0 (l1 + (1 : Int32)) μ6) fun x57 μ55 => opRet x57 μ55) else ((opRv 12 μ6 l0).bind fun _ => opCall (f_X12_personTo l0 (l1 + (1 : Int32)) μ6) fun x14 μ12 => if x14 = 0 then (opRet (0 : Int32) μ12) else (if l2 = (12 : Int32) then ((opGR 12 0 μ12 l0).bind fun x46 => (opLI 1 μ12 x46 (0 : Int32)).bind fun x48 => (opRv 12 μ12 l0).bind fun _ => opCall (f_X12_oldOne l0 (0 : Int32) x48 (l1 + (2 : Int32)) μ12) fun x53 μ51 => opRet x53 μ51) else ((opRv 12 μ12 l0).bind fun _ => opCall (f_X12_isSign l0 (60 : Int32) μ12) fun x24 μ22 => if x24 = 0 then ((opRv 12 μ22 l0).bind fun _ => opCall (f_X12_isSign l0 (62 : Int32) μ22) fun x31 μ29 => if x31 = 0 then ((opRv 12 μ29 l0).bind fun _ => opCall (f_X12_isSign l0 (61 : Int32) μ29) fun x38 μ36 => if x38 = 0 then ((opRv 12 μ36 l0).bind fun _ => opCall (f_X12_fails l0 (2 : Int32) μ36) fun x45 μ43 => opRet x45 μ43) else (f_X12_test_126 l0 l1 μ36)) else (f_X12_test_126 l0 l1 μ29)) else (f_X12_test_126 l0 l1 μ22))))
set_option maxRecDepth 100000 in
def f_X12_test (p0 : Nat) (p1 : Int32) (μ : dtM) : Option (Int32 × dtM) :=
  (opRv 12 μ p0).bind fun _ => opCall (f_X12_inWords p0 1000003 μ) fun x4 μ2 => if x4 = (12 : Int32) then (f_X12_test_31 p0 p1 x4 μ2) else (if x4 = (6 : Int32) then (f_X12_test_31 p0 p1 x4 μ2) else (if x4 = (23 : Int32) then (f_X12_test_31 p0 p1 x4 μ2) else ((opRv 12 μ2 p0).bind fun _ => opCall (f_X12_fails p0 (2 : Int32) μ2) fun x17 μ15 => opRet x17 μ15)))
set_option maxRecDepth 100000 in
theorem c_X12_test_126 {r : Int32} {F : dtM} (l0 : Nat) (l1 : Int32) (μ : dtM) (h : f_X12_test_126 l0 l1 μ = some (r, F)) : dtW yX12_test cX12_test 3 (some .boolean) 10 (some (.int r)) F 126 [some (.ref l0), some (.int l1)] [] μ := by
  rw [f_X12_test_126] at h
  refine dr_aload_n l0 dX12_test_126 rfl ?_
  obtain ⟨x1, e2, h⟩ := dtBind h
  refine dr_getR x1 dX12_test_127 fl_RX12_7 e2 ?_
  refine dr_iload_n l1 dX12_test_130 rfl ?_
  refine dr_iconst (5 : Int32) dX12_test_131 (by decide) ?_
  refine dr_iadd dX12_test_132 ?_
  refine dr_aload_n l0 dX12_test_133 rfl ?_
  obtain ⟨x3, e4, h⟩ := dtBind h
  refine dr_getI x3 dX12_test_134 fl_RX12_135 e4 ?_
  obtain ⟨μ5, e6, h⟩ := dtBind h
  refine dr_iastore μ5 dX12_test_137 e6 ?_
  refine dr_aload_n l0 dX12_test_138 rfl ?_
  obtain ⟨_, hb7, h⟩ := dtBind h
  obtain ⟨μ8, e9, h⟩ := dtBind h
  refine dr_callV_v (S0 := []) [] μ8 dX12_test_139 (c_X12_ahead l0 μ5 e9) mf_X12_ahead wt_1536 ws_57 wt_1534 rfl (dtRv hb7) (by decide) rfl (Nat.le_of_ble_eq_true rfl) (Nat.le_of_ble_eq_true rfl) rfl ?_
  refine dr_aload_n l0 dX12_test_142 rfl ?_
  refine dr_iload_n l1 dX12_test_143 rfl ?_
  refine dr_iconst (2 : Int32) dX12_test_144 (by decide) ?_
  refine dr_iadd dX12_test_145 ?_
  refine dr_iconst (0 : Int32) dX12_test_146 (by decide) ?_
  refine dr_bipush (8 : Int32) dX12_test_147 (by decide) ?_
  obtain ⟨_, hb10, h⟩ := dtBind h
  obtain ⟨x13, μ11, e12, h⟩ := dtCall h
  refine dr_callV_i (S0 := []) [.int (l1 + (2 : Int32)), .int (0 : Int32), .int (8 : Int32)] x13 μ11 dX12_test_149 (c_X12_number l0 (l1 + (2 : Int32)) (0 : Int32) (8 : Int32) μ8 e12) mf_X12_number wt_1571 ws_63 wt_1569 rfl (dtRv hb10) (by decide) rfl (Nat.le_of_ble_eq_true rfl) (Nat.le_of_ble_eq_true rfl) rfl ?_
  obtain ⟨hz, rfl, rfl⟩ := dtRet h
  exact dr_ireturn dX12_test_152 (dtNz hz)
set_option maxRecDepth 100000 in
theorem c_X12_test_31 {r : Int32} {F : dtM} (l0 : Nat) (l1 : Int32) (l2 : Int32) (μ : dtM) (h : f_X12_test_31 l0 l1 l2 μ = some (r, F)) : dtW yX12_test cX12_test 3 (some .boolean) 10 (some (.int r)) F 31 [some (.ref l0), some (.int l1), some (.int l2)] [] μ := by
  rw [f_X12_test_31] at h
  refine dr_aload_n l0 dX12_test_31 rfl ?_
  obtain ⟨x1, e2, h⟩ := dtBind h
  refine dr_getR x1 dX12_test_32 fl_RX12_7 e2 ?_
  refine dr_iload_n l1 dX12_test_35 rfl ?_
  refine dr_sipush (1900 : Int32) dX12_test_36 (by decide) ?_
  refine dr_iload_n l2 dX12_test_39 rfl ?_
  refine dr_iadd dX12_test_40 ?_
  obtain ⟨μ3, e4, h⟩ := dtBind h
  refine dr_iastore μ3 dX12_test_41 e4 ?_
  refine dr_aload_n l0 dX12_test_42 rfl ?_
  obtain ⟨_, hb5, h⟩ := dtBind h
  obtain ⟨μ6, e7, h⟩ := dtBind h
  refine dr_callV_v (S0 := []) [] μ6 dX12_test_43 (c_X12_ahead l0 μ3 e7) mf_X12_ahead wt_1536 ws_57 wt_1534 rfl (dtRv hb5) (by decide) rfl (Nat.le_of_ble_eq_true rfl) (Nat.le_of_ble_eq_true rfl) rfl ?_
  refine dr_iload_n l2 dX12_test_46 rfl ?_
  refine dr_bipush (6 : Int32) dX12_test_47 (by decide) ?_
  obtain ⟨ht9, hf10⟩ := dtIte h
  refine dr_icmp_ne 60 dX12_test_49 (by decide) (fun hc8 => ?_) (fun hc8 => ?_)
  · have h := hf10 hc8
    refine dr_aload_n l0 dX12_test_60 rfl ?_
    refine dr_iload_n l1 dX12_test_61 rfl ?_
    refine dr_iconst (1 : Int32) dX12_test_62 (by decide) ?_
    refine dr_iadd dX12_test_63 ?_
    obtain ⟨_, hb11, h⟩ := dtBind h
    obtain ⟨x14, μ12, e13, h⟩ := dtCall h
    refine dr_callV_i (S0 := []) [.int (l1 + (1 : Int32))] x14 μ12 dX12_test_64 (c_X12_personTo l0 (l1 + (1 : Int32)) μ6 e13) mf_X12_personTo wt_1684 ws_88 wt_1682 rfl (dtRv hb11) (by decide) rfl (Nat.le_of_ble_eq_true rfl) (Nat.le_of_ble_eq_true rfl) rfl ?_
    obtain ⟨ht16, hf17⟩ := dtIte h
    refine dr_if_ne 72 dX12_test_67 (by decide) (fun hc15 => ?_) (fun hc15 => ?_)
    · have h := hf17 hc15
      refine dr_iload_n l2 dX12_test_72 rfl ?_
      refine dr_bipush (12 : Int32) dX12_test_73 (by decide) ?_
      obtain ⟨ht19, hf20⟩ := dtIte h
      refine dr_icmp_ne 93 dX12_test_75 (by decide) (fun hc18 => ?_) (fun hc18 => ?_)
      · have h := hf20 hc18
        refine dr_aload_n l0 dX12_test_93 rfl ?_
        refine dr_bipush (60 : Int32) dX12_test_94 (by decide) ?_
        obtain ⟨_, hb21, h⟩ := dtBind h
        obtain ⟨x24, μ22, e23, h⟩ := dtCall h
        refine dr_callV_i (S0 := []) [.int (60 : Int32)] x24 μ22 dX12_test_96 (c_X12_isSign l0 (60 : Int32) μ12 e23) mf_X12_isSign wt_1637 ws_78 wt_1635 rfl (dtRv hb21) (by decide) rfl (Nat.le_of_ble_eq_true rfl) (Nat.le_of_ble_eq_true rfl) rfl ?_
        obtain ⟨ht26, hf27⟩ := dtIte h
        refine dr_if_ne 126 dX12_test_99 (by decide) (fun hc25 => ?_) (fun hc25 => ?_)
        · have h := hf27 hc25
          refine dr_mask [true, true] [some (.ref l0), some (.int l1)] rfl ?_
          exact c_X12_test_126 l0 l1 μ22 h
        · have h := ht26 hc25
          refine dr_aload_n l0 dX12_test_102 rfl ?_
          refine dr_bipush (62 : Int32) dX12_test_103 (by decide) ?_
          obtain ⟨_, hb28, h⟩ := dtBind h
          obtain ⟨x31, μ29, e30, h⟩ := dtCall h
          refine dr_callV_i (S0 := []) [.int (62 : Int32)] x31 μ29 dX12_test_105 (c_X12_isSign l0 (62 : Int32) μ22 e30) mf_X12_isSign wt_1637 ws_78 wt_1635 rfl (dtRv hb28) (by decide) rfl (Nat.le_of_ble_eq_true rfl) (Nat.le_of_ble_eq_true rfl) rfl ?_
          obtain ⟨ht33, hf34⟩ := dtIte h
          refine dr_if_ne 126 dX12_test_108 (by decide) (fun hc32 => ?_) (fun hc32 => ?_)
          · have h := hf34 hc32
            refine dr_mask [true, true] [some (.ref l0), some (.int l1)] rfl ?_
            exact c_X12_test_126 l0 l1 μ29 h
          · have h := ht33 hc32
            refine dr_aload_n l0 dX12_test_111 rfl ?_
            refine dr_bipush (61 : Int32) dX12_test_112 (by decide) ?_
            obtain ⟨_, hb35, h⟩ := dtBind h
            obtain ⟨x38, μ36, e37, h⟩ := dtCall h
            refine dr_callV_i (S0 := []) [.int (61 : Int32)] x38 μ36 dX12_test_114 (c_X12_isSign l0 (61 : Int32) μ29 e37) mf_X12_isSign wt_1637 ws_78 wt_1635 rfl (dtRv hb35) (by decide) rfl (Nat.le_of_ble_eq_true rfl) (Nat.le_of_ble_eq_true rfl) rfl ?_
            obtain ⟨ht40, hf41⟩ := dtIte h
            refine dr_if_ne 126 dX12_test_117 (by decide) (fun hc39 => ?_) (fun hc39 => ?_)
            · have h := hf41 hc39
              refine dr_mask [true, true] [some (.ref l0), some (.int l1)] rfl ?_
              exact c_X12_test_126 l0 l1 μ36 h
            · have h := ht40 hc39
              refine dr_aload_n l0 dX12_test_120 rfl ?_
              refine dr_iconst (2 : Int32) dX12_test_121 (by decide) ?_
              obtain ⟨_, hb42, h⟩ := dtBind h
              obtain ⟨x45, μ43, e44, h⟩ := dtCall h
              refine dr_callV_i (S0 := []) [.int (2 : Int32)] x45 μ43 dX12_test_122 (c_X12_fails l0 (2 : Int32) μ36 e44) mf_X12_fails wt_1567 ws_62 wt_1565 rfl (dtRv hb42) (by decide) rfl (Nat.le_of_ble_eq_true rfl) (Nat.le_of_ble_eq_true rfl) rfl ?_
              obtain ⟨hz, rfl, rfl⟩ := dtRet h
              exact dr_ireturn dX12_test_125 (dtNz hz)
      · have h := ht19 hc18
        refine dr_aload_n l0 dX12_test_78 rfl ?_
        refine dr_iconst (0 : Int32) dX12_test_79 (by decide) ?_
        refine dr_aload_n l0 dX12_test_80 rfl ?_
        obtain ⟨x46, e47, h⟩ := dtBind h
        refine dr_getR x46 dX12_test_81 fl_RX12_7 e47 ?_
        refine dr_iconst (0 : Int32) dX12_test_84 (by decide) ?_
        obtain ⟨x48, e49, h⟩ := dtBind h
        refine dr_iaload x48 dX12_test_85 e49 ?_
        refine dr_iload_n l1 dX12_test_86 rfl ?_
        refine dr_iconst (2 : Int32) dX12_test_87 (by decide) ?_
        refine dr_iadd dX12_test_88 ?_
        obtain ⟨_, hb50, h⟩ := dtBind h
        obtain ⟨x53, μ51, e52, h⟩ := dtCall h
        refine dr_callV_i (S0 := []) [.int (0 : Int32), .int x48, .int (l1 + (2 : Int32))] x53 μ51 dX12_test_89 (c_X12_oldOne l0 (0 : Int32) x48 (l1 + (2 : Int32)) μ12 e52) mf_X12_oldOne wt_1614 ws_73 wt_1612 rfl (dtRv hb50) (by decide) rfl (Nat.le_of_ble_eq_true rfl) (Nat.le_of_ble_eq_true rfl) rfl ?_
        obtain ⟨hz, rfl, rfl⟩ := dtRet h
        exact dr_ireturn dX12_test_92 (dtNz hz)
    · have h := ht16 hc15
      refine dr_iconst (0 : Int32) dX12_test_70 (by decide) ?_
      obtain ⟨hz, rfl, rfl⟩ := dtRet h
      exact dr_ireturn dX12_test_71 (dtNz hz)
  · have h := ht9 hc8
    refine dr_aload_n l0 dX12_test_52 rfl ?_
    refine dr_iload_n l1 dX12_test_53 rfl ?_
    refine dr_iconst (1 : Int32) dX12_test_54 (by decide) ?_
    refine dr_iadd dX12_test_55 ?_
    obtain ⟨_, hb54, h⟩ := dtBind h
    obtain ⟨x57, μ55, e56, h⟩ := dtCall h
    refine dr_callV_i (S0 := []) [.int (l1 + (1 : Int32))] x57 μ55 dX12_test_56 (c_X12_doorTo l0 (l1 + (1 : Int32)) μ6 e56) mf_X12_doorTo wt_1688 ws_89 wt_1686 rfl (dtRv hb54) (by decide) rfl (Nat.le_of_ble_eq_true rfl) (Nat.le_of_ble_eq_true rfl) rfl ?_
    obtain ⟨hz, rfl, rfl⟩ := dtRet h
    exact dr_ireturn dX12_test_59 (dtNz hz)
set_option maxRecDepth 100000 in
theorem c_X12_test {r : Int32} {F : dtM} (p0 : Nat) (p1 : Int32) (μ : dtM) (h : f_X12_test p0 p1 μ = some (r, F)) : dtMet yX12_test cX12_test 3 (some .boolean) 10 [.ref p0, .int p1] μ (some (.int r)) F := by
  refine dtMet.of (by decide +kernel) (Nat.le_of_ble_eq_true rfl) (show dtW yX12_test cX12_test 3 (some .boolean) 10 (some (.int r)) F 0 [some (.ref p0), some (.int p1)] [] μ from ?_)
  rw [f_X12_test] at h
  refine dr_aload_n p0 dX12_test_0 rfl ?_
  refine dr_ldcS1 dX12_test_1 rfl ?_
  obtain ⟨_, hb1, h⟩ := dtBind h
  obtain ⟨x4, μ2, e3, h⟩ := dtCall h
  refine dr_callV_i (S0 := []) [.ref 1000003] x4 μ2 dX12_test_3 (c_X12_inWords p0 1000003 μ e3) mf_X12_inWords wt_1561 ws_61 wt_1559 rfl (dtRv hb1) (by decide) rfl (Nat.le_of_ble_eq_true rfl) (Nat.le_of_ble_eq_true rfl) rfl ?_
  refine dr_istore_n 2 [some (.ref p0), some (.int p1), some (.int x4)] dX12_test_6 rfl rfl rfl rfl ?_
  refine dr_iload_n x4 dX12_test_7 rfl ?_
  refine dr_bipush (12 : Int32) dX12_test_8 (by decide) ?_
  obtain ⟨ht6, hf7⟩ := dtIte h
  refine dr_icmp_eq 31 dX12_test_10 (by decide) (fun hc5 => ?_) (fun hc5 => ?_)
  · have h := ht6 hc5
    exact c_X12_test_31 p0 p1 x4 μ2 h
  · have h := hf7 hc5
    refine dr_iload_n x4 dX12_test_13 rfl ?_
    refine dr_bipush (6 : Int32) dX12_test_14 (by decide) ?_
    obtain ⟨ht9, hf10⟩ := dtIte h
    refine dr_icmp_eq 31 dX12_test_16 (by decide) (fun hc8 => ?_) (fun hc8 => ?_)
    · have h := ht9 hc8
      exact c_X12_test_31 p0 p1 x4 μ2 h
    · have h := hf10 hc8
      refine dr_iload_n x4 dX12_test_19 rfl ?_
      refine dr_bipush (23 : Int32) dX12_test_20 (by decide) ?_
      obtain ⟨ht12, hf13⟩ := dtIte h
      refine dr_icmp_eq 31 dX12_test_22 (by decide) (fun hc11 => ?_) (fun hc11 => ?_)
      · have h := ht12 hc11
        exact c_X12_test_31 p0 p1 x4 μ2 h
      · have h := hf13 hc11
        refine dr_aload_n p0 dX12_test_25 rfl ?_
        refine dr_iconst (2 : Int32) dX12_test_26 (by decide) ?_
        obtain ⟨_, hb14, h⟩ := dtBind h
        obtain ⟨x17, μ15, e16, h⟩ := dtCall h
        refine dr_callV_i (S0 := []) [.int (2 : Int32)] x17 μ15 dX12_test_27 (c_X12_fails p0 (2 : Int32) μ2 e16) mf_X12_fails wt_1567 ws_62 wt_1565 rfl (dtRv hb14) (by decide) rfl (Nat.le_of_ble_eq_true rfl) (Nat.le_of_ble_eq_true rfl) rfl ?_
        obtain ⟨hz, rfl, rfl⟩ := dtRet h
        exact dr_ireturn dX12_test_30 (dtNz hz)
/-! X12_dayOrder -/
theorem dX12_dayOrder_0 : decode cX12_dayOrder 0 = .ok (.iload_n 1, 1) := by decide +kernel
theorem dX12_dayOrder_1 : decode cX12_dayOrder 1 = .ok (.tableswitch 162 6 20 #[111, 162, 162, 162, 162, 162, 162, 162, 162, 75, 111, 137, 162, 156, 145], 75) := by decide +kernel
theorem dX12_dayOrder_76 : decode cX12_dayOrder 76 = .ok (.aload_n 0, 1) := by decide +kernel
theorem dX12_dayOrder_77 : decode cX12_dayOrder 77 = .ok (.iload_n 2, 1) := by decide +kernel
theorem dX12_dayOrder_78 : decode cX12_dayOrder 78 = .ok (.iconst 1, 1) := by decide +kernel
theorem dX12_dayOrder_79 : decode cX12_dayOrder 79 = .ok (.iadd, 1) := by decide +kernel
theorem dX12_dayOrder_80 : decode cX12_dayOrder 80 = .ok (.invokevirtual 274, 3) := by decide +kernel
theorem dX12_dayOrder_83 : decode cX12_dayOrder 83 = .ok (.ifCond .eq 27, 3) := by decide +kernel
theorem dX12_dayOrder_86 : decode cX12_dayOrder 86 = .ok (.aload_n 0, 1) := by decide +kernel
theorem dX12_dayOrder_87 : decode cX12_dayOrder 87 = .ok (.iload_n 2, 1) := by decide +kernel
theorem dX12_dayOrder_88 : decode cX12_dayOrder 88 = .ok (.iconst 2, 1) := by decide +kernel
theorem dX12_dayOrder_89 : decode cX12_dayOrder 89 = .ok (.iadd, 1) := by decide +kernel
theorem dX12_dayOrder_90 : decode cX12_dayOrder 90 = .ok (.invokevirtual 271, 3) := by decide +kernel
theorem dX12_dayOrder_93 : decode cX12_dayOrder 93 = .ok (.ifCond .eq 17, 3) := by decide +kernel
theorem dX12_dayOrder_96 : decode cX12_dayOrder 96 = .ok (.aload_n 0, 1) := by decide +kernel
theorem dX12_dayOrder_97 : decode cX12_dayOrder 97 = .ok (.iload_n 2, 1) := by decide +kernel
theorem dX12_dayOrder_98 : decode cX12_dayOrder 98 = .ok (.iconst 3, 1) := by decide +kernel
theorem dX12_dayOrder_99 : decode cX12_dayOrder 99 = .ok (.iadd, 1) := by decide +kernel
theorem dX12_dayOrder_100 : decode cX12_dayOrder 100 = .ok (.invokevirtual 277, 3) := by decide +kernel
theorem dX12_dayOrder_103 : decode cX12_dayOrder 103 = .ok (.ifCond .eq 7, 3) := by decide +kernel
theorem dX12_dayOrder_106 : decode cX12_dayOrder 106 = .ok (.iconst 1, 1) := by decide +kernel
theorem dX12_dayOrder_107 : decode cX12_dayOrder 107 = .ok (.goto 4, 3) := by decide +kernel
theorem dX12_dayOrder_110 : decode cX12_dayOrder 110 = .ok (.iconst 0, 1) := by decide +kernel
theorem dX12_dayOrder_111 : decode cX12_dayOrder 111 = .ok (.ireturn, 1) := by decide +kernel
theorem dX12_dayOrder_112 : decode cX12_dayOrder 112 = .ok (.aload_n 0, 1) := by decide +kernel
theorem dX12_dayOrder_113 : decode cX12_dayOrder 113 = .ok (.iload_n 2, 1) := by decide +kernel
theorem dX12_dayOrder_114 : decode cX12_dayOrder 114 = .ok (.iconst 1, 1) := by decide +kernel
theorem dX12_dayOrder_115 : decode cX12_dayOrder 115 = .ok (.iadd, 1) := by decide +kernel
theorem dX12_dayOrder_116 : decode cX12_dayOrder 116 = .ok (.invokevirtual 274, 3) := by decide +kernel
theorem dX12_dayOrder_119 : decode cX12_dayOrder 119 = .ok (.ifCond .eq 17, 3) := by decide +kernel
theorem dX12_dayOrder_122 : decode cX12_dayOrder 122 = .ok (.aload_n 0, 1) := by decide +kernel
theorem dX12_dayOrder_123 : decode cX12_dayOrder 123 = .ok (.iload_n 2, 1) := by decide +kernel
theorem dX12_dayOrder_124 : decode cX12_dayOrder 124 = .ok (.iconst 2, 1) := by decide +kernel
theorem dX12_dayOrder_125 : decode cX12_dayOrder 125 = .ok (.iadd, 1) := by decide +kernel
theorem dX12_dayOrder_126 : decode cX12_dayOrder 126 = .ok (.invokevirtual 271, 3) := by decide +kernel
theorem dX12_dayOrder_129 : decode cX12_dayOrder 129 = .ok (.ifCond .eq 7, 3) := by decide +kernel
theorem dX12_dayOrder_132 : decode cX12_dayOrder 132 = .ok (.iconst 1, 1) := by decide +kernel
theorem dX12_dayOrder_133 : decode cX12_dayOrder 133 = .ok (.goto 4, 3) := by decide +kernel
theorem dX12_dayOrder_136 : decode cX12_dayOrder 136 = .ok (.iconst 0, 1) := by decide +kernel
theorem dX12_dayOrder_137 : decode cX12_dayOrder 137 = .ok (.ireturn, 1) := by decide +kernel
theorem dX12_dayOrder_138 : decode cX12_dayOrder 138 = .ok (.aload_n 0, 1) := by decide +kernel
theorem dX12_dayOrder_139 : decode cX12_dayOrder 139 = .ok (.iload_n 2, 1) := by decide +kernel
theorem dX12_dayOrder_140 : decode cX12_dayOrder 140 = .ok (.iconst 1, 1) := by decide +kernel
theorem dX12_dayOrder_141 : decode cX12_dayOrder 141 = .ok (.iadd, 1) := by decide +kernel
theorem dX12_dayOrder_142 : decode cX12_dayOrder 142 = .ok (.invokevirtual 274, 3) := by decide +kernel
theorem dX12_dayOrder_145 : decode cX12_dayOrder 145 = .ok (.ireturn, 1) := by decide +kernel
theorem dX12_dayOrder_146 : decode cX12_dayOrder 146 = .ok (.aload_n 0, 1) := by decide +kernel
theorem dX12_dayOrder_147 : decode cX12_dayOrder 147 = .ok (.iload_n 2, 1) := by decide +kernel
theorem dX12_dayOrder_148 : decode cX12_dayOrder 148 = .ok (.iconst 1, 1) := by decide +kernel
theorem dX12_dayOrder_149 : decode cX12_dayOrder 149 = .ok (.iadd, 1) := by decide +kernel
theorem dX12_dayOrder_150 : decode cX12_dayOrder 150 = .ok (.iconst 1, 1) := by decide +kernel
theorem dX12_dayOrder_151 : decode cX12_dayOrder 151 = .ok (.bipush 99, 2) := by decide +kernel
theorem dX12_dayOrder_153 : decode cX12_dayOrder 153 = .ok (.invokevirtual 219, 3) := by decide +kernel
theorem dX12_dayOrder_156 : decode cX12_dayOrder 156 = .ok (.ireturn, 1) := by decide +kernel
theorem dX12_dayOrder_157 : decode cX12_dayOrder 157 = .ok (.aload_n 0, 1) := by decide +kernel
theorem dX12_dayOrder_158 : decode cX12_dayOrder 158 = .ok (.iload_n 2, 1) := by decide +kernel
theorem dX12_dayOrder_159 : decode cX12_dayOrder 159 = .ok (.invokevirtual 280, 3) := by decide +kernel
theorem dX12_dayOrder_162 : decode cX12_dayOrder 162 = .ok (.ireturn, 1) := by decide +kernel
theorem dX12_dayOrder_163 : decode cX12_dayOrder 163 = .ok (.iconst 1, 1) := by decide +kernel
theorem dX12_dayOrder_164 : decode cX12_dayOrder 164 = .ok (.ireturn, 1) := by decide +kernel
set_option maxRecDepth 100000 in
def f_X12_dayOrder_163  (μ : dtM) : Option (Int32 × dtM) :=
  opRet (1 : Int32) μ
set_option maxRecDepth 100000 in
def f_X12_dayOrder_137 (s0 : Int32) (μ : dtM) : Option (Int32 × dtM) :=
  opRet s0 μ
set_option maxRecDepth 100000 in
def f_X12_dayOrder_136  (μ : dtM) : Option (Int32 × dtM) :=
  f_X12_dayOrder_137 (0 : Int32) μ
set_option maxRecDepth 100000 in
def f_X12_dayOrder_112 (l0 : Nat) (l2 : Int32) (μ : dtM) : Option (Int32 × dtM) :=
  (opRv 12 μ l0).bind fun _ => opCall (f_X12_personTo l0 (l2 + (1 : Int32)) μ) fun x4 μ2 => if x4 = 0 then (f_X12_dayOrder_136 μ2) else ((opRv 12 μ2 l0).bind fun _ => opCall (f_X12_doorTo l0 (l2 + (2 : Int32)) μ2) fun x11 μ9 => if x11 = 0 then (f_X12_dayOrder_136 μ9) else (f_X12_dayOrder_137 (1 : Int32) μ9))
set_option maxRecDepth 100000 in
def f_X12_dayOrder_111 (s0 : Int32) (μ : dtM) : Option (Int32 × dtM) :=
  opRet s0 μ
set_option maxRecDepth 100000 in
def f_X12_dayOrder_110  (μ : dtM) : Option (Int32 × dtM) :=
  f_X12_dayOrder_111 (0 : Int32) μ
set_option maxRecDepth 100000 in
def f_X12_dayOrder_76 (l0 : Nat) (l2 : Int32) (μ : dtM) : Option (Int32 × dtM) :=
  (opRv 12 μ l0).bind fun _ => opCall (f_X12_personTo l0 (l2 + (1 : Int32)) μ) fun x4 μ2 => if x4 = 0 then (f_X12_dayOrder_110 μ2) else ((opRv 12 μ2 l0).bind fun _ => opCall (f_X12_doorTo l0 (l2 + (2 : Int32)) μ2) fun x11 μ9 => if x11 = 0 then (f_X12_dayOrder_110 μ9) else ((opRv 12 μ9 l0).bind fun _ => opCall (f_X12_soundTo l0 (l2 + (3 : Int32)) μ9) fun x18 μ16 => if x18 = 0 then (f_X12_dayOrder_110 μ16) else (f_X12_dayOrder_111 (1 : Int32) μ16)))
set_option maxRecDepth 100000 in
def f_X12_dayOrder_138 (l0 : Nat) (l2 : Int32) (μ : dtM) : Option (Int32 × dtM) :=
  (opRv 12 μ l0).bind fun _ => opCall (f_X12_personTo l0 (l2 + (1 : Int32)) μ) fun x4 μ2 => opRet x4 μ2
set_option maxRecDepth 100000 in
def f_X12_dayOrder_157 (l0 : Nat) (l2 : Int32) (μ : dtM) : Option (Int32 × dtM) :=
  (opRv 12 μ l0).bind fun _ => opCall (f_X12_test l0 l2 μ) fun x4 μ2 => opRet x4 μ2
set_option maxRecDepth 100000 in
def f_X12_dayOrder_146 (l0 : Nat) (l2 : Int32) (μ : dtM) : Option (Int32 × dtM) :=
  (opRv 12 μ l0).bind fun _ => opCall (f_X12_number l0 (l2 + (1 : Int32)) (1 : Int32) (99 : Int32) μ) fun x4 μ2 => opRet x4 μ2
set_option maxRecDepth 100000 in
def f_X12_dayOrder (p0 : Nat) (p1 : Int32) (p2 : Int32) (μ : dtM) : Option (Int32 × dtM) :=
  if p1 = 6 then (f_X12_dayOrder_112 p0 p2 μ) else if p1 = 15 then (f_X12_dayOrder_76 p0 p2 μ) else if p1 = 16 then (f_X12_dayOrder_112 p0 p2 μ) else if p1 = 17 then (f_X12_dayOrder_138 p0 p2 μ) else if p1 = 19 then (f_X12_dayOrder_157 p0 p2 μ) else if p1 = 20 then (f_X12_dayOrder_146 p0 p2 μ) else f_X12_dayOrder_163 μ
set_option maxRecDepth 100000 in
theorem c_X12_dayOrder_163 {r : Int32} {F : dtM}  (μ : dtM) (h : f_X12_dayOrder_163  μ = some (r, F)) : dtW yX12_dayOrder cX12_dayOrder 3 (some .boolean) 11 (some (.int r)) F 163 [] [] μ := by
  rw [f_X12_dayOrder_163] at h
  refine dr_iconst (1 : Int32) dX12_dayOrder_163 (by decide) ?_
  obtain ⟨hz, rfl, rfl⟩ := dtRet h
  exact dr_ireturn dX12_dayOrder_164 (dtNz hz)
set_option maxRecDepth 100000 in
theorem c_X12_dayOrder_137 {r : Int32} {F : dtM} (s0 : Int32) (μ : dtM) (h : f_X12_dayOrder_137 s0 μ = some (r, F)) : dtW yX12_dayOrder cX12_dayOrder 3 (some .boolean) 11 (some (.int r)) F 137 [] [.int s0] μ := by
  rw [f_X12_dayOrder_137] at h
  obtain ⟨hz, rfl, rfl⟩ := dtRet h
  exact dr_ireturn dX12_dayOrder_137 (dtNz hz)
set_option maxRecDepth 100000 in
theorem c_X12_dayOrder_136 {r : Int32} {F : dtM}  (μ : dtM) (h : f_X12_dayOrder_136  μ = some (r, F)) : dtW yX12_dayOrder cX12_dayOrder 3 (some .boolean) 11 (some (.int r)) F 136 [] [] μ := by
  rw [f_X12_dayOrder_136] at h
  refine dr_iconst (0 : Int32) dX12_dayOrder_136 (by decide) ?_
  exact c_X12_dayOrder_137 (0 : Int32) μ h
set_option maxRecDepth 100000 in
theorem c_X12_dayOrder_112 {r : Int32} {F : dtM} (l0 : Nat) (l2 : Int32) (μ : dtM) (h : f_X12_dayOrder_112 l0 l2 μ = some (r, F)) : dtW yX12_dayOrder cX12_dayOrder 3 (some .boolean) 11 (some (.int r)) F 112 [some (.ref l0), none, some (.int l2)] [] μ := by
  rw [f_X12_dayOrder_112] at h
  refine dr_aload_n l0 dX12_dayOrder_112 rfl ?_
  refine dr_iload_n l2 dX12_dayOrder_113 rfl ?_
  refine dr_iconst (1 : Int32) dX12_dayOrder_114 (by decide) ?_
  refine dr_iadd dX12_dayOrder_115 ?_
  obtain ⟨_, hb1, h⟩ := dtBind h
  obtain ⟨x4, μ2, e3, h⟩ := dtCall h
  refine dr_callV_i (S0 := []) [.int (l2 + (1 : Int32))] x4 μ2 dX12_dayOrder_116 (c_X12_personTo l0 (l2 + (1 : Int32)) μ e3) mf_X12_personTo wt_1684 ws_88 wt_1682 rfl (dtRv hb1) (by decide) rfl (Nat.le_of_ble_eq_true rfl) (Nat.le_of_ble_eq_true rfl) rfl ?_
  obtain ⟨ht6, hf7⟩ := dtIte h
  refine dr_if_eq 136 dX12_dayOrder_119 (by decide) (fun hc5 => ?_) (fun hc5 => ?_)
  · have h := ht6 hc5
    refine dr_mask [] [] rfl ?_
    exact c_X12_dayOrder_136 μ2 h
  · have h := hf7 hc5
    refine dr_aload_n l0 dX12_dayOrder_122 rfl ?_
    refine dr_iload_n l2 dX12_dayOrder_123 rfl ?_
    refine dr_iconst (2 : Int32) dX12_dayOrder_124 (by decide) ?_
    refine dr_iadd dX12_dayOrder_125 ?_
    obtain ⟨_, hb8, h⟩ := dtBind h
    obtain ⟨x11, μ9, e10, h⟩ := dtCall h
    refine dr_callV_i (S0 := []) [.int (l2 + (2 : Int32))] x11 μ9 dX12_dayOrder_126 (c_X12_doorTo l0 (l2 + (2 : Int32)) μ2 e10) mf_X12_doorTo wt_1688 ws_89 wt_1686 rfl (dtRv hb8) (by decide) rfl (Nat.le_of_ble_eq_true rfl) (Nat.le_of_ble_eq_true rfl) rfl ?_
    obtain ⟨ht13, hf14⟩ := dtIte h
    refine dr_if_eq 136 dX12_dayOrder_129 (by decide) (fun hc12 => ?_) (fun hc12 => ?_)
    · have h := ht13 hc12
      refine dr_mask [] [] rfl ?_
      exact c_X12_dayOrder_136 μ9 h
    · have h := hf14 hc12
      refine dr_iconst (1 : Int32) dX12_dayOrder_132 (by decide) ?_
      refine dr_goto 137 dX12_dayOrder_133 (by decide) ?_
      refine dr_mask [] [] rfl ?_
      exact c_X12_dayOrder_137 (1 : Int32) μ9 h
set_option maxRecDepth 100000 in
theorem c_X12_dayOrder_111 {r : Int32} {F : dtM} (s0 : Int32) (μ : dtM) (h : f_X12_dayOrder_111 s0 μ = some (r, F)) : dtW yX12_dayOrder cX12_dayOrder 3 (some .boolean) 11 (some (.int r)) F 111 [] [.int s0] μ := by
  rw [f_X12_dayOrder_111] at h
  obtain ⟨hz, rfl, rfl⟩ := dtRet h
  exact dr_ireturn dX12_dayOrder_111 (dtNz hz)
set_option maxRecDepth 100000 in
theorem c_X12_dayOrder_110 {r : Int32} {F : dtM}  (μ : dtM) (h : f_X12_dayOrder_110  μ = some (r, F)) : dtW yX12_dayOrder cX12_dayOrder 3 (some .boolean) 11 (some (.int r)) F 110 [] [] μ := by
  rw [f_X12_dayOrder_110] at h
  refine dr_iconst (0 : Int32) dX12_dayOrder_110 (by decide) ?_
  exact c_X12_dayOrder_111 (0 : Int32) μ h
set_option maxRecDepth 100000 in
theorem c_X12_dayOrder_76 {r : Int32} {F : dtM} (l0 : Nat) (l2 : Int32) (μ : dtM) (h : f_X12_dayOrder_76 l0 l2 μ = some (r, F)) : dtW yX12_dayOrder cX12_dayOrder 3 (some .boolean) 11 (some (.int r)) F 76 [some (.ref l0), none, some (.int l2)] [] μ := by
  rw [f_X12_dayOrder_76] at h
  refine dr_aload_n l0 dX12_dayOrder_76 rfl ?_
  refine dr_iload_n l2 dX12_dayOrder_77 rfl ?_
  refine dr_iconst (1 : Int32) dX12_dayOrder_78 (by decide) ?_
  refine dr_iadd dX12_dayOrder_79 ?_
  obtain ⟨_, hb1, h⟩ := dtBind h
  obtain ⟨x4, μ2, e3, h⟩ := dtCall h
  refine dr_callV_i (S0 := []) [.int (l2 + (1 : Int32))] x4 μ2 dX12_dayOrder_80 (c_X12_personTo l0 (l2 + (1 : Int32)) μ e3) mf_X12_personTo wt_1684 ws_88 wt_1682 rfl (dtRv hb1) (by decide) rfl (Nat.le_of_ble_eq_true rfl) (Nat.le_of_ble_eq_true rfl) rfl ?_
  obtain ⟨ht6, hf7⟩ := dtIte h
  refine dr_if_eq 110 dX12_dayOrder_83 (by decide) (fun hc5 => ?_) (fun hc5 => ?_)
  · have h := ht6 hc5
    refine dr_mask [] [] rfl ?_
    exact c_X12_dayOrder_110 μ2 h
  · have h := hf7 hc5
    refine dr_aload_n l0 dX12_dayOrder_86 rfl ?_
    refine dr_iload_n l2 dX12_dayOrder_87 rfl ?_
    refine dr_iconst (2 : Int32) dX12_dayOrder_88 (by decide) ?_
    refine dr_iadd dX12_dayOrder_89 ?_
    obtain ⟨_, hb8, h⟩ := dtBind h
    obtain ⟨x11, μ9, e10, h⟩ := dtCall h
    refine dr_callV_i (S0 := []) [.int (l2 + (2 : Int32))] x11 μ9 dX12_dayOrder_90 (c_X12_doorTo l0 (l2 + (2 : Int32)) μ2 e10) mf_X12_doorTo wt_1688 ws_89 wt_1686 rfl (dtRv hb8) (by decide) rfl (Nat.le_of_ble_eq_true rfl) (Nat.le_of_ble_eq_true rfl) rfl ?_
    obtain ⟨ht13, hf14⟩ := dtIte h
    refine dr_if_eq 110 dX12_dayOrder_93 (by decide) (fun hc12 => ?_) (fun hc12 => ?_)
    · have h := ht13 hc12
      refine dr_mask [] [] rfl ?_
      exact c_X12_dayOrder_110 μ9 h
    · have h := hf14 hc12
      refine dr_aload_n l0 dX12_dayOrder_96 rfl ?_
      refine dr_iload_n l2 dX12_dayOrder_97 rfl ?_
      refine dr_iconst (3 : Int32) dX12_dayOrder_98 (by decide) ?_
      refine dr_iadd dX12_dayOrder_99 ?_
      obtain ⟨_, hb15, h⟩ := dtBind h
      obtain ⟨x18, μ16, e17, h⟩ := dtCall h
      refine dr_callV_i (S0 := []) [.int (l2 + (3 : Int32))] x18 μ16 dX12_dayOrder_100 (c_X12_soundTo l0 (l2 + (3 : Int32)) μ9 e17) mf_X12_soundTo wt_1692 ws_90 wt_1690 rfl (dtRv hb15) (by decide) rfl (Nat.le_of_ble_eq_true rfl) (Nat.le_of_ble_eq_true rfl) rfl ?_
      obtain ⟨ht20, hf21⟩ := dtIte h
      refine dr_if_eq 110 dX12_dayOrder_103 (by decide) (fun hc19 => ?_) (fun hc19 => ?_)
      · have h := ht20 hc19
        refine dr_mask [] [] rfl ?_
        exact c_X12_dayOrder_110 μ16 h
      · have h := hf21 hc19
        refine dr_iconst (1 : Int32) dX12_dayOrder_106 (by decide) ?_
        refine dr_goto 111 dX12_dayOrder_107 (by decide) ?_
        refine dr_mask [] [] rfl ?_
        exact c_X12_dayOrder_111 (1 : Int32) μ16 h
set_option maxRecDepth 100000 in
theorem c_X12_dayOrder_138 {r : Int32} {F : dtM} (l0 : Nat) (l2 : Int32) (μ : dtM) (h : f_X12_dayOrder_138 l0 l2 μ = some (r, F)) : dtW yX12_dayOrder cX12_dayOrder 3 (some .boolean) 11 (some (.int r)) F 138 [some (.ref l0), none, some (.int l2)] [] μ := by
  rw [f_X12_dayOrder_138] at h
  refine dr_aload_n l0 dX12_dayOrder_138 rfl ?_
  refine dr_iload_n l2 dX12_dayOrder_139 rfl ?_
  refine dr_iconst (1 : Int32) dX12_dayOrder_140 (by decide) ?_
  refine dr_iadd dX12_dayOrder_141 ?_
  obtain ⟨_, hb1, h⟩ := dtBind h
  obtain ⟨x4, μ2, e3, h⟩ := dtCall h
  refine dr_callV_i (S0 := []) [.int (l2 + (1 : Int32))] x4 μ2 dX12_dayOrder_142 (c_X12_personTo l0 (l2 + (1 : Int32)) μ e3) mf_X12_personTo wt_1684 ws_88 wt_1682 rfl (dtRv hb1) (by decide) rfl (Nat.le_of_ble_eq_true rfl) (Nat.le_of_ble_eq_true rfl) rfl ?_
  obtain ⟨hz, rfl, rfl⟩ := dtRet h
  exact dr_ireturn dX12_dayOrder_145 (dtNz hz)
set_option maxRecDepth 100000 in
theorem c_X12_dayOrder_157 {r : Int32} {F : dtM} (l0 : Nat) (l2 : Int32) (μ : dtM) (h : f_X12_dayOrder_157 l0 l2 μ = some (r, F)) : dtW yX12_dayOrder cX12_dayOrder 3 (some .boolean) 11 (some (.int r)) F 157 [some (.ref l0), none, some (.int l2)] [] μ := by
  rw [f_X12_dayOrder_157] at h
  refine dr_aload_n l0 dX12_dayOrder_157 rfl ?_
  refine dr_iload_n l2 dX12_dayOrder_158 rfl ?_
  obtain ⟨_, hb1, h⟩ := dtBind h
  obtain ⟨x4, μ2, e3, h⟩ := dtCall h
  refine dr_callV_i (S0 := []) [.int l2] x4 μ2 dX12_dayOrder_159 (c_X12_test l0 l2 μ e3) mf_X12_test wt_1696 ws_91 wt_1694 rfl (dtRv hb1) (by decide) rfl (Nat.le_of_ble_eq_true rfl) (Nat.le_of_ble_eq_true rfl) rfl ?_
  obtain ⟨hz, rfl, rfl⟩ := dtRet h
  exact dr_ireturn dX12_dayOrder_162 (dtNz hz)
set_option maxRecDepth 100000 in
theorem c_X12_dayOrder_146 {r : Int32} {F : dtM} (l0 : Nat) (l2 : Int32) (μ : dtM) (h : f_X12_dayOrder_146 l0 l2 μ = some (r, F)) : dtW yX12_dayOrder cX12_dayOrder 3 (some .boolean) 11 (some (.int r)) F 146 [some (.ref l0), none, some (.int l2)] [] μ := by
  rw [f_X12_dayOrder_146] at h
  refine dr_aload_n l0 dX12_dayOrder_146 rfl ?_
  refine dr_iload_n l2 dX12_dayOrder_147 rfl ?_
  refine dr_iconst (1 : Int32) dX12_dayOrder_148 (by decide) ?_
  refine dr_iadd dX12_dayOrder_149 ?_
  refine dr_iconst (1 : Int32) dX12_dayOrder_150 (by decide) ?_
  refine dr_bipush (99 : Int32) dX12_dayOrder_151 (by decide) ?_
  obtain ⟨_, hb1, h⟩ := dtBind h
  obtain ⟨x4, μ2, e3, h⟩ := dtCall h
  refine dr_callV_i (S0 := []) [.int (l2 + (1 : Int32)), .int (1 : Int32), .int (99 : Int32)] x4 μ2 dX12_dayOrder_153 (c_X12_number l0 (l2 + (1 : Int32)) (1 : Int32) (99 : Int32) μ e3) mf_X12_number wt_1571 ws_63 wt_1569 rfl (dtRv hb1) (by decide) rfl (Nat.le_of_ble_eq_true rfl) (Nat.le_of_ble_eq_true rfl) rfl ?_
  obtain ⟨hz, rfl, rfl⟩ := dtRet h
  exact dr_ireturn dX12_dayOrder_156 (dtNz hz)
set_option maxRecDepth 100000 in
theorem c_X12_dayOrder {r : Int32} {F : dtM} (p0 : Nat) (p1 : Int32) (p2 : Int32) (μ : dtM) (h : f_X12_dayOrder p0 p1 p2 μ = some (r, F)) : dtMet yX12_dayOrder cX12_dayOrder 3 (some .boolean) 11 [.ref p0, .int p1, .int p2] μ (some (.int r)) F := by
  refine dtMet.of (by decide +kernel) (Nat.le_of_ble_eq_true rfl) (show dtW yX12_dayOrder cX12_dayOrder 3 (some .boolean) 11 (some (.int r)) F 0 [some (.ref p0), some (.int p1), some (.int p2)] [] μ from ?_)
  rw [f_X12_dayOrder] at h
  refine dr_iload_n p1 dX12_dayOrder_0 rfl ?_
  obtain ⟨ht1, h⟩ := dtIte h
  refine Decidable.byCases (dec := inferInstance) (fun hc3 : p1 = 6 => ?_) (fun hc3 => ?_)
  · have h := ht1 hc3
    refine dr_tableIn (off := 111) 112 dX12_dayOrder_1 (by rw [hc3]; decide) (by rw [hc3]; decide) (by rw [hc3]; rfl) (by decide) ?_
    refine dr_mask [true, false, true] [some (.ref p0), none, some (.int p2)] rfl ?_
    exact c_X12_dayOrder_112 p0 p2 μ h
  have h := h hc3
  obtain ⟨ht4, h⟩ := dtIte h
  refine Decidable.byCases (dec := inferInstance) (fun hc6 : p1 = 15 => ?_) (fun hc6 => ?_)
  · have h := ht4 hc6
    refine dr_tableIn (off := 75) 76 dX12_dayOrder_1 (by rw [hc6]; decide) (by rw [hc6]; decide) (by rw [hc6]; rfl) (by decide) ?_
    refine dr_mask [true, false, true] [some (.ref p0), none, some (.int p2)] rfl ?_
    exact c_X12_dayOrder_76 p0 p2 μ h
  have h := h hc6
  obtain ⟨ht7, h⟩ := dtIte h
  refine Decidable.byCases (dec := inferInstance) (fun hc9 : p1 = 16 => ?_) (fun hc9 => ?_)
  · have h := ht7 hc9
    refine dr_tableIn (off := 111) 112 dX12_dayOrder_1 (by rw [hc9]; decide) (by rw [hc9]; decide) (by rw [hc9]; rfl) (by decide) ?_
    refine dr_mask [true, false, true] [some (.ref p0), none, some (.int p2)] rfl ?_
    exact c_X12_dayOrder_112 p0 p2 μ h
  have h := h hc9
  obtain ⟨ht10, h⟩ := dtIte h
  refine Decidable.byCases (dec := inferInstance) (fun hc12 : p1 = 17 => ?_) (fun hc12 => ?_)
  · have h := ht10 hc12
    refine dr_tableIn (off := 137) 138 dX12_dayOrder_1 (by rw [hc12]; decide) (by rw [hc12]; decide) (by rw [hc12]; rfl) (by decide) ?_
    refine dr_mask [true, false, true] [some (.ref p0), none, some (.int p2)] rfl ?_
    exact c_X12_dayOrder_138 p0 p2 μ h
  have h := h hc12
  obtain ⟨ht13, h⟩ := dtIte h
  refine Decidable.byCases (dec := inferInstance) (fun hc15 : p1 = 19 => ?_) (fun hc15 => ?_)
  · have h := ht13 hc15
    refine dr_tableIn (off := 156) 157 dX12_dayOrder_1 (by rw [hc15]; decide) (by rw [hc15]; decide) (by rw [hc15]; rfl) (by decide) ?_
    refine dr_mask [true, false, true] [some (.ref p0), none, some (.int p2)] rfl ?_
    exact c_X12_dayOrder_157 p0 p2 μ h
  have h := h hc15
  obtain ⟨ht16, h⟩ := dtIte h
  refine Decidable.byCases (dec := inferInstance) (fun hc18 : p1 = 20 => ?_) (fun hc18 => ?_)
  · have h := ht16 hc18
    refine dr_tableIn (off := 145) 146 dX12_dayOrder_1 (by rw [hc18]; decide) (by rw [hc18]; decide) (by rw [hc18]; rfl) (by decide) ?_
    refine dr_mask [true, false, true] [some (.ref p0), none, some (.int p2)] rfl ?_
    exact c_X12_dayOrder_146 p0 p2 μ h
  have h := h hc18
  have kd19 : dtW yX12_dayOrder cX12_dayOrder 3 (some .boolean) 11 (some (.int r)) F 163 [some (.ref p0), some (.int p1), some (.int p2)] [] μ := by
    refine dr_mask [] [] rfl ?_
    exact c_X12_dayOrder_163 μ h
  refine Decidable.byCases (dec := inferInstance) (fun hlo : (p1).toInt < 6 ∨ 20 < (p1).toInt => dr_tableOut 163 dX12_dayOrder_1 hlo (by decide) kd19) (fun hlo => ?_)
  obtain ⟨hl1, hl2⟩ := not_or.mp hlo
  have hv : (p1).toInt = 6 ∨ (p1).toInt = 7 ∨ (p1).toInt = 8 ∨ (p1).toInt = 9 ∨ (p1).toInt = 10 ∨ (p1).toInt = 11 ∨ (p1).toInt = 12 ∨ (p1).toInt = 13 ∨ (p1).toInt = 14 ∨ (p1).toInt = 15 ∨ (p1).toInt = 16 ∨ (p1).toInt = 17 ∨ (p1).toInt = 18 ∨ (p1).toInt = 19 ∨ (p1).toInt = 20 := by omega
  rcases hv with hv | hv | hv | hv | hv | hv | hv | hv | hv | hv | hv | hv | hv | hv | hv
  · exact absurd (Int32.toInt_inj.mp (hv.trans (show (6 : Int) = (6 : Int32).toInt by decide))) hc3
  · exact dr_tableIn (off := 162) 163 dX12_dayOrder_1 hl1 hl2 (by rw [hv]; rfl) (by decide) kd19
  · exact dr_tableIn (off := 162) 163 dX12_dayOrder_1 hl1 hl2 (by rw [hv]; rfl) (by decide) kd19
  · exact dr_tableIn (off := 162) 163 dX12_dayOrder_1 hl1 hl2 (by rw [hv]; rfl) (by decide) kd19
  · exact dr_tableIn (off := 162) 163 dX12_dayOrder_1 hl1 hl2 (by rw [hv]; rfl) (by decide) kd19
  · exact dr_tableIn (off := 162) 163 dX12_dayOrder_1 hl1 hl2 (by rw [hv]; rfl) (by decide) kd19
  · exact dr_tableIn (off := 162) 163 dX12_dayOrder_1 hl1 hl2 (by rw [hv]; rfl) (by decide) kd19
  · exact dr_tableIn (off := 162) 163 dX12_dayOrder_1 hl1 hl2 (by rw [hv]; rfl) (by decide) kd19
  · exact dr_tableIn (off := 162) 163 dX12_dayOrder_1 hl1 hl2 (by rw [hv]; rfl) (by decide) kd19
  · exact absurd (Int32.toInt_inj.mp (hv.trans (show (15 : Int) = (15 : Int32).toInt by decide))) hc6
  · exact absurd (Int32.toInt_inj.mp (hv.trans (show (16 : Int) = (16 : Int32).toInt by decide))) hc9
  · exact absurd (Int32.toInt_inj.mp (hv.trans (show (17 : Int) = (17 : Int32).toInt by decide))) hc12
  · exact dr_tableIn (off := 162) 163 dX12_dayOrder_1 hl1 hl2 (by rw [hv]; rfl) (by decide) kd19
  · exact absurd (Int32.toInt_inj.mp (hv.trans (show (19 : Int) = (19 : Int32).toInt by decide))) hc15
  · exact absurd (Int32.toInt_inj.mp (hv.trans (show (20 : Int) = (20 : Int32).toInt by decide))) hc18
/-! X12_dayStep -/
theorem dX12_dayStep_0 : decode cX12_dayStep 0 = .ok (.aload_n 0, 1) := by decide +kernel
theorem dX12_dayStep_1 : decode cX12_dayStep 1 = .ok (.ldc 186, 2) := by decide +kernel
theorem dX12_dayStep_3 : decode cX12_dayStep 3 = .ok (.invokevirtual 178, 3) := by decide +kernel
theorem dX12_dayStep_6 : decode cX12_dayStep 6 = .ok (.istore_n 1, 1) := by decide +kernel
theorem dX12_dayStep_7 : decode cX12_dayStep 7 = .ok (.aload_n 0, 1) := by decide +kernel
theorem dX12_dayStep_8 : decode cX12_dayStep 8 = .ok (.getfield 7, 3) := by decide +kernel
theorem dX12_dayStep_11 : decode cX12_dayStep 11 = .ok (.sipush 2023, 3) := by decide +kernel
theorem dX12_dayStep_14 : decode cX12_dayStep 14 = .ok (.iaload, 1) := by decide +kernel
theorem dX12_dayStep_15 : decode cX12_dayStep 15 = .ok (.istore_n 2, 1) := by decide +kernel
theorem dX12_dayStep_16 : decode cX12_dayStep 16 = .ok (.sipush 2152, 3) := by decide +kernel
theorem dX12_dayStep_19 : decode cX12_dayStep 19 = .ok (.bipush 6, 2) := by decide +kernel
theorem dX12_dayStep_21 : decode cX12_dayStep 21 = .ok (.iload_n 2, 1) := by decide +kernel
theorem dX12_dayStep_22 : decode cX12_dayStep 22 = .ok (.imul, 1) := by decide +kernel
theorem dX12_dayStep_23 : decode cX12_dayStep 23 = .ok (.iadd, 1) := by decide +kernel
theorem dX12_dayStep_24 : decode cX12_dayStep 24 = .ok (.istore_n 3, 1) := by decide +kernel
theorem dX12_dayStep_25 : decode cX12_dayStep 25 = .ok (.iload_n 1, 1) := by decide +kernel
theorem dX12_dayStep_26 : decode cX12_dayStep 26 = .ok (.bipush 19, 2) := by decide +kernel
theorem dX12_dayStep_28 : decode cX12_dayStep 28 = .ok (.if_icmp .eq 9, 3) := by decide +kernel
theorem dX12_dayStep_31 : decode cX12_dayStep 31 = .ok (.iload_n 1, 1) := by decide +kernel
theorem dX12_dayStep_32 : decode cX12_dayStep 32 = .ok (.bipush 20, 2) := by decide +kernel
theorem dX12_dayStep_34 : decode cX12_dayStep 34 = .ok (.if_icmp .ne 7, 3) := by decide +kernel
theorem dX12_dayStep_37 : decode cX12_dayStep 37 = .ok (.iconst 1, 1) := by decide +kernel
theorem dX12_dayStep_38 : decode cX12_dayStep 38 = .ok (.goto 4, 3) := by decide +kernel
theorem dX12_dayStep_41 : decode cX12_dayStep 41 = .ok (.iconst 0, 1) := by decide +kernel
theorem dX12_dayStep_42 : decode cX12_dayStep 42 = .ok (.istore 4, 2) := by decide +kernel
theorem dX12_dayStep_44 : decode cX12_dayStep 44 = .ok (.iload_n 1, 1) := by decide +kernel
theorem dX12_dayStep_45 : decode cX12_dayStep 45 = .ok (.bipush 6, 2) := by decide +kernel
theorem dX12_dayStep_47 : decode cX12_dayStep 47 = .ok (.if_icmp .eq 15, 3) := by decide +kernel
theorem dX12_dayStep_50 : decode cX12_dayStep 50 = .ok (.iload_n 1, 1) := by decide +kernel
theorem dX12_dayStep_51 : decode cX12_dayStep 51 = .ok (.bipush 15, 2) := by decide +kernel
theorem dX12_dayStep_53 : decode cX12_dayStep 53 = .ok (.if_icmp .lt 22, 3) := by decide +kernel
theorem dX12_dayStep_56 : decode cX12_dayStep 56 = .ok (.iload_n 1, 1) := by decide +kernel
theorem dX12_dayStep_57 : decode cX12_dayStep 57 = .ok (.bipush 22, 2) := by decide +kernel
theorem dX12_dayStep_59 : decode cX12_dayStep 59 = .ok (.if_icmp .gt 16, 3) := by decide +kernel
theorem dX12_dayStep_62 : decode cX12_dayStep 62 = .ok (.iload_n 1, 1) := by decide +kernel
theorem dX12_dayStep_63 : decode cX12_dayStep 63 = .ok (.bipush 21, 2) := by decide +kernel
theorem dX12_dayStep_65 : decode cX12_dayStep 65 = .ok (.if_icmp .ne 16, 3) := by decide +kernel
theorem dX12_dayStep_68 : decode cX12_dayStep 68 = .ok (.aload_n 0, 1) := by decide +kernel
theorem dX12_dayStep_69 : decode cX12_dayStep 69 = .ok (.getfield 283, 3) := by decide +kernel
theorem dX12_dayStep_72 : decode cX12_dayStep 72 = .ok (.ifCond .ne 9, 3) := by decide +kernel
theorem dX12_dayStep_75 : decode cX12_dayStep 75 = .ok (.aload_n 0, 1) := by decide +kernel
theorem dX12_dayStep_76 : decode cX12_dayStep 76 = .ok (.iconst 2, 1) := by decide +kernel
theorem dX12_dayStep_77 : decode cX12_dayStep 77 = .ok (.invokevirtual 175, 3) := by decide +kernel
theorem dX12_dayStep_80 : decode cX12_dayStep 80 = .ok (.ireturn, 1) := by decide +kernel
theorem dX12_dayStep_81 : decode cX12_dayStep 81 = .ok (.iload_n 1, 1) := by decide +kernel
theorem dX12_dayStep_82 : decode cX12_dayStep 82 = .ok (.bipush 21, 2) := by decide +kernel
theorem dX12_dayStep_84 : decode cX12_dayStep 84 = .ok (.if_icmp .eq 19, 3) := by decide +kernel
theorem dX12_dayStep_87 : decode cX12_dayStep 87 = .ok (.aload_n 0, 1) := by decide +kernel
theorem dX12_dayStep_88 : decode cX12_dayStep 88 = .ok (.getfield 286, 3) := by decide +kernel
theorem dX12_dayStep_91 : decode cX12_dayStep 91 = .ok (.bipush 30, 2) := by decide +kernel
theorem dX12_dayStep_93 : decode cX12_dayStep 93 = .ok (.if_icmp .ne 10, 3) := by decide +kernel
theorem dX12_dayStep_96 : decode cX12_dayStep 96 = .ok (.aload_n 0, 1) := by decide +kernel
theorem dX12_dayStep_97 : decode cX12_dayStep 97 = .ok (.bipush 6, 2) := by decide +kernel
theorem dX12_dayStep_99 : decode cX12_dayStep 99 = .ok (.invokevirtual 175, 3) := by decide +kernel
theorem dX12_dayStep_102 : decode cX12_dayStep 102 = .ok (.ireturn, 1) := by decide +kernel
theorem dX12_dayStep_103 : decode cX12_dayStep 103 = .ok (.iload 4, 2) := by decide +kernel
theorem dX12_dayStep_105 : decode cX12_dayStep 105 = .ok (.ifCond .eq 18, 3) := by decide +kernel
theorem dX12_dayStep_108 : decode cX12_dayStep 108 = .ok (.aload_n 0, 1) := by decide +kernel
theorem dX12_dayStep_109 : decode cX12_dayStep 109 = .ok (.getfield 283, 3) := by decide +kernel
theorem dX12_dayStep_112 : decode cX12_dayStep 112 = .ok (.iconst 3, 1) := by decide +kernel
theorem dX12_dayStep_113 : decode cX12_dayStep 113 = .ok (.if_icmp .ne 10, 3) := by decide +kernel
theorem dX12_dayStep_116 : decode cX12_dayStep 116 = .ok (.aload_n 0, 1) := by decide +kernel
theorem dX12_dayStep_117 : decode cX12_dayStep 117 = .ok (.bipush 7, 2) := by decide +kernel
theorem dX12_dayStep_119 : decode cX12_dayStep 119 = .ok (.invokevirtual 175, 3) := by decide +kernel
theorem dX12_dayStep_122 : decode cX12_dayStep 122 = .ok (.ireturn, 1) := by decide +kernel
theorem dX12_dayStep_123 : decode cX12_dayStep 123 = .ok (.aload_n 0, 1) := by decide +kernel
theorem dX12_dayStep_124 : decode cX12_dayStep 124 = .ok (.dup, 1) := by decide +kernel
theorem dX12_dayStep_125 : decode cX12_dayStep 125 = .ok (.getfield 286, 3) := by decide +kernel
theorem dX12_dayStep_128 : decode cX12_dayStep 128 = .ok (.iload_n 1, 1) := by decide +kernel
theorem dX12_dayStep_129 : decode cX12_dayStep 129 = .ok (.bipush 21, 2) := by decide +kernel
theorem dX12_dayStep_131 : decode cX12_dayStep 131 = .ok (.if_icmp .ne 7, 3) := by decide +kernel
theorem dX12_dayStep_134 : decode cX12_dayStep 134 = .ok (.iconst 0, 1) := by decide +kernel
theorem dX12_dayStep_135 : decode cX12_dayStep 135 = .ok (.goto 4, 3) := by decide +kernel
theorem dX12_dayStep_138 : decode cX12_dayStep 138 = .ok (.iconst 1, 1) := by decide +kernel
theorem dX12_dayStep_139 : decode cX12_dayStep 139 = .ok (.iadd, 1) := by decide +kernel
theorem dX12_dayStep_140 : decode cX12_dayStep 140 = .ok (.putfield 286, 3) := by decide +kernel
theorem dX12_dayStep_143 : decode cX12_dayStep 143 = .ok (.aload_n 0, 1) := by decide +kernel
theorem dX12_dayStep_144 : decode cX12_dayStep 144 = .ok (.getfield 7, 3) := by decide +kernel
theorem dX12_dayStep_147 : decode cX12_dayStep 147 = .ok (.iload_n 3, 1) := by decide +kernel
theorem dX12_dayStep_148 : decode cX12_dayStep 148 = .ok (.iload_n 1, 1) := by decide +kernel
theorem dX12_dayStep_149 : decode cX12_dayStep 149 = .ok (.iastore, 1) := by decide +kernel
theorem dX12_dayStep_150 : decode cX12_dayStep 150 = .ok (.iconst 1, 1) := by decide +kernel
theorem dX12_dayStep_151 : decode cX12_dayStep 151 = .ok (.istore 5, 2) := by decide +kernel
theorem dX12_dayStep_153 : decode cX12_dayStep 153 = .ok (.iload 5, 2) := by decide +kernel
theorem dX12_dayStep_155 : decode cX12_dayStep 155 = .ok (.bipush 6, 2) := by decide +kernel
theorem dX12_dayStep_157 : decode cX12_dayStep 157 = .ok (.if_icmp .ge 19, 3) := by decide +kernel
theorem dX12_dayStep_160 : decode cX12_dayStep 160 = .ok (.aload_n 0, 1) := by decide +kernel
theorem dX12_dayStep_161 : decode cX12_dayStep 161 = .ok (.getfield 7, 3) := by decide +kernel
theorem dX12_dayStep_164 : decode cX12_dayStep 164 = .ok (.iload_n 3, 1) := by decide +kernel
theorem dX12_dayStep_165 : decode cX12_dayStep 165 = .ok (.iload 5, 2) := by decide +kernel
theorem dX12_dayStep_167 : decode cX12_dayStep 167 = .ok (.iadd, 1) := by decide +kernel
theorem dX12_dayStep_168 : decode cX12_dayStep 168 = .ok (.iconst 0, 1) := by decide +kernel
theorem dX12_dayStep_169 : decode cX12_dayStep 169 = .ok (.iastore, 1) := by decide +kernel
theorem dX12_dayStep_170 : decode cX12_dayStep 170 = .ok (.iinc 5 1, 3) := by decide +kernel
theorem dX12_dayStep_173 : decode cX12_dayStep 173 = .ok (.goto (-20), 3) := by decide +kernel
theorem dX12_dayStep_176 : decode cX12_dayStep 176 = .ok (.aload_n 0, 1) := by decide +kernel
theorem dX12_dayStep_177 : decode cX12_dayStep 177 = .ok (.getfield 7, 3) := by decide +kernel
theorem dX12_dayStep_180 : decode cX12_dayStep 180 = .ok (.sipush 2023, 3) := by decide +kernel
theorem dX12_dayStep_183 : decode cX12_dayStep 183 = .ok (.dup2, 1) := by decide +kernel
theorem dX12_dayStep_184 : decode cX12_dayStep 184 = .ok (.iaload, 1) := by decide +kernel
theorem dX12_dayStep_185 : decode cX12_dayStep 185 = .ok (.iconst 1, 1) := by decide +kernel
theorem dX12_dayStep_186 : decode cX12_dayStep 186 = .ok (.iadd, 1) := by decide +kernel
theorem dX12_dayStep_187 : decode cX12_dayStep 187 = .ok (.iastore, 1) := by decide +kernel
theorem dX12_dayStep_188 : decode cX12_dayStep 188 = .ok (.aload_n 0, 1) := by decide +kernel
theorem dX12_dayStep_189 : decode cX12_dayStep 189 = .ok (.invokevirtual 169, 3) := by decide +kernel
theorem dX12_dayStep_192 : decode cX12_dayStep 192 = .ok (.aload_n 0, 1) := by decide +kernel
theorem dX12_dayStep_193 : decode cX12_dayStep 193 = .ok (.iload_n 1, 1) := by decide +kernel
theorem dX12_dayStep_194 : decode cX12_dayStep 194 = .ok (.iload_n 3, 1) := by decide +kernel
theorem dX12_dayStep_195 : decode cX12_dayStep 195 = .ok (.invokevirtual 289, 3) := by decide +kernel
theorem dX12_dayStep_198 : decode cX12_dayStep 198 = .ok (.ifCond .ne 5, 3) := by decide +kernel
theorem dX12_dayStep_201 : decode cX12_dayStep 201 = .ok (.iconst 0, 1) := by decide +kernel
theorem dX12_dayStep_202 : decode cX12_dayStep 202 = .ok (.ireturn, 1) := by decide +kernel
theorem dX12_dayStep_203 : decode cX12_dayStep 203 = .ok (.iload 4, 2) := by decide +kernel
theorem dX12_dayStep_205 : decode cX12_dayStep 205 = .ok (.ifCond .eq 23, 3) := by decide +kernel
theorem dX12_dayStep_208 : decode cX12_dayStep 208 = .ok (.aload_n 0, 1) := by decide +kernel
theorem dX12_dayStep_209 : decode cX12_dayStep 209 = .ok (.getfield 44, 3) := by decide +kernel
theorem dX12_dayStep_212 : decode cX12_dayStep 212 = .ok (.aload_n 0, 1) := by decide +kernel
theorem dX12_dayStep_213 : decode cX12_dayStep 213 = .ok (.getfield 283, 3) := by decide +kernel
theorem dX12_dayStep_216 : decode cX12_dayStep 216 = .ok (.iload_n 2, 1) := by decide +kernel
theorem dX12_dayStep_217 : decode cX12_dayStep 217 = .ok (.iastore, 1) := by decide +kernel
theorem dX12_dayStep_218 : decode cX12_dayStep 218 = .ok (.aload_n 0, 1) := by decide +kernel
theorem dX12_dayStep_219 : decode cX12_dayStep 219 = .ok (.dup, 1) := by decide +kernel
theorem dX12_dayStep_220 : decode cX12_dayStep 220 = .ok (.getfield 283, 3) := by decide +kernel
theorem dX12_dayStep_223 : decode cX12_dayStep 223 = .ok (.iconst 1, 1) := by decide +kernel
theorem dX12_dayStep_224 : decode cX12_dayStep 224 = .ok (.iadd, 1) := by decide +kernel
theorem dX12_dayStep_225 : decode cX12_dayStep 225 = .ok (.putfield 283, 3) := by decide +kernel
theorem dX12_dayStep_228 : decode cX12_dayStep 228 = .ok (.iload_n 1, 1) := by decide +kernel
theorem dX12_dayStep_229 : decode cX12_dayStep 229 = .ok (.bipush 21, 2) := by decide +kernel
theorem dX12_dayStep_231 : decode cX12_dayStep 231 = .ok (.if_icmp .ne 54, 3) := by decide +kernel
theorem dX12_dayStep_234 : decode cX12_dayStep 234 = .ok (.aload_n 0, 1) := by decide +kernel
theorem dX12_dayStep_235 : decode cX12_dayStep 235 = .ok (.dup, 1) := by decide +kernel
theorem dX12_dayStep_236 : decode cX12_dayStep 236 = .ok (.getfield 283, 3) := by decide +kernel
theorem dX12_dayStep_239 : decode cX12_dayStep 239 = .ok (.iconst 1, 1) := by decide +kernel
theorem dX12_dayStep_240 : decode cX12_dayStep 240 = .ok (.isub, 1) := by decide +kernel
theorem dX12_dayStep_241 : decode cX12_dayStep 241 = .ok (.putfield 283, 3) := by decide +kernel
theorem dX12_dayStep_244 : decode cX12_dayStep 244 = .ok (.aload_n 0, 1) := by decide +kernel
theorem dX12_dayStep_245 : decode cX12_dayStep 245 = .ok (.getfield 7, 3) := by decide +kernel
theorem dX12_dayStep_248 : decode cX12_dayStep 248 = .ok (.iload_n 3, 1) := by decide +kernel
theorem dX12_dayStep_249 : decode cX12_dayStep 249 = .ok (.iconst 4, 1) := by decide +kernel
theorem dX12_dayStep_250 : decode cX12_dayStep 250 = .ok (.iadd, 1) := by decide +kernel
theorem dX12_dayStep_251 : decode cX12_dayStep 251 = .ok (.aload_n 0, 1) := by decide +kernel
theorem dX12_dayStep_252 : decode cX12_dayStep 252 = .ok (.getfield 44, 3) := by decide +kernel
theorem dX12_dayStep_255 : decode cX12_dayStep 255 = .ok (.aload_n 0, 1) := by decide +kernel
theorem dX12_dayStep_256 : decode cX12_dayStep 256 = .ok (.getfield 283, 3) := by decide +kernel
theorem dX12_dayStep_259 : decode cX12_dayStep 259 = .ok (.iaload, 1) := by decide +kernel
theorem dX12_dayStep_260 : decode cX12_dayStep 260 = .ok (.iastore, 1) := by decide +kernel
theorem dX12_dayStep_261 : decode cX12_dayStep 261 = .ok (.aload_n 0, 1) := by decide +kernel
theorem dX12_dayStep_262 : decode cX12_dayStep 262 = .ok (.getfield 7, 3) := by decide +kernel
theorem dX12_dayStep_265 : decode cX12_dayStep 265 = .ok (.sipush 2152, 3) := by decide +kernel
theorem dX12_dayStep_268 : decode cX12_dayStep 268 = .ok (.bipush 6, 2) := by decide +kernel
theorem dX12_dayStep_270 : decode cX12_dayStep 270 = .ok (.aload_n 0, 1) := by decide +kernel
theorem dX12_dayStep_271 : decode cX12_dayStep 271 = .ok (.getfield 44, 3) := by decide +kernel
theorem dX12_dayStep_274 : decode cX12_dayStep 274 = .ok (.aload_n 0, 1) := by decide +kernel
theorem dX12_dayStep_275 : decode cX12_dayStep 275 = .ok (.getfield 283, 3) := by decide +kernel
theorem dX12_dayStep_278 : decode cX12_dayStep 278 = .ok (.iaload, 1) := by decide +kernel
theorem dX12_dayStep_279 : decode cX12_dayStep 279 = .ok (.imul, 1) := by decide +kernel
theorem dX12_dayStep_280 : decode cX12_dayStep 280 = .ok (.iadd, 1) := by decide +kernel
theorem dX12_dayStep_281 : decode cX12_dayStep 281 = .ok (.iconst 4, 1) := by decide +kernel
theorem dX12_dayStep_282 : decode cX12_dayStep 282 = .ok (.iadd, 1) := by decide +kernel
theorem dX12_dayStep_283 : decode cX12_dayStep 283 = .ok (.iload_n 2, 1) := by decide +kernel
theorem dX12_dayStep_284 : decode cX12_dayStep 284 = .ok (.iastore, 1) := by decide +kernel
theorem dX12_dayStep_285 : decode cX12_dayStep 285 = .ok (.aload_n 0, 1) := by decide +kernel
theorem dX12_dayStep_286 : decode cX12_dayStep 286 = .ok (.bipush 59, 2) := by decide +kernel
theorem dX12_dayStep_288 : decode cX12_dayStep 288 = .ok (.invokevirtual 259, 3) := by decide +kernel
theorem dX12_dayStep_291 : decode cX12_dayStep 291 = .ok (.ireturn, 1) := by decide +kernel
set_option maxRecDepth 100000 in
def f_X12_dayStep_285 (l0 : Nat) (μ : dtM) : Option (Int32 × dtM) :=
  (opRv 12 μ l0).bind fun _ => opCall (f_X12_wantSign l0 (59 : Int32) μ) fun x4 μ2 => opRet x4 μ2
set_option maxRecDepth 100000 in
def f_X12_dayStep_228 (l0 : Nat) (l1 : Int32) (l2 : Int32) (l3 : Int32) (μ : dtM) : Option (Int32 × dtM) :=
  if l1 = (21 : Int32) then ((opGI 12 22 μ l0).bind fun x4 => (opPI 12 22 μ l0 (x4 - (1 : Int32))).bind fun μ6 => (opGR 12 0 μ6 l0).bind fun x8 => (opGR 12 21 μ6 l0).bind fun x10 => (opGI 12 22 μ6 l0).bind fun x12 => (opLI 1 μ6 x10 x12).bind fun x14 => (opSI μ6 x8 (l3 + (4 : Int32)) x14).bind fun μ16 => (opGR 12 0 μ16 l0).bind fun x18 => (opGR 12 21 μ16 l0).bind fun x20 => (opGI 12 22 μ16 l0).bind fun x22 => (opLI 1 μ16 x20 x22).bind fun x24 => (opSI μ16 x18 (((2152 : Int32) + ((6 : Int32) * x24)) + (4 : Int32)) l2).bind fun μ26 => f_X12_dayStep_285 l0 μ26) else (f_X12_dayStep_285 l0 μ)
set_option maxRecDepth 100000 in
def f_X12_dayStep_153 : Nat → Nat → Int32 → Int32 → Int32 → Int32 → Int32 → dtM → Option (Int32 × dtM)
  | 0, _, _, _, _, _, _, _ => none
  | n + 1, l0, l1, l2, l3, l4, l5, μ =>
    if (6 : Int32) ≤ l5 then ((opGR 12 0 μ l0).bind fun x4 => (opLI 1 μ x4 (2023 : Int32)).bind fun x6 => (opSI μ x4 (2023 : Int32) (x6 + (1 : Int32))).bind fun μ8 => (opRv 12 μ8 l0).bind fun _ => (f_X12_ahead l0 μ8).bind fun μ11 => (opRv 12 μ11 l0).bind fun _ => opCall (f_X12_dayOrder l0 l1 l3 μ11) fun x16 μ14 => if x16 = 0 then (opRet (0 : Int32) μ14) else (if l4 = 0 then (f_X12_dayStep_228 l0 l1 l2 l3 μ14) else ((opGR 12 21 μ14 l0).bind fun x23 => (opGI 12 22 μ14 l0).bind fun x25 => (opSI μ14 x23 x25 l2).bind fun μ27 => (opGI 12 22 μ27 l0).bind fun x29 => (opPI 12 22 μ27 l0 (x29 + (1 : Int32))).bind fun μ31 => f_X12_dayStep_228 l0 l1 l2 l3 μ31))) else ((opGR 12 0 μ l0).bind fun x33 => (opSI μ x33 (l3 + l5) (0 : Int32)).bind fun μ35 => f_X12_dayStep_153 n l0 l1 l2 l3 l4 (l5 + 1) μ35)
set_option maxRecDepth 100000 in
def f_X12_dayStep_139 (l0 : Nat) (l1 : Int32) (l2 : Int32) (l3 : Int32) (l4 : Int32) (s0 : Nat) (s1 : Int32) (s2 : Int32) (μ : dtM) : Option (Int32 × dtM) :=
  (opPI 12 23 μ s0 (s1 + s2)).bind fun μ1 => (opGR 12 0 μ1 l0).bind fun x3 => (opSI μ1 x3 l3 l1).bind fun μ5 => f_X12_dayStep_153 dtFuel l0 l1 l2 l3 l4 (1 : Int32) μ5
set_option maxRecDepth 100000 in
def f_X12_dayStep_123 (l0 : Nat) (l1 : Int32) (l2 : Int32) (l3 : Int32) (l4 : Int32) (μ : dtM) : Option (Int32 × dtM) :=
  (opGI 12 23 μ l0).bind fun x1 => if l1 = (21 : Int32) then (f_X12_dayStep_139 l0 l1 l2 l3 l4 l0 x1 (0 : Int32) μ) else (f_X12_dayStep_139 l0 l1 l2 l3 l4 l0 x1 (1 : Int32) μ)
set_option maxRecDepth 100000 in
def f_X12_dayStep_103 (l0 : Nat) (l1 : Int32) (l2 : Int32) (l3 : Int32) (l4 : Int32) (μ : dtM) : Option (Int32 × dtM) :=
  if l4 = 0 then (f_X12_dayStep_123 l0 l1 l2 l3 l4 μ) else ((opGI 12 22 μ l0).bind fun x4 => if x4 = (3 : Int32) then ((opRv 12 μ l0).bind fun _ => opCall (f_X12_fails l0 (7 : Int32) μ) fun x12 μ10 => opRet x12 μ10) else (f_X12_dayStep_123 l0 l1 l2 l3 l4 μ))
set_option maxRecDepth 100000 in
def f_X12_dayStep_81 (l0 : Nat) (l1 : Int32) (l2 : Int32) (l3 : Int32) (l4 : Int32) (μ : dtM) : Option (Int32 × dtM) :=
  if l1 = (21 : Int32) then (f_X12_dayStep_103 l0 l1 l2 l3 l4 μ) else ((opGI 12 23 μ l0).bind fun x4 => if x4 = (30 : Int32) then ((opRv 12 μ l0).bind fun _ => opCall (f_X12_fails l0 (6 : Int32) μ) fun x12 μ10 => opRet x12 μ10) else (f_X12_dayStep_103 l0 l1 l2 l3 l4 μ))
set_option maxRecDepth 100000 in
def f_X12_dayStep_75 (l0 : Nat) (μ : dtM) : Option (Int32 × dtM) :=
  (opRv 12 μ l0).bind fun _ => opCall (f_X12_fails l0 (2 : Int32) μ) fun x4 μ2 => opRet x4 μ2
set_option maxRecDepth 100000 in
def f_X12_dayStep_62 (l0 : Nat) (l1 : Int32) (l2 : Int32) (l3 : Int32) (l4 : Int32) (μ : dtM) : Option (Int32 × dtM) :=
  if l1 = (21 : Int32) then ((opGI 12 22 μ l0).bind fun x4 => if x4 = 0 then (f_X12_dayStep_75 l0 μ) else (f_X12_dayStep_81 l0 l1 l2 l3 l4 μ)) else (f_X12_dayStep_81 l0 l1 l2 l3 l4 μ)
set_option maxRecDepth 100000 in
def f_X12_dayStep_42 (l0 : Nat) (l1 : Int32) (l2 : Int32) (l3 : Int32) (s0 : Int32) (μ : dtM) : Option (Int32 × dtM) :=
  if l1 = (6 : Int32) then (f_X12_dayStep_62 l0 l1 l2 l3 s0 μ) else (if l1 < (15 : Int32) then (f_X12_dayStep_75 l0 μ) else (if (22 : Int32) < l1 then (f_X12_dayStep_75 l0 μ) else (f_X12_dayStep_62 l0 l1 l2 l3 s0 μ)))
set_option maxRecDepth 100000 in
def f_X12_dayStep_37 (l0 : Nat) (l1 : Int32) (l2 : Int32) (l3 : Int32) (μ : dtM) : Option (Int32 × dtM) :=
  f_X12_dayStep_42 l0 l1 l2 l3 (1 : Int32) μ
set_option maxRecDepth 100000 in
def f_X12_dayStep (p0 : Nat) (μ : dtM) : Option (Int32 × dtM) :=
  (opRv 12 μ p0).bind fun _ => opCall (f_X12_inWords p0 1000003 μ) fun x4 μ2 => (opGR 12 0 μ2 p0).bind fun x5 => (opLI 1 μ2 x5 (2023 : Int32)).bind fun x7 => (some ((2152 : Int32) + ((6 : Int32) * x7))).bind fun x9 => if x4 = (19 : Int32) then (f_X12_dayStep_37 p0 x4 x7 x9 μ2) else (if x4 = (20 : Int32) then (f_X12_dayStep_37 p0 x4 x7 x9 μ2) else (f_X12_dayStep_42 p0 x4 x7 x9 (0 : Int32) μ2))
set_option maxRecDepth 100000 in
theorem c_X12_dayStep_285 {r : Int32} {F : dtM} (l0 : Nat) (μ : dtM) (h : f_X12_dayStep_285 l0 μ = some (r, F)) : dtW yX12_dayStep cX12_dayStep 6 (some .boolean) 12 (some (.int r)) F 285 [some (.ref l0)] [] μ := by
  rw [f_X12_dayStep_285] at h
  refine dr_aload_n l0 dX12_dayStep_285 rfl ?_
  refine dr_bipush (59 : Int32) dX12_dayStep_286 (by decide) ?_
  obtain ⟨_, hb1, h⟩ := dtBind h
  obtain ⟨x4, μ2, e3, h⟩ := dtCall h
  refine dr_callV_i (S0 := []) [.int (59 : Int32)] x4 μ2 dX12_dayStep_288 (c_X12_wantSign l0 (59 : Int32) μ e3) mf_X12_wantSign wt_1660 ws_83 wt_1658 rfl (dtRv hb1) (by decide) rfl (Nat.le_of_ble_eq_true rfl) (Nat.le_of_ble_eq_true rfl) rfl ?_
  obtain ⟨hz, rfl, rfl⟩ := dtRet h
  exact dr_ireturn dX12_dayStep_291 (dtNz hz)
set_option maxRecDepth 100000 in
theorem c_X12_dayStep_228 {r : Int32} {F : dtM} (l0 : Nat) (l1 : Int32) (l2 : Int32) (l3 : Int32) (μ : dtM) (h : f_X12_dayStep_228 l0 l1 l2 l3 μ = some (r, F)) : dtW yX12_dayStep cX12_dayStep 6 (some .boolean) 12 (some (.int r)) F 228 [some (.ref l0), some (.int l1), some (.int l2), some (.int l3)] [] μ := by
  rw [f_X12_dayStep_228] at h
  refine dr_iload_n l1 dX12_dayStep_228 rfl ?_
  refine dr_bipush (21 : Int32) dX12_dayStep_229 (by decide) ?_
  obtain ⟨ht2, hf3⟩ := dtIte h
  refine dr_icmp_ne 285 dX12_dayStep_231 (by decide) (fun hc1 => ?_) (fun hc1 => ?_)
  · have h := hf3 hc1
    refine dr_mask [true] [some (.ref l0)] rfl ?_
    exact c_X12_dayStep_285 l0 μ h
  · have h := ht2 hc1
    refine dr_aload_n l0 dX12_dayStep_234 rfl ?_
    refine dr_dup dX12_dayStep_235 rfl ?_
    obtain ⟨x4, e5, h⟩ := dtBind h
    refine dr_getI x4 dX12_dayStep_236 fl_RX12_283 e5 ?_
    refine dr_iconst (1 : Int32) dX12_dayStep_239 (by decide) ?_
    refine dr_isub dX12_dayStep_240 ?_
    obtain ⟨μ6, e7, h⟩ := dtBind h
    refine dr_putI μ6 dX12_dayStep_241 fl_RX12_283 rfl e7 ?_
    refine dr_aload_n l0 dX12_dayStep_244 rfl ?_
    obtain ⟨x8, e9, h⟩ := dtBind h
    refine dr_getR x8 dX12_dayStep_245 fl_RX12_7 e9 ?_
    refine dr_iload_n l3 dX12_dayStep_248 rfl ?_
    refine dr_iconst (4 : Int32) dX12_dayStep_249 (by decide) ?_
    refine dr_iadd dX12_dayStep_250 ?_
    refine dr_aload_n l0 dX12_dayStep_251 rfl ?_
    obtain ⟨x10, e11, h⟩ := dtBind h
    refine dr_getR x10 dX12_dayStep_252 fl_RX12_44 e11 ?_
    refine dr_aload_n l0 dX12_dayStep_255 rfl ?_
    obtain ⟨x12, e13, h⟩ := dtBind h
    refine dr_getI x12 dX12_dayStep_256 fl_RX12_283 e13 ?_
    obtain ⟨x14, e15, h⟩ := dtBind h
    refine dr_iaload x14 dX12_dayStep_259 e15 ?_
    obtain ⟨μ16, e17, h⟩ := dtBind h
    refine dr_iastore μ16 dX12_dayStep_260 e17 ?_
    refine dr_aload_n l0 dX12_dayStep_261 rfl ?_
    obtain ⟨x18, e19, h⟩ := dtBind h
    refine dr_getR x18 dX12_dayStep_262 fl_RX12_7 e19 ?_
    refine dr_sipush (2152 : Int32) dX12_dayStep_265 (by decide) ?_
    refine dr_bipush (6 : Int32) dX12_dayStep_268 (by decide) ?_
    refine dr_aload_n l0 dX12_dayStep_270 rfl ?_
    obtain ⟨x20, e21, h⟩ := dtBind h
    refine dr_getR x20 dX12_dayStep_271 fl_RX12_44 e21 ?_
    refine dr_aload_n l0 dX12_dayStep_274 rfl ?_
    obtain ⟨x22, e23, h⟩ := dtBind h
    refine dr_getI x22 dX12_dayStep_275 fl_RX12_283 e23 ?_
    obtain ⟨x24, e25, h⟩ := dtBind h
    refine dr_iaload x24 dX12_dayStep_278 e25 ?_
    refine dr_imul dX12_dayStep_279 ?_
    refine dr_iadd dX12_dayStep_280 ?_
    refine dr_iconst (4 : Int32) dX12_dayStep_281 (by decide) ?_
    refine dr_iadd dX12_dayStep_282 ?_
    refine dr_iload_n l2 dX12_dayStep_283 rfl ?_
    obtain ⟨μ26, e27, h⟩ := dtBind h
    refine dr_iastore μ26 dX12_dayStep_284 e27 ?_
    refine dr_mask [true] [some (.ref l0)] rfl ?_
    exact c_X12_dayStep_285 l0 μ26 h
set_option maxRecDepth 100000 in
theorem c_X12_dayStep_153 {r : Int32} {F : dtM} : ∀ (n : Nat) (l0 : Nat) (l1 : Int32) (l2 : Int32) (l3 : Int32) (l4 : Int32) (l5 : Int32) (μ : dtM), f_X12_dayStep_153 n l0 l1 l2 l3 l4 l5 μ = some (r, F) → dtW yX12_dayStep cX12_dayStep 6 (some .boolean) 12 (some (.int r)) F 153 [some (.ref l0), some (.int l1), some (.int l2), some (.int l3), some (.int l4), some (.int l5)] [] μ := by
  intro n
  induction n with
  | zero => intro l0 l1 l2 l3 l4 l5 μ h; cases h
  | succ n ih =>
    intro l0 l1 l2 l3 l4 l5 μ h
    have h := (show f_X12_dayStep_153 (n + 1) l0 l1 l2 l3 l4 l5 μ = some _ from h)
    rw [f_X12_dayStep_153] at h
    refine dr_iload l5 dX12_dayStep_153 rfl ?_
    refine dr_bipush (6 : Int32) dX12_dayStep_155 (by decide) ?_
    obtain ⟨ht2, hf3⟩ := dtIte h
    refine dr_icmp_ge 176 dX12_dayStep_157 (by decide) (fun hc1 => ?_) (fun hc1 => ?_)
    · have h := ht2 hc1
      refine dr_aload_n l0 dX12_dayStep_176 rfl ?_
      obtain ⟨x4, e5, h⟩ := dtBind h
      refine dr_getR x4 dX12_dayStep_177 fl_RX12_7 e5 ?_
      refine dr_sipush (2023 : Int32) dX12_dayStep_180 (by decide) ?_
      refine dr_dup2 dX12_dayStep_183 rfl rfl ?_
      obtain ⟨x6, e7, h⟩ := dtBind h
      refine dr_iaload x6 dX12_dayStep_184 e7 ?_
      refine dr_iconst (1 : Int32) dX12_dayStep_185 (by decide) ?_
      refine dr_iadd dX12_dayStep_186 ?_
      obtain ⟨μ8, e9, h⟩ := dtBind h
      refine dr_iastore μ8 dX12_dayStep_187 e9 ?_
      refine dr_aload_n l0 dX12_dayStep_188 rfl ?_
      obtain ⟨_, hb10, h⟩ := dtBind h
      obtain ⟨μ11, e12, h⟩ := dtBind h
      refine dr_callV_v (S0 := []) [] μ11 dX12_dayStep_189 (c_X12_ahead l0 μ8 e12) mf_X12_ahead wt_1536 ws_57 wt_1534 rfl (dtRv hb10) (by decide) rfl (Nat.le_of_ble_eq_true rfl) (Nat.le_of_ble_eq_true rfl) rfl ?_
      refine dr_aload_n l0 dX12_dayStep_192 rfl ?_
      refine dr_iload_n l1 dX12_dayStep_193 rfl ?_
      refine dr_iload_n l3 dX12_dayStep_194 rfl ?_
      obtain ⟨_, hb13, h⟩ := dtBind h
      obtain ⟨x16, μ14, e15, h⟩ := dtCall h
      refine dr_callV_i (S0 := []) [.int l1, .int l3] x16 μ14 dX12_dayStep_195 (c_X12_dayOrder l0 l1 l3 μ11 e15) mf_X12_dayOrder wt_1680 ws_87 wt_1678 rfl (dtRv hb13) (by decide) rfl (Nat.le_of_ble_eq_true rfl) (Nat.le_of_ble_eq_true rfl) rfl ?_
      obtain ⟨ht18, hf19⟩ := dtIte h
      refine dr_if_ne 203 dX12_dayStep_198 (by decide) (fun hc17 => ?_) (fun hc17 => ?_)
      · have h := hf19 hc17
        refine dr_iload l4 dX12_dayStep_203 rfl ?_
        obtain ⟨ht21, hf22⟩ := dtIte h
        refine dr_if_eq 228 dX12_dayStep_205 (by decide) (fun hc20 => ?_) (fun hc20 => ?_)
        · have h := ht21 hc20
          refine dr_mask [true, true, true, true] [some (.ref l0), some (.int l1), some (.int l2), some (.int l3)] rfl ?_
          exact c_X12_dayStep_228 l0 l1 l2 l3 μ14 h
        · have h := hf22 hc20
          refine dr_aload_n l0 dX12_dayStep_208 rfl ?_
          obtain ⟨x23, e24, h⟩ := dtBind h
          refine dr_getR x23 dX12_dayStep_209 fl_RX12_44 e24 ?_
          refine dr_aload_n l0 dX12_dayStep_212 rfl ?_
          obtain ⟨x25, e26, h⟩ := dtBind h
          refine dr_getI x25 dX12_dayStep_213 fl_RX12_283 e26 ?_
          refine dr_iload_n l2 dX12_dayStep_216 rfl ?_
          obtain ⟨μ27, e28, h⟩ := dtBind h
          refine dr_iastore μ27 dX12_dayStep_217 e28 ?_
          refine dr_aload_n l0 dX12_dayStep_218 rfl ?_
          refine dr_dup dX12_dayStep_219 rfl ?_
          obtain ⟨x29, e30, h⟩ := dtBind h
          refine dr_getI x29 dX12_dayStep_220 fl_RX12_283 e30 ?_
          refine dr_iconst (1 : Int32) dX12_dayStep_223 (by decide) ?_
          refine dr_iadd dX12_dayStep_224 ?_
          obtain ⟨μ31, e32, h⟩ := dtBind h
          refine dr_putI μ31 dX12_dayStep_225 fl_RX12_283 rfl e32 ?_
          refine dr_mask [true, true, true, true] [some (.ref l0), some (.int l1), some (.int l2), some (.int l3)] rfl ?_
          exact c_X12_dayStep_228 l0 l1 l2 l3 μ31 h
      · have h := ht18 hc17
        refine dr_iconst (0 : Int32) dX12_dayStep_201 (by decide) ?_
        obtain ⟨hz, rfl, rfl⟩ := dtRet h
        exact dr_ireturn dX12_dayStep_202 (dtNz hz)
    · have h := hf3 hc1
      refine dr_aload_n l0 dX12_dayStep_160 rfl ?_
      obtain ⟨x33, e34, h⟩ := dtBind h
      refine dr_getR x33 dX12_dayStep_161 fl_RX12_7 e34 ?_
      refine dr_iload_n l3 dX12_dayStep_164 rfl ?_
      refine dr_iload l5 dX12_dayStep_165 rfl ?_
      refine dr_iadd dX12_dayStep_167 ?_
      refine dr_iconst (0 : Int32) dX12_dayStep_168 (by decide) ?_
      obtain ⟨μ35, e36, h⟩ := dtBind h
      refine dr_iastore μ35 dX12_dayStep_169 e36 ?_
      refine dr_iinc l5 (l5 + 1) [some (.ref l0), some (.int l1), some (.int l2), some (.int l3), some (.int l4), some (.int (l5 + 1))] dX12_dayStep_170 rfl rfl rfl rfl rfl ?_
      refine dr_goto 153 dX12_dayStep_173 (by decide) ?_
      exact ih l0 l1 l2 l3 l4 (l5 + 1) μ35 h
set_option maxRecDepth 100000 in
theorem c_X12_dayStep_139 {r : Int32} {F : dtM} (l0 : Nat) (l1 : Int32) (l2 : Int32) (l3 : Int32) (l4 : Int32) (s0 : Nat) (s1 : Int32) (s2 : Int32) (μ : dtM) (h : f_X12_dayStep_139 l0 l1 l2 l3 l4 s0 s1 s2 μ = some (r, F)) : dtW yX12_dayStep cX12_dayStep 6 (some .boolean) 12 (some (.int r)) F 139 [some (.ref l0), some (.int l1), some (.int l2), some (.int l3), some (.int l4)] [.int s2, .int s1, .ref s0] μ := by
  rw [f_X12_dayStep_139] at h
  refine dr_iadd dX12_dayStep_139 ?_
  obtain ⟨μ1, e2, h⟩ := dtBind h
  refine dr_putI μ1 dX12_dayStep_140 fl_RX12_286 rfl e2 ?_
  refine dr_aload_n l0 dX12_dayStep_143 rfl ?_
  obtain ⟨x3, e4, h⟩ := dtBind h
  refine dr_getR x3 dX12_dayStep_144 fl_RX12_7 e4 ?_
  refine dr_iload_n l3 dX12_dayStep_147 rfl ?_
  refine dr_iload_n l1 dX12_dayStep_148 rfl ?_
  obtain ⟨μ5, e6, h⟩ := dtBind h
  refine dr_iastore μ5 dX12_dayStep_149 e6 ?_
  refine dr_iconst (1 : Int32) dX12_dayStep_150 (by decide) ?_
  refine dr_istore [some (.ref l0), some (.int l1), some (.int l2), some (.int l3), some (.int l4), some (.int (1 : Int32))] dX12_dayStep_151 rfl rfl rfl ?_
  exact c_X12_dayStep_153 dtFuel l0 l1 l2 l3 l4 (1 : Int32) μ5 h
set_option maxRecDepth 100000 in
theorem c_X12_dayStep_123 {r : Int32} {F : dtM} (l0 : Nat) (l1 : Int32) (l2 : Int32) (l3 : Int32) (l4 : Int32) (μ : dtM) (h : f_X12_dayStep_123 l0 l1 l2 l3 l4 μ = some (r, F)) : dtW yX12_dayStep cX12_dayStep 6 (some .boolean) 12 (some (.int r)) F 123 [some (.ref l0), some (.int l1), some (.int l2), some (.int l3), some (.int l4)] [] μ := by
  rw [f_X12_dayStep_123] at h
  refine dr_aload_n l0 dX12_dayStep_123 rfl ?_
  refine dr_dup dX12_dayStep_124 rfl ?_
  obtain ⟨x1, e2, h⟩ := dtBind h
  refine dr_getI x1 dX12_dayStep_125 fl_RX12_286 e2 ?_
  refine dr_iload_n l1 dX12_dayStep_128 rfl ?_
  refine dr_bipush (21 : Int32) dX12_dayStep_129 (by decide) ?_
  obtain ⟨ht4, hf5⟩ := dtIte h
  refine dr_icmp_ne 138 dX12_dayStep_131 (by decide) (fun hc3 => ?_) (fun hc3 => ?_)
  · have h := hf5 hc3
    refine dr_iconst (1 : Int32) dX12_dayStep_138 (by decide) ?_
    exact c_X12_dayStep_139 l0 l1 l2 l3 l4 l0 x1 (1 : Int32) μ h
  · have h := ht4 hc3
    refine dr_iconst (0 : Int32) dX12_dayStep_134 (by decide) ?_
    refine dr_goto 139 dX12_dayStep_135 (by decide) ?_
    exact c_X12_dayStep_139 l0 l1 l2 l3 l4 l0 x1 (0 : Int32) μ h
set_option maxRecDepth 100000 in
theorem c_X12_dayStep_103 {r : Int32} {F : dtM} (l0 : Nat) (l1 : Int32) (l2 : Int32) (l3 : Int32) (l4 : Int32) (μ : dtM) (h : f_X12_dayStep_103 l0 l1 l2 l3 l4 μ = some (r, F)) : dtW yX12_dayStep cX12_dayStep 6 (some .boolean) 12 (some (.int r)) F 103 [some (.ref l0), some (.int l1), some (.int l2), some (.int l3), some (.int l4)] [] μ := by
  rw [f_X12_dayStep_103] at h
  refine dr_iload l4 dX12_dayStep_103 rfl ?_
  obtain ⟨ht2, hf3⟩ := dtIte h
  refine dr_if_eq 123 dX12_dayStep_105 (by decide) (fun hc1 => ?_) (fun hc1 => ?_)
  · have h := ht2 hc1
    exact c_X12_dayStep_123 l0 l1 l2 l3 l4 μ h
  · have h := hf3 hc1
    refine dr_aload_n l0 dX12_dayStep_108 rfl ?_
    obtain ⟨x4, e5, h⟩ := dtBind h
    refine dr_getI x4 dX12_dayStep_109 fl_RX12_283 e5 ?_
    refine dr_iconst (3 : Int32) dX12_dayStep_112 (by decide) ?_
    obtain ⟨ht7, hf8⟩ := dtIte h
    refine dr_icmp_ne 123 dX12_dayStep_113 (by decide) (fun hc6 => ?_) (fun hc6 => ?_)
    · have h := hf8 hc6
      exact c_X12_dayStep_123 l0 l1 l2 l3 l4 μ h
    · have h := ht7 hc6
      refine dr_aload_n l0 dX12_dayStep_116 rfl ?_
      refine dr_bipush (7 : Int32) dX12_dayStep_117 (by decide) ?_
      obtain ⟨_, hb9, h⟩ := dtBind h
      obtain ⟨x12, μ10, e11, h⟩ := dtCall h
      refine dr_callV_i (S0 := []) [.int (7 : Int32)] x12 μ10 dX12_dayStep_119 (c_X12_fails l0 (7 : Int32) μ e11) mf_X12_fails wt_1567 ws_62 wt_1565 rfl (dtRv hb9) (by decide) rfl (Nat.le_of_ble_eq_true rfl) (Nat.le_of_ble_eq_true rfl) rfl ?_
      obtain ⟨hz, rfl, rfl⟩ := dtRet h
      exact dr_ireturn dX12_dayStep_122 (dtNz hz)
set_option maxRecDepth 100000 in
theorem c_X12_dayStep_81 {r : Int32} {F : dtM} (l0 : Nat) (l1 : Int32) (l2 : Int32) (l3 : Int32) (l4 : Int32) (μ : dtM) (h : f_X12_dayStep_81 l0 l1 l2 l3 l4 μ = some (r, F)) : dtW yX12_dayStep cX12_dayStep 6 (some .boolean) 12 (some (.int r)) F 81 [some (.ref l0), some (.int l1), some (.int l2), some (.int l3), some (.int l4)] [] μ := by
  rw [f_X12_dayStep_81] at h
  refine dr_iload_n l1 dX12_dayStep_81 rfl ?_
  refine dr_bipush (21 : Int32) dX12_dayStep_82 (by decide) ?_
  obtain ⟨ht2, hf3⟩ := dtIte h
  refine dr_icmp_eq 103 dX12_dayStep_84 (by decide) (fun hc1 => ?_) (fun hc1 => ?_)
  · have h := ht2 hc1
    exact c_X12_dayStep_103 l0 l1 l2 l3 l4 μ h
  · have h := hf3 hc1
    refine dr_aload_n l0 dX12_dayStep_87 rfl ?_
    obtain ⟨x4, e5, h⟩ := dtBind h
    refine dr_getI x4 dX12_dayStep_88 fl_RX12_286 e5 ?_
    refine dr_bipush (30 : Int32) dX12_dayStep_91 (by decide) ?_
    obtain ⟨ht7, hf8⟩ := dtIte h
    refine dr_icmp_ne 103 dX12_dayStep_93 (by decide) (fun hc6 => ?_) (fun hc6 => ?_)
    · have h := hf8 hc6
      exact c_X12_dayStep_103 l0 l1 l2 l3 l4 μ h
    · have h := ht7 hc6
      refine dr_aload_n l0 dX12_dayStep_96 rfl ?_
      refine dr_bipush (6 : Int32) dX12_dayStep_97 (by decide) ?_
      obtain ⟨_, hb9, h⟩ := dtBind h
      obtain ⟨x12, μ10, e11, h⟩ := dtCall h
      refine dr_callV_i (S0 := []) [.int (6 : Int32)] x12 μ10 dX12_dayStep_99 (c_X12_fails l0 (6 : Int32) μ e11) mf_X12_fails wt_1567 ws_62 wt_1565 rfl (dtRv hb9) (by decide) rfl (Nat.le_of_ble_eq_true rfl) (Nat.le_of_ble_eq_true rfl) rfl ?_
      obtain ⟨hz, rfl, rfl⟩ := dtRet h
      exact dr_ireturn dX12_dayStep_102 (dtNz hz)
set_option maxRecDepth 100000 in
theorem c_X12_dayStep_75 {r : Int32} {F : dtM} (l0 : Nat) (μ : dtM) (h : f_X12_dayStep_75 l0 μ = some (r, F)) : dtW yX12_dayStep cX12_dayStep 6 (some .boolean) 12 (some (.int r)) F 75 [some (.ref l0)] [] μ := by
  rw [f_X12_dayStep_75] at h
  refine dr_aload_n l0 dX12_dayStep_75 rfl ?_
  refine dr_iconst (2 : Int32) dX12_dayStep_76 (by decide) ?_
  obtain ⟨_, hb1, h⟩ := dtBind h
  obtain ⟨x4, μ2, e3, h⟩ := dtCall h
  refine dr_callV_i (S0 := []) [.int (2 : Int32)] x4 μ2 dX12_dayStep_77 (c_X12_fails l0 (2 : Int32) μ e3) mf_X12_fails wt_1567 ws_62 wt_1565 rfl (dtRv hb1) (by decide) rfl (Nat.le_of_ble_eq_true rfl) (Nat.le_of_ble_eq_true rfl) rfl ?_
  obtain ⟨hz, rfl, rfl⟩ := dtRet h
  exact dr_ireturn dX12_dayStep_80 (dtNz hz)
set_option maxRecDepth 100000 in
theorem c_X12_dayStep_62 {r : Int32} {F : dtM} (l0 : Nat) (l1 : Int32) (l2 : Int32) (l3 : Int32) (l4 : Int32) (μ : dtM) (h : f_X12_dayStep_62 l0 l1 l2 l3 l4 μ = some (r, F)) : dtW yX12_dayStep cX12_dayStep 6 (some .boolean) 12 (some (.int r)) F 62 [some (.ref l0), some (.int l1), some (.int l2), some (.int l3), some (.int l4)] [] μ := by
  rw [f_X12_dayStep_62] at h
  refine dr_iload_n l1 dX12_dayStep_62 rfl ?_
  refine dr_bipush (21 : Int32) dX12_dayStep_63 (by decide) ?_
  obtain ⟨ht2, hf3⟩ := dtIte h
  refine dr_icmp_ne 81 dX12_dayStep_65 (by decide) (fun hc1 => ?_) (fun hc1 => ?_)
  · have h := hf3 hc1
    exact c_X12_dayStep_81 l0 l1 l2 l3 l4 μ h
  · have h := ht2 hc1
    refine dr_aload_n l0 dX12_dayStep_68 rfl ?_
    obtain ⟨x4, e5, h⟩ := dtBind h
    refine dr_getI x4 dX12_dayStep_69 fl_RX12_283 e5 ?_
    obtain ⟨ht7, hf8⟩ := dtIte h
    refine dr_if_ne 81 dX12_dayStep_72 (by decide) (fun hc6 => ?_) (fun hc6 => ?_)
    · have h := hf8 hc6
      exact c_X12_dayStep_81 l0 l1 l2 l3 l4 μ h
    · have h := ht7 hc6
      refine dr_mask [true] [some (.ref l0)] rfl ?_
      exact c_X12_dayStep_75 l0 μ h
set_option maxRecDepth 100000 in
theorem c_X12_dayStep_42 {r : Int32} {F : dtM} (l0 : Nat) (l1 : Int32) (l2 : Int32) (l3 : Int32) (s0 : Int32) (μ : dtM) (h : f_X12_dayStep_42 l0 l1 l2 l3 s0 μ = some (r, F)) : dtW yX12_dayStep cX12_dayStep 6 (some .boolean) 12 (some (.int r)) F 42 [some (.ref l0), some (.int l1), some (.int l2), some (.int l3)] [.int s0] μ := by
  rw [f_X12_dayStep_42] at h
  refine dr_istore [some (.ref l0), some (.int l1), some (.int l2), some (.int l3), some (.int s0)] dX12_dayStep_42 rfl rfl rfl ?_
  refine dr_iload_n l1 dX12_dayStep_44 rfl ?_
  refine dr_bipush (6 : Int32) dX12_dayStep_45 (by decide) ?_
  obtain ⟨ht2, hf3⟩ := dtIte h
  refine dr_icmp_eq 62 dX12_dayStep_47 (by decide) (fun hc1 => ?_) (fun hc1 => ?_)
  · have h := ht2 hc1
    exact c_X12_dayStep_62 l0 l1 l2 l3 s0 μ h
  · have h := hf3 hc1
    refine dr_iload_n l1 dX12_dayStep_50 rfl ?_
    refine dr_bipush (15 : Int32) dX12_dayStep_51 (by decide) ?_
    obtain ⟨ht5, hf6⟩ := dtIte h
    refine dr_icmp_lt 75 dX12_dayStep_53 (by decide) (fun hc4 => ?_) (fun hc4 => ?_)
    · have h := ht5 hc4
      refine dr_mask [true] [some (.ref l0)] rfl ?_
      exact c_X12_dayStep_75 l0 μ h
    · have h := hf6 hc4
      refine dr_iload_n l1 dX12_dayStep_56 rfl ?_
      refine dr_bipush (22 : Int32) dX12_dayStep_57 (by decide) ?_
      obtain ⟨ht8, hf9⟩ := dtIte h
      refine dr_icmp_gt 75 dX12_dayStep_59 (by decide) (fun hc7 => ?_) (fun hc7 => ?_)
      · have h := ht8 hc7
        refine dr_mask [true] [some (.ref l0)] rfl ?_
        exact c_X12_dayStep_75 l0 μ h
      · have h := hf9 hc7
        exact c_X12_dayStep_62 l0 l1 l2 l3 s0 μ h
set_option maxRecDepth 100000 in
theorem c_X12_dayStep_37 {r : Int32} {F : dtM} (l0 : Nat) (l1 : Int32) (l2 : Int32) (l3 : Int32) (μ : dtM) (h : f_X12_dayStep_37 l0 l1 l2 l3 μ = some (r, F)) : dtW yX12_dayStep cX12_dayStep 6 (some .boolean) 12 (some (.int r)) F 37 [some (.ref l0), some (.int l1), some (.int l2), some (.int l3)] [] μ := by
  rw [f_X12_dayStep_37] at h
  refine dr_iconst (1 : Int32) dX12_dayStep_37 (by decide) ?_
  refine dr_goto 42 dX12_dayStep_38 (by decide) ?_
  exact c_X12_dayStep_42 l0 l1 l2 l3 (1 : Int32) μ h
set_option maxRecDepth 100000 in
theorem c_X12_dayStep {r : Int32} {F : dtM} (p0 : Nat) (μ : dtM) (h : f_X12_dayStep p0 μ = some (r, F)) : dtMet yX12_dayStep cX12_dayStep 6 (some .boolean) 12 [.ref p0] μ (some (.int r)) F := by
  refine dtMet.of (by decide +kernel) (Nat.le_of_ble_eq_true rfl) (show dtW yX12_dayStep cX12_dayStep 6 (some .boolean) 12 (some (.int r)) F 0 [some (.ref p0)] [] μ from ?_)
  rw [f_X12_dayStep] at h
  refine dr_aload_n p0 dX12_dayStep_0 rfl ?_
  refine dr_ldcS1 dX12_dayStep_1 rfl ?_
  obtain ⟨_, hb1, h⟩ := dtBind h
  obtain ⟨x4, μ2, e3, h⟩ := dtCall h
  refine dr_callV_i (S0 := []) [.ref 1000003] x4 μ2 dX12_dayStep_3 (c_X12_inWords p0 1000003 μ e3) mf_X12_inWords wt_1561 ws_61 wt_1559 rfl (dtRv hb1) (by decide) rfl (Nat.le_of_ble_eq_true rfl) (Nat.le_of_ble_eq_true rfl) rfl ?_
  refine dr_istore_n 1 [some (.ref p0), some (.int x4)] dX12_dayStep_6 rfl rfl rfl rfl ?_
  refine dr_aload_n p0 dX12_dayStep_7 rfl ?_
  obtain ⟨x5, e6, h⟩ := dtBind h
  refine dr_getR x5 dX12_dayStep_8 fl_RX12_7 e6 ?_
  refine dr_sipush (2023 : Int32) dX12_dayStep_11 (by decide) ?_
  obtain ⟨x7, e8, h⟩ := dtBind h
  refine dr_iaload x7 dX12_dayStep_14 e8 ?_
  refine dr_istore_n 2 [some (.ref p0), some (.int x4), some (.int x7)] dX12_dayStep_15 rfl rfl rfl rfl ?_
  refine dr_sipush (2152 : Int32) dX12_dayStep_16 (by decide) ?_
  refine dr_bipush (6 : Int32) dX12_dayStep_19 (by decide) ?_
  refine dr_iload_n x7 dX12_dayStep_21 rfl ?_
  refine dr_imul dX12_dayStep_22 ?_
  refine dr_iadd dX12_dayStep_23 ?_
  obtain ⟨x9, e10, h⟩ := dtBind h
  refine dr_nmi e10 ?_
  refine dr_istore_n 3 [some (.ref p0), some (.int x4), some (.int x7), some (.int x9)] dX12_dayStep_24 rfl rfl rfl rfl ?_
  refine dr_iload_n x4 dX12_dayStep_25 rfl ?_
  refine dr_bipush (19 : Int32) dX12_dayStep_26 (by decide) ?_
  obtain ⟨ht12, hf13⟩ := dtIte h
  refine dr_icmp_eq 37 dX12_dayStep_28 (by decide) (fun hc11 => ?_) (fun hc11 => ?_)
  · have h := ht12 hc11
    exact c_X12_dayStep_37 p0 x4 x7 x9 μ2 h
  · have h := hf13 hc11
    refine dr_iload_n x4 dX12_dayStep_31 rfl ?_
    refine dr_bipush (20 : Int32) dX12_dayStep_32 (by decide) ?_
    obtain ⟨ht15, hf16⟩ := dtIte h
    refine dr_icmp_ne 41 dX12_dayStep_34 (by decide) (fun hc14 => ?_) (fun hc14 => ?_)
    · have h := hf16 hc14
      refine dr_iconst (0 : Int32) dX12_dayStep_41 (by decide) ?_
      exact c_X12_dayStep_42 p0 x4 x7 x9 (0 : Int32) μ2 h
    · have h := ht15 hc14
      exact c_X12_dayStep_37 p0 x4 x7 x9 μ2 h
/-! X12_days -/
theorem dX12_days_0 : decode cX12_days 0 = .ok (.aload_n 0, 1) := by decide +kernel
theorem dX12_days_1 : decode cX12_days 1 = .ok (.iload_n 1, 1) := by decide +kernel
theorem dX12_days_2 : decode cX12_days 2 = .ok (.sipush 300, 3) := by decide +kernel
theorem dX12_days_5 : decode cX12_days 5 = .ok (.invokevirtual 262, 3) := by decide +kernel
theorem dX12_days_8 : decode cX12_days 8 = .ok (.ifCond .ne 9, 3) := by decide +kernel
theorem dX12_days_11 : decode cX12_days 11 = .ok (.aload_n 0, 1) := by decide +kernel
theorem dX12_days_12 : decode cX12_days 12 = .ok (.iconst 1, 1) := by decide +kernel
theorem dX12_days_13 : decode cX12_days 13 = .ok (.invokevirtual 93, 3) := by decide +kernel
theorem dX12_days_16 : decode cX12_days 16 = .ok (.ireturn, 1) := by decide +kernel
theorem dX12_days_17 : decode cX12_days 17 = .ok (.aload_n 0, 1) := by decide +kernel
theorem dX12_days_18 : decode cX12_days 18 = .ok (.getfield 7, 3) := by decide +kernel
theorem dX12_days_21 : decode cX12_days 21 = .ok (.sipush 2023, 3) := by decide +kernel
theorem dX12_days_24 : decode cX12_days 24 = .ok (.iconst 0, 1) := by decide +kernel
theorem dX12_days_25 : decode cX12_days 25 = .ok (.iastore, 1) := by decide +kernel
theorem dX12_days_26 : decode cX12_days 26 = .ok (.aload_n 0, 1) := by decide +kernel
theorem dX12_days_27 : decode cX12_days 27 = .ok (.iconst 0, 1) := by decide +kernel
theorem dX12_days_28 : decode cX12_days 28 = .ok (.putfield 283, 3) := by decide +kernel
theorem dX12_days_31 : decode cX12_days 31 = .ok (.aload_n 0, 1) := by decide +kernel
theorem dX12_days_32 : decode cX12_days 32 = .ok (.iconst 0, 1) := by decide +kernel
theorem dX12_days_33 : decode cX12_days 33 = .ok (.putfield 286, 3) := by decide +kernel
theorem dX12_days_36 : decode cX12_days 36 = .ok (.iconst 1, 1) := by decide +kernel
theorem dX12_days_37 : decode cX12_days 37 = .ok (.istore_n 2, 1) := by decide +kernel
theorem dX12_days_38 : decode cX12_days 38 = .ok (.iload_n 2, 1) := by decide +kernel
theorem dX12_days_39 : decode cX12_days 39 = .ok (.ifCond .eq 18, 3) := by decide +kernel
theorem dX12_days_42 : decode cX12_days 42 = .ok (.aload_n 0, 1) := by decide +kernel
theorem dX12_days_43 : decode cX12_days 43 = .ok (.getfield 138, 3) := by decide +kernel
theorem dX12_days_46 : decode cX12_days 46 = .ok (.ifCond .eq 11, 3) := by decide +kernel
theorem dX12_days_49 : decode cX12_days 49 = .ok (.aload_n 0, 1) := by decide +kernel
theorem dX12_days_50 : decode cX12_days 50 = .ok (.invokevirtual 292, 3) := by decide +kernel
theorem dX12_days_53 : decode cX12_days 53 = .ok (.istore_n 2, 1) := by decide +kernel
theorem dX12_days_54 : decode cX12_days 54 = .ok (.goto (-16), 3) := by decide +kernel
theorem dX12_days_57 : decode cX12_days 57 = .ok (.aload_n 0, 1) := by decide +kernel
theorem dX12_days_58 : decode cX12_days 58 = .ok (.getfield 163, 3) := by decide +kernel
theorem dX12_days_61 : decode cX12_days 61 = .ok (.ifCond .ne 16, 3) := by decide +kernel
theorem dX12_days_64 : decode cX12_days 64 = .ok (.aload_n 0, 1) := by decide +kernel
theorem dX12_days_65 : decode cX12_days 65 = .ok (.getfield 283, 3) := by decide +kernel
theorem dX12_days_68 : decode cX12_days 68 = .ok (.ifCond .le 9, 3) := by decide +kernel
theorem dX12_days_71 : decode cX12_days 71 = .ok (.aload_n 0, 1) := by decide +kernel
theorem dX12_days_72 : decode cX12_days 72 = .ok (.iconst 2, 1) := by decide +kernel
theorem dX12_days_73 : decode cX12_days 73 = .ok (.invokevirtual 175, 3) := by decide +kernel
theorem dX12_days_76 : decode cX12_days 76 = .ok (.pop, 1) := by decide +kernel
theorem dX12_days_77 : decode cX12_days 77 = .ok (.aload_n 0, 1) := by decide +kernel
theorem dX12_days_78 : decode cX12_days 78 = .ok (.getfield 163, 3) := by decide +kernel
theorem dX12_days_81 : decode cX12_days 81 = .ok (.ifCond .ne 51, 3) := by decide +kernel
theorem dX12_days_84 : decode cX12_days 84 = .ok (.aload_n 0, 1) := by decide +kernel
theorem dX12_days_85 : decode cX12_days 85 = .ok (.getfield 7, 3) := by decide +kernel
theorem dX12_days_88 : decode cX12_days 88 = .ok (.bipush 7, 2) := by decide +kernel
theorem dX12_days_90 : decode cX12_days 90 = .ok (.aload_n 0, 1) := by decide +kernel
theorem dX12_days_91 : decode cX12_days 91 = .ok (.getfield 7, 3) := by decide +kernel
theorem dX12_days_94 : decode cX12_days 94 = .ok (.sipush 2023, 3) := by decide +kernel
theorem dX12_days_97 : decode cX12_days 97 = .ok (.iaload, 1) := by decide +kernel
theorem dX12_days_98 : decode cX12_days 98 = .ok (.iastore, 1) := by decide +kernel
theorem dX12_days_99 : decode cX12_days 99 = .ok (.sipush 136, 3) := by decide +kernel
theorem dX12_days_102 : decode cX12_days 102 = .ok (.istore_n 3, 1) := by decide +kernel
theorem dX12_days_103 : decode cX12_days 103 = .ok (.iload_n 3, 1) := by decide +kernel
theorem dX12_days_104 : decode cX12_days 104 = .ok (.sipush 496, 3) := by decide +kernel
theorem dX12_days_107 : decode cX12_days 107 = .ok (.if_icmp .ge 25, 3) := by decide +kernel
theorem dX12_days_110 : decode cX12_days 110 = .ok (.aload_n 0, 1) := by decide +kernel
theorem dX12_days_111 : decode cX12_days 111 = .ok (.getfield 7, 3) := by decide +kernel
theorem dX12_days_114 : decode cX12_days 114 = .ok (.iload_n 3, 1) := by decide +kernel
theorem dX12_days_115 : decode cX12_days 115 = .ok (.aload_n 0, 1) := by decide +kernel
theorem dX12_days_116 : decode cX12_days 116 = .ok (.getfield 7, 3) := by decide +kernel
theorem dX12_days_119 : decode cX12_days 119 = .ok (.sipush 2016, 3) := by decide +kernel
theorem dX12_days_122 : decode cX12_days 122 = .ok (.iload_n 3, 1) := by decide +kernel
theorem dX12_days_123 : decode cX12_days 123 = .ok (.iadd, 1) := by decide +kernel
theorem dX12_days_124 : decode cX12_days 124 = .ok (.iaload, 1) := by decide +kernel
theorem dX12_days_125 : decode cX12_days 125 = .ok (.iastore, 1) := by decide +kernel
theorem dX12_days_126 : decode cX12_days 126 = .ok (.iinc 3 1, 3) := by decide +kernel
theorem dX12_days_129 : decode cX12_days 129 = .ok (.goto (-26), 3) := by decide +kernel
theorem dX12_days_132 : decode cX12_days 132 = .ok (.aload_n 0, 1) := by decide +kernel
theorem dX12_days_133 : decode cX12_days 133 = .ok (.aload_n 0, 1) := by decide +kernel
theorem dX12_days_134 : decode cX12_days 134 = .ok (.getfield 286, 3) := by decide +kernel
theorem dX12_days_137 : decode cX12_days 137 = .ok (.invokevirtual 268, 3) := by decide +kernel
theorem dX12_days_140 : decode cX12_days 140 = .ok (.ireturn, 1) := by decide +kernel
set_option maxRecDepth 100000 in
def f_X12_days_132 (l0 : Nat) (μ : dtM) : Option (Int32 × dtM) :=
  (opGI 12 23 μ l0).bind fun x1 => (opRv 12 μ l0).bind fun _ => opCall (f_X12_taken l0 x1 μ) fun x6 μ4 => some (x6, μ4)
set_option maxRecDepth 100000 in
def f_X12_days_103 : Nat → Nat → Int32 → dtM → Option (Int32 × dtM)
  | 0, _, _, _ => none
  | n + 1, l0, l3, μ =>
    if (496 : Int32) ≤ l3 then (f_X12_days_132 l0 μ) else ((opGR 12 0 μ l0).bind fun x4 => (opGR 12 0 μ l0).bind fun x6 => (opLI 1 μ x6 ((2016 : Int32) + l3)).bind fun x8 => (opSI μ x4 l3 x8).bind fun μ10 => f_X12_days_103 n l0 (l3 + 1) μ10)
set_option maxRecDepth 100000 in
def f_X12_days_77 (l0 : Nat) (μ : dtM) : Option (Int32 × dtM) :=
  (opGI 12 18 μ l0).bind fun x1 => if x1 = 0 then ((opGR 12 0 μ l0).bind fun x6 => (opGR 12 0 μ l0).bind fun x8 => (opLI 1 μ x8 (2023 : Int32)).bind fun x10 => (opSI μ x6 (7 : Int32) x10).bind fun μ12 => f_X12_days_103 dtFuel l0 (136 : Int32) μ12) else (f_X12_days_132 l0 μ)
set_option maxRecDepth 100000 in
def f_X12_days_57 (l0 : Nat) (μ : dtM) : Option (Int32 × dtM) :=
  (opGI 12 18 μ l0).bind fun x1 => if x1 = 0 then ((opGI 12 22 μ l0).bind fun x6 => if x6 ≤ 0 then (f_X12_days_77 l0 μ) else ((opRv 12 μ l0).bind fun _ => opCall (f_X12_fails l0 (2 : Int32) μ) fun x14 μ12 => f_X12_days_77 l0 μ12)) else (f_X12_days_77 l0 μ)
set_option maxRecDepth 100000 in
def f_X12_days_38 : Nat → Nat → Int32 → dtM → Option (Int32 × dtM)
  | 0, _, _, _ => none
  | n + 1, l0, l2, μ =>
    if l2 = 0 then (f_X12_days_57 l0 μ) else ((opGI 12 12 μ l0).bind fun x4 => if x4 = 0 then (f_X12_days_57 l0 μ) else ((opRv 12 μ l0).bind fun _ => opCall (f_X12_dayStep l0 μ) fun x12 μ10 => f_X12_days_38 n l0 x12 μ10))
set_option maxRecDepth 100000 in
def f_X12_days (p0 : Nat) (p1 : Int32) (μ : dtM) : Option (Int32 × dtM) :=
  (opRv 12 μ p0).bind fun _ => opCall (f_X12_begins p0 p1 (300 : Int32) μ) fun x4 μ2 => if x4 = 0 then ((opRv 12 μ2 p0).bind fun _ => opCall (f_X12_refuse p0 (1 : Int32) μ2) fun x19 μ17 => some (x19, μ17)) else ((opGR 12 0 μ2 p0).bind fun x8 => (opSI μ2 x8 (2023 : Int32) (0 : Int32)).bind fun μ10 => (opPI 12 22 μ10 p0 (0 : Int32)).bind fun μ12 => (opPI 12 23 μ12 p0 (0 : Int32)).bind fun μ14 => f_X12_days_38 dtFuel p0 (1 : Int32) μ14)
set_option maxRecDepth 100000 in
theorem c_X12_days_132 {r : Int32} {F : dtM} (l0 : Nat) (μ : dtM) (h : f_X12_days_132 l0 μ = some (r, F)) : dtW yX12_days cX12_days 4 (some .int) 13 (some (.int r)) F 132 [some (.ref l0)] [] μ := by
  rw [f_X12_days_132] at h
  refine dr_aload_n l0 dX12_days_132 rfl ?_
  refine dr_aload_n l0 dX12_days_133 rfl ?_
  obtain ⟨x1, e2, h⟩ := dtBind h
  refine dr_getI x1 dX12_days_134 fl_RX12_286 e2 ?_
  obtain ⟨_, hb3, h⟩ := dtBind h
  obtain ⟨x6, μ4, e5, h⟩ := dtCall h
  refine dr_callV_i (S0 := []) [.int x1] x6 μ4 dX12_days_137 (c_X12_taken l0 x1 μ e5) mf_X12_taken wt_1664 ws_84 wt_1662 rfl (dtRv hb3) (by decide) rfl (Nat.le_of_ble_eq_true rfl) (Nat.le_of_ble_eq_true rfl) rfl ?_
  cases h
  exact dr_ireturn dX12_days_140 rfl
set_option maxRecDepth 100000 in
theorem c_X12_days_103 {r : Int32} {F : dtM} : ∀ (n : Nat) (l0 : Nat) (l3 : Int32) (μ : dtM), f_X12_days_103 n l0 l3 μ = some (r, F) → dtW yX12_days cX12_days 4 (some .int) 13 (some (.int r)) F 103 [some (.ref l0), none, none, some (.int l3)] [] μ := by
  intro n
  induction n with
  | zero => intro l0 l3 μ h; cases h
  | succ n ih =>
    intro l0 l3 μ h
    have h := (show f_X12_days_103 (n + 1) l0 l3 μ = some _ from h)
    rw [f_X12_days_103] at h
    refine dr_iload_n l3 dX12_days_103 rfl ?_
    refine dr_sipush (496 : Int32) dX12_days_104 (by decide) ?_
    obtain ⟨ht2, hf3⟩ := dtIte h
    refine dr_icmp_ge 132 dX12_days_107 (by decide) (fun hc1 => ?_) (fun hc1 => ?_)
    · have h := ht2 hc1
      refine dr_mask [true] [some (.ref l0)] rfl ?_
      exact c_X12_days_132 l0 μ h
    · have h := hf3 hc1
      refine dr_aload_n l0 dX12_days_110 rfl ?_
      obtain ⟨x4, e5, h⟩ := dtBind h
      refine dr_getR x4 dX12_days_111 fl_RX12_7 e5 ?_
      refine dr_iload_n l3 dX12_days_114 rfl ?_
      refine dr_aload_n l0 dX12_days_115 rfl ?_
      obtain ⟨x6, e7, h⟩ := dtBind h
      refine dr_getR x6 dX12_days_116 fl_RX12_7 e7 ?_
      refine dr_sipush (2016 : Int32) dX12_days_119 (by decide) ?_
      refine dr_iload_n l3 dX12_days_122 rfl ?_
      refine dr_iadd dX12_days_123 ?_
      obtain ⟨x8, e9, h⟩ := dtBind h
      refine dr_iaload x8 dX12_days_124 e9 ?_
      obtain ⟨μ10, e11, h⟩ := dtBind h
      refine dr_iastore μ10 dX12_days_125 e11 ?_
      refine dr_iinc l3 (l3 + 1) [some (.ref l0), none, none, some (.int (l3 + 1))] dX12_days_126 rfl rfl rfl rfl rfl ?_
      refine dr_goto 103 dX12_days_129 (by decide) ?_
      exact ih l0 (l3 + 1) μ10 h
set_option maxRecDepth 100000 in
theorem c_X12_days_77 {r : Int32} {F : dtM} (l0 : Nat) (μ : dtM) (h : f_X12_days_77 l0 μ = some (r, F)) : dtW yX12_days cX12_days 4 (some .int) 13 (some (.int r)) F 77 [some (.ref l0)] [] μ := by
  rw [f_X12_days_77] at h
  refine dr_aload_n l0 dX12_days_77 rfl ?_
  obtain ⟨x1, e2, h⟩ := dtBind h
  refine dr_getI x1 dX12_days_78 fl_RX12_163 e2 ?_
  obtain ⟨ht4, hf5⟩ := dtIte h
  refine dr_if_ne 132 dX12_days_81 (by decide) (fun hc3 => ?_) (fun hc3 => ?_)
  · have h := hf5 hc3
    exact c_X12_days_132 l0 μ h
  · have h := ht4 hc3
    refine dr_aload_n l0 dX12_days_84 rfl ?_
    obtain ⟨x6, e7, h⟩ := dtBind h
    refine dr_getR x6 dX12_days_85 fl_RX12_7 e7 ?_
    refine dr_bipush (7 : Int32) dX12_days_88 (by decide) ?_
    refine dr_aload_n l0 dX12_days_90 rfl ?_
    obtain ⟨x8, e9, h⟩ := dtBind h
    refine dr_getR x8 dX12_days_91 fl_RX12_7 e9 ?_
    refine dr_sipush (2023 : Int32) dX12_days_94 (by decide) ?_
    obtain ⟨x10, e11, h⟩ := dtBind h
    refine dr_iaload x10 dX12_days_97 e11 ?_
    obtain ⟨μ12, e13, h⟩ := dtBind h
    refine dr_iastore μ12 dX12_days_98 e13 ?_
    refine dr_sipush (136 : Int32) dX12_days_99 (by decide) ?_
    refine dr_istore_n 3 [some (.ref l0), none, none, some (.int (136 : Int32))] dX12_days_102 rfl rfl rfl rfl ?_
    exact c_X12_days_103 dtFuel l0 (136 : Int32) μ12 h
set_option maxRecDepth 100000 in
theorem c_X12_days_57 {r : Int32} {F : dtM} (l0 : Nat) (μ : dtM) (h : f_X12_days_57 l0 μ = some (r, F)) : dtW yX12_days cX12_days 4 (some .int) 13 (some (.int r)) F 57 [some (.ref l0)] [] μ := by
  rw [f_X12_days_57] at h
  refine dr_aload_n l0 dX12_days_57 rfl ?_
  obtain ⟨x1, e2, h⟩ := dtBind h
  refine dr_getI x1 dX12_days_58 fl_RX12_163 e2 ?_
  obtain ⟨ht4, hf5⟩ := dtIte h
  refine dr_if_ne 77 dX12_days_61 (by decide) (fun hc3 => ?_) (fun hc3 => ?_)
  · have h := hf5 hc3
    exact c_X12_days_77 l0 μ h
  · have h := ht4 hc3
    refine dr_aload_n l0 dX12_days_64 rfl ?_
    obtain ⟨x6, e7, h⟩ := dtBind h
    refine dr_getI x6 dX12_days_65 fl_RX12_283 e7 ?_
    obtain ⟨ht9, hf10⟩ := dtIte h
    refine dr_if_le 77 dX12_days_68 (by decide) (fun hc8 => ?_) (fun hc8 => ?_)
    · have h := ht9 hc8
      exact c_X12_days_77 l0 μ h
    · have h := hf10 hc8
      refine dr_aload_n l0 dX12_days_71 rfl ?_
      refine dr_iconst (2 : Int32) dX12_days_72 (by decide) ?_
      obtain ⟨_, hb11, h⟩ := dtBind h
      obtain ⟨x14, μ12, e13, h⟩ := dtCall h
      refine dr_callV_i (S0 := []) [.int (2 : Int32)] x14 μ12 dX12_days_73 (c_X12_fails l0 (2 : Int32) μ e13) mf_X12_fails wt_1567 ws_62 wt_1565 rfl (dtRv hb11) (by decide) rfl (Nat.le_of_ble_eq_true rfl) (Nat.le_of_ble_eq_true rfl) rfl ?_
      refine dr_pop dX12_days_76 rfl ?_
      exact c_X12_days_77 l0 μ12 h
set_option maxRecDepth 100000 in
theorem c_X12_days_38 {r : Int32} {F : dtM} : ∀ (n : Nat) (l0 : Nat) (l2 : Int32) (μ : dtM), f_X12_days_38 n l0 l2 μ = some (r, F) → dtW yX12_days cX12_days 4 (some .int) 13 (some (.int r)) F 38 [some (.ref l0), none, some (.int l2)] [] μ := by
  intro n
  induction n with
  | zero => intro l0 l2 μ h; cases h
  | succ n ih =>
    intro l0 l2 μ h
    have h := (show f_X12_days_38 (n + 1) l0 l2 μ = some _ from h)
    rw [f_X12_days_38] at h
    refine dr_iload_n l2 dX12_days_38 rfl ?_
    obtain ⟨ht2, hf3⟩ := dtIte h
    refine dr_if_eq 57 dX12_days_39 (by decide) (fun hc1 => ?_) (fun hc1 => ?_)
    · have h := ht2 hc1
      refine dr_mask [true] [some (.ref l0)] rfl ?_
      exact c_X12_days_57 l0 μ h
    · have h := hf3 hc1
      refine dr_aload_n l0 dX12_days_42 rfl ?_
      obtain ⟨x4, e5, h⟩ := dtBind h
      refine dr_getI x4 dX12_days_43 fl_RX12_138 e5 ?_
      obtain ⟨ht7, hf8⟩ := dtIte h
      refine dr_if_eq 57 dX12_days_46 (by decide) (fun hc6 => ?_) (fun hc6 => ?_)
      · have h := ht7 hc6
        refine dr_mask [true] [some (.ref l0)] rfl ?_
        exact c_X12_days_57 l0 μ h
      · have h := hf8 hc6
        refine dr_aload_n l0 dX12_days_49 rfl ?_
        obtain ⟨_, hb9, h⟩ := dtBind h
        obtain ⟨x12, μ10, e11, h⟩ := dtCall h
        refine dr_callV_i (S0 := []) [] x12 μ10 dX12_days_50 (c_X12_dayStep l0 μ e11) mf_X12_dayStep wt_1676 ws_86 wt_1674 rfl (dtRv hb9) (by decide) rfl (Nat.le_of_ble_eq_true rfl) (Nat.le_of_ble_eq_true rfl) rfl ?_
        refine dr_istore_n 2 [some (.ref l0), none, some (.int x12)] dX12_days_53 rfl rfl rfl rfl ?_
        refine dr_goto 38 dX12_days_54 (by decide) ?_
        exact ih l0 x12 μ10 h
set_option maxRecDepth 100000 in
theorem c_X12_days {r : Int32} {F : dtM} (p0 : Nat) (p1 : Int32) (μ : dtM) (h : f_X12_days p0 p1 μ = some (r, F)) : dtMet yX12_days cX12_days 4 (some .int) 13 [.ref p0, .int p1] μ (some (.int r)) F := by
  refine dtMet.of (by decide +kernel) (Nat.le_of_ble_eq_true rfl) (show dtW yX12_days cX12_days 4 (some .int) 13 (some (.int r)) F 0 [some (.ref p0), some (.int p1)] [] μ from ?_)
  rw [f_X12_days] at h
  refine dr_aload_n p0 dX12_days_0 rfl ?_
  refine dr_iload_n p1 dX12_days_1 rfl ?_
  refine dr_sipush (300 : Int32) dX12_days_2 (by decide) ?_
  obtain ⟨_, hb1, h⟩ := dtBind h
  obtain ⟨x4, μ2, e3, h⟩ := dtCall h
  refine dr_callV_i (S0 := []) [.int p1, .int (300 : Int32)] x4 μ2 dX12_days_5 (c_X12_begins p0 p1 (300 : Int32) μ e3) mf_X12_begins wt_1532 ws_56 wt_1530 rfl (dtRv hb1) (by decide) rfl (Nat.le_of_ble_eq_true rfl) (Nat.le_of_ble_eq_true rfl) rfl ?_
  obtain ⟨ht6, hf7⟩ := dtIte h
  refine dr_if_ne 17 dX12_days_8 (by decide) (fun hc5 => ?_) (fun hc5 => ?_)
  · have h := hf7 hc5
    refine dr_aload_n p0 dX12_days_17 rfl ?_
    obtain ⟨x8, e9, h⟩ := dtBind h
    refine dr_getR x8 dX12_days_18 fl_RX12_7 e9 ?_
    refine dr_sipush (2023 : Int32) dX12_days_21 (by decide) ?_
    refine dr_iconst (0 : Int32) dX12_days_24 (by decide) ?_
    obtain ⟨μ10, e11, h⟩ := dtBind h
    refine dr_iastore μ10 dX12_days_25 e11 ?_
    refine dr_aload_n p0 dX12_days_26 rfl ?_
    refine dr_iconst (0 : Int32) dX12_days_27 (by decide) ?_
    obtain ⟨μ12, e13, h⟩ := dtBind h
    refine dr_putI μ12 dX12_days_28 fl_RX12_283 rfl e13 ?_
    refine dr_aload_n p0 dX12_days_31 rfl ?_
    refine dr_iconst (0 : Int32) dX12_days_32 (by decide) ?_
    obtain ⟨μ14, e15, h⟩ := dtBind h
    refine dr_putI μ14 dX12_days_33 fl_RX12_286 rfl e15 ?_
    refine dr_iconst (1 : Int32) dX12_days_36 (by decide) ?_
    refine dr_istore_n 2 [some (.ref p0), some (.int p1), some (.int (1 : Int32))] dX12_days_37 rfl rfl rfl rfl ?_
    refine dr_mask [true, false, true] [some (.ref p0), none, some (.int (1 : Int32))] rfl ?_
    exact c_X12_days_38 dtFuel p0 (1 : Int32) μ14 h
  · have h := ht6 hc5
    refine dr_aload_n p0 dX12_days_11 rfl ?_
    refine dr_iconst (1 : Int32) dX12_days_12 (by decide) ?_
    obtain ⟨_, hb16, h⟩ := dtBind h
    obtain ⟨x19, μ17, e18, h⟩ := dtCall h
    refine dr_callV_i (S0 := []) [.int (1 : Int32)] x19 μ17 dX12_days_13 (c_X12_refuse p0 (1 : Int32) μ2 e18) mf_X12_refuse wt_1552 ws_59 wt_1550 rfl (dtRv hb16) (by decide) rfl (Nat.le_of_ble_eq_true rfl) (Nat.le_of_ble_eq_true rfl) rfl ?_
    cases h
    exact dr_ireturn dX12_days_16 rfl
/-! X12_isRoom -/
theorem dX12_isRoom_0 : decode cX12_isRoom 0 = .ok (.iload_n 1, 1) := by decide +kernel
theorem dX12_isRoom_1 : decode cX12_isRoom 1 = .ok (.ifCond .lt 17, 3) := by decide +kernel
theorem dX12_isRoom_4 : decode cX12_isRoom 4 = .ok (.iload_n 1, 1) := by decide +kernel
theorem dX12_isRoom_5 : decode cX12_isRoom 5 = .ok (.aload_n 0, 1) := by decide +kernel
theorem dX12_isRoom_6 : decode cX12_isRoom 6 = .ok (.getfield 7, 3) := by decide +kernel
theorem dX12_isRoom_9 : decode cX12_isRoom 9 = .ok (.iconst 0, 1) := by decide +kernel
theorem dX12_isRoom_10 : decode cX12_isRoom 10 = .ok (.iaload, 1) := by decide +kernel
theorem dX12_isRoom_11 : decode cX12_isRoom 11 = .ok (.if_icmp .ge 7, 3) := by decide +kernel
theorem dX12_isRoom_14 : decode cX12_isRoom 14 = .ok (.iconst 1, 1) := by decide +kernel
theorem dX12_isRoom_15 : decode cX12_isRoom 15 = .ok (.goto 4, 3) := by decide +kernel
theorem dX12_isRoom_18 : decode cX12_isRoom 18 = .ok (.iconst 0, 1) := by decide +kernel
theorem dX12_isRoom_19 : decode cX12_isRoom 19 = .ok (.ireturn, 1) := by decide +kernel
set_option maxRecDepth 100000 in
def f_X12_isRoom_19 (s0 : Int32) (μ : dtM) : Option (Int32 × dtM) :=
  opRet s0 μ
set_option maxRecDepth 100000 in
def f_X12_isRoom_18  (μ : dtM) : Option (Int32 × dtM) :=
  f_X12_isRoom_19 (0 : Int32) μ
set_option maxRecDepth 100000 in
def f_X12_isRoom (p0 : Nat) (p1 : Int32) (μ : dtM) : Option (Int32 × dtM) :=
  if p1 < 0 then (f_X12_isRoom_18 μ) else ((opGR 12 0 μ p0).bind fun x4 => (opLI 1 μ x4 (0 : Int32)).bind fun x6 => if x6 ≤ p1 then (f_X12_isRoom_18 μ) else (f_X12_isRoom_19 (1 : Int32) μ))
set_option maxRecDepth 100000 in
theorem c_X12_isRoom_19 {r : Int32} {F : dtM} (s0 : Int32) (μ : dtM) (h : f_X12_isRoom_19 s0 μ = some (r, F)) : dtW yX12_isRoom cX12_isRoom 2 (some .boolean) 1 (some (.int r)) F 19 [] [.int s0] μ := by
  rw [f_X12_isRoom_19] at h
  obtain ⟨hz, rfl, rfl⟩ := dtRet h
  exact dr_ireturn dX12_isRoom_19 (dtNz hz)
set_option maxRecDepth 100000 in
theorem c_X12_isRoom_18 {r : Int32} {F : dtM}  (μ : dtM) (h : f_X12_isRoom_18  μ = some (r, F)) : dtW yX12_isRoom cX12_isRoom 2 (some .boolean) 1 (some (.int r)) F 18 [] [] μ := by
  rw [f_X12_isRoom_18] at h
  refine dr_iconst (0 : Int32) dX12_isRoom_18 (by decide) ?_
  exact c_X12_isRoom_19 (0 : Int32) μ h
set_option maxRecDepth 100000 in
theorem c_X12_isRoom {r : Int32} {F : dtM} (p0 : Nat) (p1 : Int32) (μ : dtM) (h : f_X12_isRoom p0 p1 μ = some (r, F)) : dtMet yX12_isRoom cX12_isRoom 2 (some .boolean) 1 [.ref p0, .int p1] μ (some (.int r)) F := by
  refine dtMet.of (by decide +kernel) (Nat.le_of_ble_eq_true rfl) (show dtW yX12_isRoom cX12_isRoom 2 (some .boolean) 1 (some (.int r)) F 0 [some (.ref p0), some (.int p1)] [] μ from ?_)
  rw [f_X12_isRoom] at h
  refine dr_iload_n p1 dX12_isRoom_0 rfl ?_
  obtain ⟨ht2, hf3⟩ := dtIte h
  refine dr_if_lt 18 dX12_isRoom_1 (by decide) (fun hc1 => ?_) (fun hc1 => ?_)
  · have h := ht2 hc1
    refine dr_mask [] [] rfl ?_
    exact c_X12_isRoom_18 μ h
  · have h := hf3 hc1
    refine dr_iload_n p1 dX12_isRoom_4 rfl ?_
    refine dr_aload_n p0 dX12_isRoom_5 rfl ?_
    obtain ⟨x4, e5, h⟩ := dtBind h
    refine dr_getR x4 dX12_isRoom_6 fl_RX12_7 e5 ?_
    refine dr_iconst (0 : Int32) dX12_isRoom_9 (by decide) ?_
    obtain ⟨x6, e7, h⟩ := dtBind h
    refine dr_iaload x6 dX12_isRoom_10 e7 ?_
    obtain ⟨ht9, hf10⟩ := dtIte h
    refine dr_icmp_ge 18 dX12_isRoom_11 (by decide) (fun hc8 => ?_) (fun hc8 => ?_)
    · have h := ht9 hc8
      refine dr_mask [] [] rfl ?_
      exact c_X12_isRoom_18 μ h
    · have h := hf10 hc8
      refine dr_iconst (1 : Int32) dX12_isRoom_14 (by decide) ?_
      refine dr_goto 19 dX12_isRoom_15 (by decide) ?_
      refine dr_mask [] [] rfl ?_
      exact c_X12_isRoom_19 (1 : Int32) μ h
/-! X12_isDoor -/
theorem dX12_isDoor_0 : decode cX12_isDoor 0 = .ok (.iload_n 1, 1) := by decide +kernel
theorem dX12_isDoor_1 : decode cX12_isDoor 1 = .ok (.ifCond .lt 17, 3) := by decide +kernel
theorem dX12_isDoor_4 : decode cX12_isDoor 4 = .ok (.iload_n 1, 1) := by decide +kernel
theorem dX12_isDoor_5 : decode cX12_isDoor 5 = .ok (.aload_n 0, 1) := by decide +kernel
theorem dX12_isDoor_6 : decode cX12_isDoor 6 = .ok (.getfield 7, 3) := by decide +kernel
theorem dX12_isDoor_9 : decode cX12_isDoor 9 = .ok (.iconst 1, 1) := by decide +kernel
theorem dX12_isDoor_10 : decode cX12_isDoor 10 = .ok (.iaload, 1) := by decide +kernel
theorem dX12_isDoor_11 : decode cX12_isDoor 11 = .ok (.if_icmp .ge 7, 3) := by decide +kernel
theorem dX12_isDoor_14 : decode cX12_isDoor 14 = .ok (.iconst 1, 1) := by decide +kernel
theorem dX12_isDoor_15 : decode cX12_isDoor 15 = .ok (.goto 4, 3) := by decide +kernel
theorem dX12_isDoor_18 : decode cX12_isDoor 18 = .ok (.iconst 0, 1) := by decide +kernel
theorem dX12_isDoor_19 : decode cX12_isDoor 19 = .ok (.ireturn, 1) := by decide +kernel
set_option maxRecDepth 100000 in
def f_X12_isDoor_19 (s0 : Int32) (μ : dtM) : Option (Int32 × dtM) :=
  opRet s0 μ
set_option maxRecDepth 100000 in
def f_X12_isDoor_18  (μ : dtM) : Option (Int32 × dtM) :=
  f_X12_isDoor_19 (0 : Int32) μ
set_option maxRecDepth 100000 in
def f_X12_isDoor (p0 : Nat) (p1 : Int32) (μ : dtM) : Option (Int32 × dtM) :=
  if p1 < 0 then (f_X12_isDoor_18 μ) else ((opGR 12 0 μ p0).bind fun x4 => (opLI 1 μ x4 (1 : Int32)).bind fun x6 => if x6 ≤ p1 then (f_X12_isDoor_18 μ) else (f_X12_isDoor_19 (1 : Int32) μ))
set_option maxRecDepth 100000 in
theorem c_X12_isDoor_19 {r : Int32} {F : dtM} (s0 : Int32) (μ : dtM) (h : f_X12_isDoor_19 s0 μ = some (r, F)) : dtW yX12_isDoor cX12_isDoor 2 (some .boolean) 1 (some (.int r)) F 19 [] [.int s0] μ := by
  rw [f_X12_isDoor_19] at h
  obtain ⟨hz, rfl, rfl⟩ := dtRet h
  exact dr_ireturn dX12_isDoor_19 (dtNz hz)
set_option maxRecDepth 100000 in
theorem c_X12_isDoor_18 {r : Int32} {F : dtM}  (μ : dtM) (h : f_X12_isDoor_18  μ = some (r, F)) : dtW yX12_isDoor cX12_isDoor 2 (some .boolean) 1 (some (.int r)) F 18 [] [] μ := by
  rw [f_X12_isDoor_18] at h
  refine dr_iconst (0 : Int32) dX12_isDoor_18 (by decide) ?_
  exact c_X12_isDoor_19 (0 : Int32) μ h
set_option maxRecDepth 100000 in
theorem c_X12_isDoor {r : Int32} {F : dtM} (p0 : Nat) (p1 : Int32) (μ : dtM) (h : f_X12_isDoor p0 p1 μ = some (r, F)) : dtMet yX12_isDoor cX12_isDoor 2 (some .boolean) 1 [.ref p0, .int p1] μ (some (.int r)) F := by
  refine dtMet.of (by decide +kernel) (Nat.le_of_ble_eq_true rfl) (show dtW yX12_isDoor cX12_isDoor 2 (some .boolean) 1 (some (.int r)) F 0 [some (.ref p0), some (.int p1)] [] μ from ?_)
  rw [f_X12_isDoor] at h
  refine dr_iload_n p1 dX12_isDoor_0 rfl ?_
  obtain ⟨ht2, hf3⟩ := dtIte h
  refine dr_if_lt 18 dX12_isDoor_1 (by decide) (fun hc1 => ?_) (fun hc1 => ?_)
  · have h := ht2 hc1
    refine dr_mask [] [] rfl ?_
    exact c_X12_isDoor_18 μ h
  · have h := hf3 hc1
    refine dr_iload_n p1 dX12_isDoor_4 rfl ?_
    refine dr_aload_n p0 dX12_isDoor_5 rfl ?_
    obtain ⟨x4, e5, h⟩ := dtBind h
    refine dr_getR x4 dX12_isDoor_6 fl_RX12_7 e5 ?_
    refine dr_iconst (1 : Int32) dX12_isDoor_9 (by decide) ?_
    obtain ⟨x6, e7, h⟩ := dtBind h
    refine dr_iaload x6 dX12_isDoor_10 e7 ?_
    obtain ⟨ht9, hf10⟩ := dtIte h
    refine dr_icmp_ge 18 dX12_isDoor_11 (by decide) (fun hc8 => ?_) (fun hc8 => ?_)
    · have h := ht9 hc8
      refine dr_mask [] [] rfl ?_
      exact c_X12_isDoor_18 μ h
    · have h := hf10 hc8
      refine dr_iconst (1 : Int32) dX12_isDoor_14 (by decide) ?_
      refine dr_goto 19 dX12_isDoor_15 (by decide) ?_
      refine dr_mask [] [] rfl ?_
      exact c_X12_isDoor_19 (1 : Int32) μ h
/-! X12_isWord -/
theorem dX12_isWord_0 : decode cX12_isWord 0 = .ok (.iload_n 1, 1) := by decide +kernel
theorem dX12_isWord_1 : decode cX12_isWord 1 = .ok (.ifCond .lt 17, 3) := by decide +kernel
theorem dX12_isWord_4 : decode cX12_isWord 4 = .ok (.iload_n 1, 1) := by decide +kernel
theorem dX12_isWord_5 : decode cX12_isWord 5 = .ok (.aload_n 0, 1) := by decide +kernel
theorem dX12_isWord_6 : decode cX12_isWord 6 = .ok (.getfield 7, 3) := by decide +kernel
theorem dX12_isWord_9 : decode cX12_isWord 9 = .ok (.iconst 2, 1) := by decide +kernel
theorem dX12_isWord_10 : decode cX12_isWord 10 = .ok (.iaload, 1) := by decide +kernel
theorem dX12_isWord_11 : decode cX12_isWord 11 = .ok (.if_icmp .ge 7, 3) := by decide +kernel
theorem dX12_isWord_14 : decode cX12_isWord 14 = .ok (.iconst 1, 1) := by decide +kernel
theorem dX12_isWord_15 : decode cX12_isWord 15 = .ok (.goto 4, 3) := by decide +kernel
theorem dX12_isWord_18 : decode cX12_isWord 18 = .ok (.iconst 0, 1) := by decide +kernel
theorem dX12_isWord_19 : decode cX12_isWord 19 = .ok (.ireturn, 1) := by decide +kernel
set_option maxRecDepth 100000 in
def f_X12_isWord_19 (s0 : Int32) (μ : dtM) : Option (Int32 × dtM) :=
  opRet s0 μ
set_option maxRecDepth 100000 in
def f_X12_isWord_18  (μ : dtM) : Option (Int32 × dtM) :=
  f_X12_isWord_19 (0 : Int32) μ
set_option maxRecDepth 100000 in
def f_X12_isWord (p0 : Nat) (p1 : Int32) (μ : dtM) : Option (Int32 × dtM) :=
  if p1 < 0 then (f_X12_isWord_18 μ) else ((opGR 12 0 μ p0).bind fun x4 => (opLI 1 μ x4 (2 : Int32)).bind fun x6 => if x6 ≤ p1 then (f_X12_isWord_18 μ) else (f_X12_isWord_19 (1 : Int32) μ))
set_option maxRecDepth 100000 in
theorem c_X12_isWord_19 {r : Int32} {F : dtM} (s0 : Int32) (μ : dtM) (h : f_X12_isWord_19 s0 μ = some (r, F)) : dtW yX12_isWord cX12_isWord 2 (some .boolean) 1 (some (.int r)) F 19 [] [.int s0] μ := by
  rw [f_X12_isWord_19] at h
  obtain ⟨hz, rfl, rfl⟩ := dtRet h
  exact dr_ireturn dX12_isWord_19 (dtNz hz)
set_option maxRecDepth 100000 in
theorem c_X12_isWord_18 {r : Int32} {F : dtM}  (μ : dtM) (h : f_X12_isWord_18  μ = some (r, F)) : dtW yX12_isWord cX12_isWord 2 (some .boolean) 1 (some (.int r)) F 18 [] [] μ := by
  rw [f_X12_isWord_18] at h
  refine dr_iconst (0 : Int32) dX12_isWord_18 (by decide) ?_
  exact c_X12_isWord_19 (0 : Int32) μ h
set_option maxRecDepth 100000 in
theorem c_X12_isWord {r : Int32} {F : dtM} (p0 : Nat) (p1 : Int32) (μ : dtM) (h : f_X12_isWord p0 p1 μ = some (r, F)) : dtMet yX12_isWord cX12_isWord 2 (some .boolean) 1 [.ref p0, .int p1] μ (some (.int r)) F := by
  refine dtMet.of (by decide +kernel) (Nat.le_of_ble_eq_true rfl) (show dtW yX12_isWord cX12_isWord 2 (some .boolean) 1 (some (.int r)) F 0 [some (.ref p0), some (.int p1)] [] μ from ?_)
  rw [f_X12_isWord] at h
  refine dr_iload_n p1 dX12_isWord_0 rfl ?_
  obtain ⟨ht2, hf3⟩ := dtIte h
  refine dr_if_lt 18 dX12_isWord_1 (by decide) (fun hc1 => ?_) (fun hc1 => ?_)
  · have h := ht2 hc1
    refine dr_mask [] [] rfl ?_
    exact c_X12_isWord_18 μ h
  · have h := hf3 hc1
    refine dr_iload_n p1 dX12_isWord_4 rfl ?_
    refine dr_aload_n p0 dX12_isWord_5 rfl ?_
    obtain ⟨x4, e5, h⟩ := dtBind h
    refine dr_getR x4 dX12_isWord_6 fl_RX12_7 e5 ?_
    refine dr_iconst (2 : Int32) dX12_isWord_9 (by decide) ?_
    obtain ⟨x6, e7, h⟩ := dtBind h
    refine dr_iaload x6 dX12_isWord_10 e7 ?_
    obtain ⟨ht9, hf10⟩ := dtIte h
    refine dr_icmp_ge 18 dX12_isWord_11 (by decide) (fun hc8 => ?_) (fun hc8 => ?_)
    · have h := ht9 hc8
      refine dr_mask [] [] rfl ?_
      exact c_X12_isWord_18 μ h
    · have h := hf10 hc8
      refine dr_iconst (1 : Int32) dX12_isWord_14 (by decide) ?_
      refine dr_goto 19 dX12_isWord_15 (by decide) ?_
      refine dr_mask [] [] rfl ?_
      exact c_X12_isWord_19 (1 : Int32) μ h
/-! X12_isPerson -/
theorem dX12_isPerson_0 : decode cX12_isPerson 0 = .ok (.iload_n 1, 1) := by decide +kernel
theorem dX12_isPerson_1 : decode cX12_isPerson 1 = .ok (.ifCond .lt 17, 3) := by decide +kernel
theorem dX12_isPerson_4 : decode cX12_isPerson 4 = .ok (.iload_n 1, 1) := by decide +kernel
theorem dX12_isPerson_5 : decode cX12_isPerson 5 = .ok (.aload_n 0, 1) := by decide +kernel
theorem dX12_isPerson_6 : decode cX12_isPerson 6 = .ok (.getfield 7, 3) := by decide +kernel
theorem dX12_isPerson_9 : decode cX12_isPerson 9 = .ok (.iconst 3, 1) := by decide +kernel
theorem dX12_isPerson_10 : decode cX12_isPerson 10 = .ok (.iaload, 1) := by decide +kernel
theorem dX12_isPerson_11 : decode cX12_isPerson 11 = .ok (.if_icmp .ge 7, 3) := by decide +kernel
theorem dX12_isPerson_14 : decode cX12_isPerson 14 = .ok (.iconst 1, 1) := by decide +kernel
theorem dX12_isPerson_15 : decode cX12_isPerson 15 = .ok (.goto 4, 3) := by decide +kernel
theorem dX12_isPerson_18 : decode cX12_isPerson 18 = .ok (.iconst 0, 1) := by decide +kernel
theorem dX12_isPerson_19 : decode cX12_isPerson 19 = .ok (.ireturn, 1) := by decide +kernel
set_option maxRecDepth 100000 in
def f_X12_isPerson_19 (s0 : Int32) (μ : dtM) : Option (Int32 × dtM) :=
  opRet s0 μ
set_option maxRecDepth 100000 in
def f_X12_isPerson_18  (μ : dtM) : Option (Int32 × dtM) :=
  f_X12_isPerson_19 (0 : Int32) μ
set_option maxRecDepth 100000 in
def f_X12_isPerson (p0 : Nat) (p1 : Int32) (μ : dtM) : Option (Int32 × dtM) :=
  if p1 < 0 then (f_X12_isPerson_18 μ) else ((opGR 12 0 μ p0).bind fun x4 => (opLI 1 μ x4 (3 : Int32)).bind fun x6 => if x6 ≤ p1 then (f_X12_isPerson_18 μ) else (f_X12_isPerson_19 (1 : Int32) μ))
set_option maxRecDepth 100000 in
theorem c_X12_isPerson_19 {r : Int32} {F : dtM} (s0 : Int32) (μ : dtM) (h : f_X12_isPerson_19 s0 μ = some (r, F)) : dtW yX12_isPerson cX12_isPerson 2 (some .boolean) 1 (some (.int r)) F 19 [] [.int s0] μ := by
  rw [f_X12_isPerson_19] at h
  obtain ⟨hz, rfl, rfl⟩ := dtRet h
  exact dr_ireturn dX12_isPerson_19 (dtNz hz)
set_option maxRecDepth 100000 in
theorem c_X12_isPerson_18 {r : Int32} {F : dtM}  (μ : dtM) (h : f_X12_isPerson_18  μ = some (r, F)) : dtW yX12_isPerson cX12_isPerson 2 (some .boolean) 1 (some (.int r)) F 18 [] [] μ := by
  rw [f_X12_isPerson_18] at h
  refine dr_iconst (0 : Int32) dX12_isPerson_18 (by decide) ?_
  exact c_X12_isPerson_19 (0 : Int32) μ h
set_option maxRecDepth 100000 in
theorem c_X12_isPerson {r : Int32} {F : dtM} (p0 : Nat) (p1 : Int32) (μ : dtM) (h : f_X12_isPerson p0 p1 μ = some (r, F)) : dtMet yX12_isPerson cX12_isPerson 2 (some .boolean) 1 [.ref p0, .int p1] μ (some (.int r)) F := by
  refine dtMet.of (by decide +kernel) (Nat.le_of_ble_eq_true rfl) (show dtW yX12_isPerson cX12_isPerson 2 (some .boolean) 1 (some (.int r)) F 0 [some (.ref p0), some (.int p1)] [] μ from ?_)
  rw [f_X12_isPerson] at h
  refine dr_iload_n p1 dX12_isPerson_0 rfl ?_
  obtain ⟨ht2, hf3⟩ := dtIte h
  refine dr_if_lt 18 dX12_isPerson_1 (by decide) (fun hc1 => ?_) (fun hc1 => ?_)
  · have h := ht2 hc1
    refine dr_mask [] [] rfl ?_
    exact c_X12_isPerson_18 μ h
  · have h := hf3 hc1
    refine dr_iload_n p1 dX12_isPerson_4 rfl ?_
    refine dr_aload_n p0 dX12_isPerson_5 rfl ?_
    obtain ⟨x4, e5, h⟩ := dtBind h
    refine dr_getR x4 dX12_isPerson_6 fl_RX12_7 e5 ?_
    refine dr_iconst (3 : Int32) dX12_isPerson_9 (by decide) ?_
    obtain ⟨x6, e7, h⟩ := dtBind h
    refine dr_iaload x6 dX12_isPerson_10 e7 ?_
    obtain ⟨ht9, hf10⟩ := dtIte h
    refine dr_icmp_ge 18 dX12_isPerson_11 (by decide) (fun hc8 => ?_) (fun hc8 => ?_)
    · have h := ht9 hc8
      refine dr_mask [] [] rfl ?_
      exact c_X12_isPerson_18 μ h
    · have h := hf10 hc8
      refine dr_iconst (1 : Int32) dX12_isPerson_14 (by decide) ?_
      refine dr_goto 19 dX12_isPerson_15 (by decide) ?_
      refine dr_mask [] [] rfl ?_
      exact c_X12_isPerson_19 (1 : Int32) μ h
/-! X12_isNoise -/
theorem dX12_isNoise_0 : decode cX12_isNoise 0 = .ok (.iload_n 0, 1) := by decide +kernel
theorem dX12_isNoise_1 : decode cX12_isNoise 1 = .ok (.ifCond .lt 12, 3) := by decide +kernel
theorem dX12_isNoise_4 : decode cX12_isNoise 4 = .ok (.iload_n 0, 1) := by decide +kernel
theorem dX12_isNoise_5 : decode cX12_isNoise 5 = .ok (.iconst 4, 1) := by decide +kernel
theorem dX12_isNoise_6 : decode cX12_isNoise 6 = .ok (.if_icmp .ge 7, 3) := by decide +kernel
theorem dX12_isNoise_9 : decode cX12_isNoise 9 = .ok (.iconst 1, 1) := by decide +kernel
theorem dX12_isNoise_10 : decode cX12_isNoise 10 = .ok (.goto 4, 3) := by decide +kernel
theorem dX12_isNoise_13 : decode cX12_isNoise 13 = .ok (.iconst 0, 1) := by decide +kernel
theorem dX12_isNoise_14 : decode cX12_isNoise 14 = .ok (.ireturn, 1) := by decide +kernel
set_option maxRecDepth 100000 in
def f_X12_isNoise_14 (s0 : Int32) (μ : dtM) : Option (Int32 × dtM) :=
  opRet s0 μ
set_option maxRecDepth 100000 in
def f_X12_isNoise_13  (μ : dtM) : Option (Int32 × dtM) :=
  f_X12_isNoise_14 (0 : Int32) μ
set_option maxRecDepth 100000 in
def f_X12_isNoise (p0 : Int32) (μ : dtM) : Option (Int32 × dtM) :=
  if p0 < 0 then (f_X12_isNoise_13 μ) else (if (4 : Int32) ≤ p0 then (f_X12_isNoise_13 μ) else (f_X12_isNoise_14 (1 : Int32) μ))
set_option maxRecDepth 100000 in
theorem c_X12_isNoise_14 {r : Int32} {F : dtM} (s0 : Int32) (μ : dtM) (h : f_X12_isNoise_14 s0 μ = some (r, F)) : dtW yX12_isNoise cX12_isNoise 1 (some .boolean) 1 (some (.int r)) F 14 [] [.int s0] μ := by
  rw [f_X12_isNoise_14] at h
  obtain ⟨hz, rfl, rfl⟩ := dtRet h
  exact dr_ireturn dX12_isNoise_14 (dtNz hz)
set_option maxRecDepth 100000 in
theorem c_X12_isNoise_13 {r : Int32} {F : dtM}  (μ : dtM) (h : f_X12_isNoise_13  μ = some (r, F)) : dtW yX12_isNoise cX12_isNoise 1 (some .boolean) 1 (some (.int r)) F 13 [] [] μ := by
  rw [f_X12_isNoise_13] at h
  refine dr_iconst (0 : Int32) dX12_isNoise_13 (by decide) ?_
  exact c_X12_isNoise_14 (0 : Int32) μ h
set_option maxRecDepth 100000 in
theorem c_X12_isNoise {r : Int32} {F : dtM} (p0 : Int32) (μ : dtM) (h : f_X12_isNoise p0 μ = some (r, F)) : dtMet yX12_isNoise cX12_isNoise 1 (some .boolean) 1 [.int p0] μ (some (.int r)) F := by
  refine dtMet.of (by decide +kernel) (Nat.le_of_ble_eq_true rfl) (show dtW yX12_isNoise cX12_isNoise 1 (some .boolean) 1 (some (.int r)) F 0 [some (.int p0)] [] μ from ?_)
  rw [f_X12_isNoise] at h
  refine dr_iload_n p0 dX12_isNoise_0 rfl ?_
  obtain ⟨ht2, hf3⟩ := dtIte h
  refine dr_if_lt 13 dX12_isNoise_1 (by decide) (fun hc1 => ?_) (fun hc1 => ?_)
  · have h := ht2 hc1
    refine dr_mask [] [] rfl ?_
    exact c_X12_isNoise_13 μ h
  · have h := hf3 hc1
    refine dr_iload_n p0 dX12_isNoise_4 rfl ?_
    refine dr_iconst (4 : Int32) dX12_isNoise_5 (by decide) ?_
    obtain ⟨ht5, hf6⟩ := dtIte h
    refine dr_icmp_ge 13 dX12_isNoise_6 (by decide) (fun hc4 => ?_) (fun hc4 => ?_)
    · have h := ht5 hc4
      refine dr_mask [] [] rfl ?_
      exact c_X12_isNoise_13 μ h
    · have h := hf6 hc4
      refine dr_iconst (1 : Int32) dX12_isNoise_9 (by decide) ?_
      refine dr_goto 14 dX12_isNoise_10 (by decide) ?_
      refine dr_mask [] [] rfl ?_
      exact c_X12_isNoise_14 (1 : Int32) μ h
/-! X12_bits -/
theorem dX12_bits_0 : decode cX12_bits 0 = .ok (.iconst 0, 1) := by decide +kernel
theorem dX12_bits_1 : decode cX12_bits 1 = .ok (.istore_n 1, 1) := by decide +kernel
theorem dX12_bits_2 : decode cX12_bits 2 = .ok (.iload_n 0, 1) := by decide +kernel
theorem dX12_bits_3 : decode cX12_bits 3 = .ok (.istore_n 2, 1) := by decide +kernel
theorem dX12_bits_4 : decode cX12_bits 4 = .ok (.iload_n 2, 1) := by decide +kernel
theorem dX12_bits_5 : decode cX12_bits 5 = .ok (.ifCond .eq 15, 3) := by decide +kernel
theorem dX12_bits_8 : decode cX12_bits 8 = .ok (.iinc 1 1, 3) := by decide +kernel
theorem dX12_bits_11 : decode cX12_bits 11 = .ok (.iload_n 2, 1) := by decide +kernel
theorem dX12_bits_12 : decode cX12_bits 12 = .ok (.iload_n 2, 1) := by decide +kernel
theorem dX12_bits_13 : decode cX12_bits 13 = .ok (.iconst 1, 1) := by decide +kernel
theorem dX12_bits_14 : decode cX12_bits 14 = .ok (.isub, 1) := by decide +kernel
theorem dX12_bits_15 : decode cX12_bits 15 = .ok (.iand, 1) := by decide +kernel
theorem dX12_bits_16 : decode cX12_bits 16 = .ok (.istore_n 2, 1) := by decide +kernel
theorem dX12_bits_17 : decode cX12_bits 17 = .ok (.goto (-13), 3) := by decide +kernel
theorem dX12_bits_20 : decode cX12_bits 20 = .ok (.iload_n 1, 1) := by decide +kernel
theorem dX12_bits_21 : decode cX12_bits 21 = .ok (.ireturn, 1) := by decide +kernel
set_option maxRecDepth 100000 in
def f_X12_bits_4 : Nat → Int32 → Int32 → dtM → Option (Int32 × dtM)
  | 0, _, _, _ => none
  | n + 1, l1, l2, μ =>
    if l2 = 0 then (some (l1, μ)) else ((some (l2 &&& (l2 - (1 : Int32)))).bind fun x4 => f_X12_bits_4 n (l1 + 1) x4 μ)
set_option maxRecDepth 100000 in
def f_X12_bits (p0 : Int32) (μ : dtM) : Option (Int32 × dtM) :=
  f_X12_bits_4 dtFuel (0 : Int32) p0 μ
set_option maxRecDepth 100000 in
theorem c_X12_bits_4 {r : Int32} {F : dtM} : ∀ (n : Nat) (l1 : Int32) (l2 : Int32) (μ : dtM), f_X12_bits_4 n l1 l2 μ = some (r, F) → dtW yX12_bits cX12_bits 3 (some .int) 1 (some (.int r)) F 4 [none, some (.int l1), some (.int l2)] [] μ := by
  intro n
  induction n with
  | zero => intro l1 l2 μ h; cases h
  | succ n ih =>
    intro l1 l2 μ h
    have h := (show f_X12_bits_4 (n + 1) l1 l2 μ = some _ from h)
    rw [f_X12_bits_4] at h
    refine dr_iload_n l2 dX12_bits_4 rfl ?_
    obtain ⟨ht2, hf3⟩ := dtIte h
    refine dr_if_eq 20 dX12_bits_5 (by decide) (fun hc1 => ?_) (fun hc1 => ?_)
    · have h := ht2 hc1
      refine dr_iload_n l1 dX12_bits_20 rfl ?_
      cases h
      exact dr_ireturn dX12_bits_21 rfl
    · have h := hf3 hc1
      refine dr_iinc l1 (l1 + 1) [none, some (.int (l1 + 1)), some (.int l2)] dX12_bits_8 rfl rfl rfl rfl rfl ?_
      refine dr_iload_n l2 dX12_bits_11 rfl ?_
      refine dr_iload_n l2 dX12_bits_12 rfl ?_
      refine dr_iconst (1 : Int32) dX12_bits_13 (by decide) ?_
      refine dr_isub dX12_bits_14 ?_
      refine dr_iand dX12_bits_15 ?_
      obtain ⟨x4, e5, h⟩ := dtBind h
      refine dr_nmi e5 ?_
      refine dr_istore_n 2 [none, some (.int (l1 + 1)), some (.int x4)] dX12_bits_16 rfl rfl rfl rfl ?_
      refine dr_goto 4 dX12_bits_17 (by decide) ?_
      exact ih (l1 + 1) x4 μ h
set_option maxRecDepth 100000 in
theorem c_X12_bits {r : Int32} {F : dtM} (p0 : Int32) (μ : dtM) (h : f_X12_bits p0 μ = some (r, F)) : dtMet yX12_bits cX12_bits 3 (some .int) 1 [.int p0] μ (some (.int r)) F := by
  refine dtMet.of (by decide +kernel) (Nat.le_of_ble_eq_true rfl) (show dtW yX12_bits cX12_bits 3 (some .int) 1 (some (.int r)) F 0 [some (.int p0)] [] μ from ?_)
  rw [f_X12_bits] at h
  refine dr_iconst (0 : Int32) dX12_bits_0 (by decide) ?_
  refine dr_istore_n 1 [some (.int p0), some (.int (0 : Int32))] dX12_bits_1 rfl rfl rfl rfl ?_
  refine dr_iload_n p0 dX12_bits_2 rfl ?_
  refine dr_istore_n 2 [some (.int p0), some (.int (0 : Int32)), some (.int p0)] dX12_bits_3 rfl rfl rfl rfl ?_
  refine dr_mask [false, true, true] [none, some (.int (0 : Int32)), some (.int p0)] rfl ?_
  exact c_X12_bits_4 dtFuel (0 : Int32) p0 μ h
/-! X12_doorOf -/
theorem dX12_doorOf_0 : decode cX12_doorOf 0 = .ok (.aload_n 0, 1) := by decide +kernel
theorem dX12_doorOf_1 : decode cX12_doorOf 1 = .ok (.getfield 7, 3) := by decide +kernel
theorem dX12_doorOf_4 : decode cX12_doorOf 4 = .ok (.iload_n 1, 1) := by decide +kernel
theorem dX12_doorOf_5 : decode cX12_doorOf 5 = .ok (.invokestatic 210, 3) := by decide +kernel
theorem dX12_doorOf_8 : decode cX12_doorOf 8 = .ok (.iload_n 2, 1) := by decide +kernel
theorem dX12_doorOf_9 : decode cX12_doorOf 9 = .ok (.iadd, 1) := by decide +kernel
theorem dX12_doorOf_10 : decode cX12_doorOf 10 = .ok (.iaload, 1) := by decide +kernel
theorem dX12_doorOf_11 : decode cX12_doorOf 11 = .ok (.ireturn, 1) := by decide +kernel
set_option maxRecDepth 100000 in
def f_X12_doorOf (p0 : Nat) (p1 : Int32) (p2 : Int32) (μ : dtM) : Option (Int32 × dtM) :=
  (opGR 12 0 μ p0).bind fun x1 => opCall (f_X12_doorRow p1 μ) fun x5 μ3 => (opLI 1 μ3 x1 (x5 + p2)).bind fun x6 => some (x6, μ3)
set_option maxRecDepth 100000 in
theorem c_X12_doorOf {r : Int32} {F : dtM} (p0 : Nat) (p1 : Int32) (p2 : Int32) (μ : dtM) (h : f_X12_doorOf p0 p1 p2 μ = some (r, F)) : dtMet yX12_doorOf cX12_doorOf 3 (some .int) 2 [.ref p0, .int p1, .int p2] μ (some (.int r)) F := by
  refine dtMet.of (by decide +kernel) (Nat.le_of_ble_eq_true rfl) (show dtW yX12_doorOf cX12_doorOf 3 (some .int) 2 (some (.int r)) F 0 [some (.ref p0), some (.int p1), some (.int p2)] [] μ from ?_)
  rw [f_X12_doorOf] at h
  refine dr_aload_n p0 dX12_doorOf_0 rfl ?_
  obtain ⟨x1, e2, h⟩ := dtBind h
  refine dr_getR x1 dX12_doorOf_1 fl_RX12_7 e2 ?_
  refine dr_iload_n p1 dX12_doorOf_4 rfl ?_
  obtain ⟨x5, μ3, e4, h⟩ := dtCall h
  refine dr_callS_i (S0 := [.ref x1]) [.int p1] x5 μ3 dX12_doorOf_5 (c_X12_doorRow p1 μ e4) mf_X12_doorRow wt_1606 wt_1605 rfl (Nat.le_of_ble_eq_true rfl) (Nat.le_of_ble_eq_true rfl) rfl ?_
  refine dr_iload_n p2 dX12_doorOf_8 rfl ?_
  refine dr_iadd dX12_doorOf_9 ?_
  obtain ⟨x6, e7, h⟩ := dtBind h
  refine dr_iaload x6 dX12_doorOf_10 e7 ?_
  cases h
  exact dr_ireturn dX12_doorOf_11 rfl
/-! X12_personOf -/
theorem dX12_personOf_0 : decode cX12_personOf 0 = .ok (.aload_n 0, 1) := by decide +kernel
theorem dX12_personOf_1 : decode cX12_personOf 1 = .ok (.getfield 7, 3) := by decide +kernel
theorem dX12_personOf_4 : decode cX12_personOf 4 = .ok (.iload_n 1, 1) := by decide +kernel
theorem dX12_personOf_5 : decode cX12_personOf 5 = .ok (.invokestatic 238, 3) := by decide +kernel
theorem dX12_personOf_8 : decode cX12_personOf 8 = .ok (.iload_n 2, 1) := by decide +kernel
theorem dX12_personOf_9 : decode cX12_personOf 9 = .ok (.iadd, 1) := by decide +kernel
theorem dX12_personOf_10 : decode cX12_personOf 10 = .ok (.iaload, 1) := by decide +kernel
theorem dX12_personOf_11 : decode cX12_personOf 11 = .ok (.ireturn, 1) := by decide +kernel
set_option maxRecDepth 100000 in
def f_X12_personOf (p0 : Nat) (p1 : Int32) (p2 : Int32) (μ : dtM) : Option (Int32 × dtM) :=
  (opGR 12 0 μ p0).bind fun x1 => opCall (f_X12_personRow p1 μ) fun x5 μ3 => (opLI 1 μ3 x1 (x5 + p2)).bind fun x6 => some (x6, μ3)
set_option maxRecDepth 100000 in
theorem c_X12_personOf {r : Int32} {F : dtM} (p0 : Nat) (p1 : Int32) (p2 : Int32) (μ : dtM) (h : f_X12_personOf p0 p1 p2 μ = some (r, F)) : dtMet yX12_personOf cX12_personOf 3 (some .int) 2 [.ref p0, .int p1, .int p2] μ (some (.int r)) F := by
  refine dtMet.of (by decide +kernel) (Nat.le_of_ble_eq_true rfl) (show dtW yX12_personOf cX12_personOf 3 (some .int) 2 (some (.int r)) F 0 [some (.ref p0), some (.int p1), some (.int p2)] [] μ from ?_)
  rw [f_X12_personOf] at h
  refine dr_aload_n p0 dX12_personOf_0 rfl ?_
  obtain ⟨x1, e2, h⟩ := dtBind h
  refine dr_getR x1 dX12_personOf_1 fl_RX12_7 e2 ?_
  refine dr_iload_n p1 dX12_personOf_4 rfl ?_
  obtain ⟨x5, μ3, e4, h⟩ := dtCall h
  refine dr_callS_i (S0 := [.ref x1]) [.int p1] x5 μ3 dX12_personOf_5 (c_X12_personRow p1 μ e4) mf_X12_personRow wt_1652 wt_1651 rfl (Nat.le_of_ble_eq_true rfl) (Nat.le_of_ble_eq_true rfl) rfl ?_
  refine dr_iload_n p2 dX12_personOf_8 rfl ?_
  refine dr_iadd dX12_personOf_9 ?_
  obtain ⟨x6, e7, h⟩ := dtBind h
  refine dr_iaload x6 dX12_personOf_10 e7 ?_
  cases h
  exact dr_ireturn dX12_personOf_11 rfl
/-! X12_isOpen -/
theorem dX12_isOpen_0 : decode cX12_isOpen 0 = .ok (.aload_n 0, 1) := by decide +kernel
theorem dX12_isOpen_1 : decode cX12_isOpen 1 = .ok (.aload_n 0, 1) := by decide +kernel
theorem dX12_isOpen_2 : decode cX12_isOpen 2 = .ok (.getfield 7, 3) := by decide +kernel
theorem dX12_isOpen_5 : decode cX12_isOpen 5 = .ok (.iconst 5, 1) := by decide +kernel
theorem dX12_isOpen_6 : decode cX12_isOpen 6 = .ok (.iaload, 1) := by decide +kernel
theorem dX12_isOpen_7 : decode cX12_isOpen 7 = .ok (.iload_n 1, 1) := by decide +kernel
theorem dX12_isOpen_8 : decode cX12_isOpen 8 = .ok (.invokevirtual 241, 3) := by decide +kernel
theorem dX12_isOpen_11 : decode cX12_isOpen 11 = .ok (.ireturn, 1) := by decide +kernel
set_option maxRecDepth 100000 in
def f_X12_isOpen (p0 : Nat) (p1 : Int32) (μ : dtM) : Option (Int32 × dtM) :=
  (opGR 12 0 μ p0).bind fun x1 => (opLI 1 μ x1 (5 : Int32)).bind fun x3 => (opRv 12 μ p0).bind fun _ => opCall (f_X12_isIn p0 x3 p1 μ) fun x8 μ6 => opRet x8 μ6
set_option maxRecDepth 100000 in
theorem c_X12_isOpen {r : Int32} {F : dtM} (p0 : Nat) (p1 : Int32) (μ : dtM) (h : f_X12_isOpen p0 p1 μ = some (r, F)) : dtMet yX12_isOpen cX12_isOpen 2 (some .boolean) 2 [.ref p0, .int p1] μ (some (.int r)) F := by
  refine dtMet.of (by decide +kernel) (Nat.le_of_ble_eq_true rfl) (show dtW yX12_isOpen cX12_isOpen 2 (some .boolean) 2 (some (.int r)) F 0 [some (.ref p0), some (.int p1)] [] μ from ?_)
  rw [f_X12_isOpen] at h
  refine dr_aload_n p0 dX12_isOpen_0 rfl ?_
  refine dr_aload_n p0 dX12_isOpen_1 rfl ?_
  obtain ⟨x1, e2, h⟩ := dtBind h
  refine dr_getR x1 dX12_isOpen_2 fl_RX12_7 e2 ?_
  refine dr_iconst (5 : Int32) dX12_isOpen_5 (by decide) ?_
  obtain ⟨x3, e4, h⟩ := dtBind h
  refine dr_iaload x3 dX12_isOpen_6 e4 ?_
  refine dr_iload_n p1 dX12_isOpen_7 rfl ?_
  obtain ⟨_, hb5, h⟩ := dtBind h
  obtain ⟨x8, μ6, e7, h⟩ := dtCall h
  refine dr_callV_i (S0 := []) [.int x3, .int p1] x8 μ6 dX12_isOpen_8 (c_X12_isIn p0 x3 p1 μ e7) mf_X12_isIn wt_1656 ws_82 wt_1654 rfl (dtRv hb5) (by decide) rfl (Nat.le_of_ble_eq_true rfl) (Nat.le_of_ble_eq_true rfl) rfl ?_
  obtain ⟨hz, rfl, rfl⟩ := dtRet h
  exact dr_ireturn dX12_isOpen_11 (dtNz hz)
/-! X12_isBy -/
theorem dX12_isBy_0 : decode cX12_isBy 0 = .ok (.aload_n 0, 1) := by decide +kernel
theorem dX12_isBy_1 : decode cX12_isBy 1 = .ok (.iload_n 1, 1) := by decide +kernel
theorem dX12_isBy_2 : decode cX12_isBy 2 = .ok (.iconst 0, 1) := by decide +kernel
theorem dX12_isBy_3 : decode cX12_isBy 3 = .ok (.invokevirtual 295, 3) := by decide +kernel
theorem dX12_isBy_6 : decode cX12_isBy 6 = .ok (.aload_n 0, 1) := by decide +kernel
theorem dX12_isBy_7 : decode cX12_isBy 7 = .ok (.iload_n 2, 1) := by decide +kernel
theorem dX12_isBy_8 : decode cX12_isBy 8 = .ok (.iconst 0, 1) := by decide +kernel
theorem dX12_isBy_9 : decode cX12_isBy 9 = .ok (.invokevirtual 298, 3) := by decide +kernel
theorem dX12_isBy_12 : decode cX12_isBy 12 = .ok (.if_icmp .eq 18, 3) := by decide +kernel
theorem dX12_isBy_15 : decode cX12_isBy 15 = .ok (.aload_n 0, 1) := by decide +kernel
theorem dX12_isBy_16 : decode cX12_isBy 16 = .ok (.iload_n 1, 1) := by decide +kernel
theorem dX12_isBy_17 : decode cX12_isBy 17 = .ok (.iconst 0, 1) := by decide +kernel
theorem dX12_isBy_18 : decode cX12_isBy 18 = .ok (.invokevirtual 295, 3) := by decide +kernel
theorem dX12_isBy_21 : decode cX12_isBy 21 = .ok (.aload_n 0, 1) := by decide +kernel
theorem dX12_isBy_22 : decode cX12_isBy 22 = .ok (.iload_n 2, 1) := by decide +kernel
theorem dX12_isBy_23 : decode cX12_isBy 23 = .ok (.iconst 1, 1) := by decide +kernel
theorem dX12_isBy_24 : decode cX12_isBy 24 = .ok (.invokevirtual 298, 3) := by decide +kernel
theorem dX12_isBy_27 : decode cX12_isBy 27 = .ok (.if_icmp .ne 7, 3) := by decide +kernel
theorem dX12_isBy_30 : decode cX12_isBy 30 = .ok (.iconst 1, 1) := by decide +kernel
theorem dX12_isBy_31 : decode cX12_isBy 31 = .ok (.goto 4, 3) := by decide +kernel
theorem dX12_isBy_34 : decode cX12_isBy 34 = .ok (.iconst 0, 1) := by decide +kernel
theorem dX12_isBy_35 : decode cX12_isBy 35 = .ok (.ireturn, 1) := by decide +kernel
set_option maxRecDepth 100000 in
def f_X12_isBy_35 (s0 : Int32) (μ : dtM) : Option (Int32 × dtM) :=
  opRet s0 μ
set_option maxRecDepth 100000 in
def f_X12_isBy_30  (μ : dtM) : Option (Int32 × dtM) :=
  f_X12_isBy_35 (1 : Int32) μ
set_option maxRecDepth 100000 in
def f_X12_isBy (p0 : Nat) (p1 : Int32) (p2 : Int32) (μ : dtM) : Option (Int32 × dtM) :=
  (opRv 12 μ p0).bind fun _ => opCall (f_X12_personOf p0 p1 (0 : Int32) μ) fun x4 μ2 => (opRv 12 μ2 p0).bind fun _ => opCall (f_X12_doorOf p0 p2 (0 : Int32) μ2) fun x8 μ6 => if x4 = x8 then (f_X12_isBy_30 μ6) else ((opRv 12 μ6 p0).bind fun _ => opCall (f_X12_personOf p0 p1 (0 : Int32) μ6) fun x15 μ13 => (opRv 12 μ13 p0).bind fun _ => opCall (f_X12_doorOf p0 p2 (1 : Int32) μ13) fun x19 μ17 => if x15 = x19 then (f_X12_isBy_30 μ17) else (f_X12_isBy_35 (0 : Int32) μ17))
set_option maxRecDepth 100000 in
theorem c_X12_isBy_35 {r : Int32} {F : dtM} (s0 : Int32) (μ : dtM) (h : f_X12_isBy_35 s0 μ = some (r, F)) : dtW yX12_isBy cX12_isBy 3 (some .boolean) 3 (some (.int r)) F 35 [] [.int s0] μ := by
  rw [f_X12_isBy_35] at h
  obtain ⟨hz, rfl, rfl⟩ := dtRet h
  exact dr_ireturn dX12_isBy_35 (dtNz hz)
set_option maxRecDepth 100000 in
theorem c_X12_isBy_30 {r : Int32} {F : dtM}  (μ : dtM) (h : f_X12_isBy_30  μ = some (r, F)) : dtW yX12_isBy cX12_isBy 3 (some .boolean) 3 (some (.int r)) F 30 [] [] μ := by
  rw [f_X12_isBy_30] at h
  refine dr_iconst (1 : Int32) dX12_isBy_30 (by decide) ?_
  refine dr_goto 35 dX12_isBy_31 (by decide) ?_
  exact c_X12_isBy_35 (1 : Int32) μ h
set_option maxRecDepth 100000 in
theorem c_X12_isBy {r : Int32} {F : dtM} (p0 : Nat) (p1 : Int32) (p2 : Int32) (μ : dtM) (h : f_X12_isBy p0 p1 p2 μ = some (r, F)) : dtMet yX12_isBy cX12_isBy 3 (some .boolean) 3 [.ref p0, .int p1, .int p2] μ (some (.int r)) F := by
  refine dtMet.of (by decide +kernel) (Nat.le_of_ble_eq_true rfl) (show dtW yX12_isBy cX12_isBy 3 (some .boolean) 3 (some (.int r)) F 0 [some (.ref p0), some (.int p1), some (.int p2)] [] μ from ?_)
  rw [f_X12_isBy] at h
  refine dr_aload_n p0 dX12_isBy_0 rfl ?_
  refine dr_iload_n p1 dX12_isBy_1 rfl ?_
  refine dr_iconst (0 : Int32) dX12_isBy_2 (by decide) ?_
  obtain ⟨_, hb1, h⟩ := dtBind h
  obtain ⟨x4, μ2, e3, h⟩ := dtCall h
  refine dr_callV_i (S0 := []) [.int p1, .int (0 : Int32)] x4 μ2 dX12_isBy_3 (c_X12_personOf p0 p1 (0 : Int32) μ e3) mf_X12_personOf wt_1736 ws_96 wt_1734 rfl (dtRv hb1) (by decide) rfl (Nat.le_of_ble_eq_true rfl) (Nat.le_of_ble_eq_true rfl) rfl ?_
  refine dr_aload_n p0 dX12_isBy_6 rfl ?_
  refine dr_iload_n p2 dX12_isBy_7 rfl ?_
  refine dr_iconst (0 : Int32) dX12_isBy_8 (by decide) ?_
  obtain ⟨_, hb5, h⟩ := dtBind h
  obtain ⟨x8, μ6, e7, h⟩ := dtCall h
  refine dr_callV_i (S0 := [.int x4]) [.int p2, .int (0 : Int32)] x8 μ6 dX12_isBy_9 (c_X12_doorOf p0 p2 (0 : Int32) μ2 e7) mf_X12_doorOf wt_1712 ws_93 wt_1710 rfl (dtRv hb5) (by decide) rfl (Nat.le_of_ble_eq_true rfl) (Nat.le_of_ble_eq_true rfl) rfl ?_
  obtain ⟨ht10, hf11⟩ := dtIte h
  refine dr_icmp_eq 30 dX12_isBy_12 (by decide) (fun hc9 => ?_) (fun hc9 => ?_)
  · have h := ht10 hc9
    refine dr_mask [] [] rfl ?_
    exact c_X12_isBy_30 μ6 h
  · have h := hf11 hc9
    refine dr_aload_n p0 dX12_isBy_15 rfl ?_
    refine dr_iload_n p1 dX12_isBy_16 rfl ?_
    refine dr_iconst (0 : Int32) dX12_isBy_17 (by decide) ?_
    obtain ⟨_, hb12, h⟩ := dtBind h
    obtain ⟨x15, μ13, e14, h⟩ := dtCall h
    refine dr_callV_i (S0 := []) [.int p1, .int (0 : Int32)] x15 μ13 dX12_isBy_18 (c_X12_personOf p0 p1 (0 : Int32) μ6 e14) mf_X12_personOf wt_1736 ws_96 wt_1734 rfl (dtRv hb12) (by decide) rfl (Nat.le_of_ble_eq_true rfl) (Nat.le_of_ble_eq_true rfl) rfl ?_
    refine dr_aload_n p0 dX12_isBy_21 rfl ?_
    refine dr_iload_n p2 dX12_isBy_22 rfl ?_
    refine dr_iconst (1 : Int32) dX12_isBy_23 (by decide) ?_
    obtain ⟨_, hb16, h⟩ := dtBind h
    obtain ⟨x19, μ17, e18, h⟩ := dtCall h
    refine dr_callV_i (S0 := [.int x15]) [.int p2, .int (1 : Int32)] x19 μ17 dX12_isBy_24 (c_X12_doorOf p0 p2 (1 : Int32) μ13 e18) mf_X12_doorOf wt_1712 ws_93 wt_1710 rfl (dtRv hb16) (by decide) rfl (Nat.le_of_ble_eq_true rfl) (Nat.le_of_ble_eq_true rfl) rfl ?_
    obtain ⟨ht21, hf22⟩ := dtIte h
    refine dr_icmp_ne 34 dX12_isBy_27 (by decide) (fun hc20 => ?_) (fun hc20 => ?_)
    · have h := hf22 hc20
      refine dr_iconst (0 : Int32) dX12_isBy_34 (by decide) ?_
      refine dr_mask [] [] rfl ?_
      exact c_X12_isBy_35 (0 : Int32) μ17 h
    · have h := ht21 hc20
      refine dr_mask [] [] rfl ?_
      exact c_X12_isBy_30 μ17 h
/-! X12_told -/
theorem dX12_told_0 : decode cX12_told 0 = .ok (.iload_n 1, 1) := by decide +kernel
theorem dX12_told_1 : decode cX12_told 1 = .ok (.ifCond .lt 9, 3) := by decide +kernel
theorem dX12_told_4 : decode cX12_told 4 = .ok (.iload_n 1, 1) := by decide +kernel
theorem dX12_told_5 : decode cX12_told 5 = .ok (.bipush 6, 2) := by decide +kernel
theorem dX12_told_7 : decode cX12_told 7 = .ok (.if_icmp .le 9, 3) := by decide +kernel
theorem dX12_told_10 : decode cX12_told 10 = .ok (.aload_n 0, 1) := by decide +kernel
theorem dX12_told_11 : decode cX12_told 11 = .ok (.iconst 1, 1) := by decide +kernel
theorem dX12_told_12 : decode cX12_told 12 = .ok (.invokevirtual 93, 3) := by decide +kernel
theorem dX12_told_15 : decode cX12_told 15 = .ok (.ireturn, 1) := by decide +kernel
theorem dX12_told_16 : decode cX12_told 16 = .ok (.aload_n 0, 1) := by decide +kernel
theorem dX12_told_17 : decode cX12_told 17 = .ok (.aload_n 0, 1) := by decide +kernel
theorem dX12_told_18 : decode cX12_told 18 = .ok (.getfield 7, 3) := by decide +kernel
theorem dX12_told_21 : decode cX12_told 21 = .ok (.iload_n 1, 1) := by decide +kernel
theorem dX12_told_22 : decode cX12_told 22 = .ok (.iaload, 1) := by decide +kernel
theorem dX12_told_23 : decode cX12_told 23 = .ok (.invokevirtual 97, 3) := by decide +kernel
theorem dX12_told_26 : decode cX12_told 26 = .ok (.ireturn, 1) := by decide +kernel
set_option maxRecDepth 100000 in
def f_X12_told_10 (l0 : Nat) (μ : dtM) : Option (Int32 × dtM) :=
  (opRv 12 μ l0).bind fun _ => opCall (f_X12_refuse l0 (1 : Int32) μ) fun x4 μ2 => some (x4, μ2)
set_option maxRecDepth 100000 in
def f_X12_told (p0 : Nat) (p1 : Int32) (μ : dtM) : Option (Int32 × dtM) :=
  if p1 < 0 then (f_X12_told_10 p0 μ) else (if p1 ≤ (6 : Int32) then ((opGR 12 0 μ p0).bind fun x7 => (opLI 1 μ x7 p1).bind fun x9 => (opRv 12 μ p0).bind fun _ => opCall (f_X12_gives p0 x9 μ) fun x14 μ12 => some (x14, μ12)) else (f_X12_told_10 p0 μ))
set_option maxRecDepth 100000 in
theorem c_X12_told_10 {r : Int32} {F : dtM} (l0 : Nat) (μ : dtM) (h : f_X12_told_10 l0 μ = some (r, F)) : dtW yX12_told cX12_told 2 (some .int) 2 (some (.int r)) F 10 [some (.ref l0)] [] μ := by
  rw [f_X12_told_10] at h
  refine dr_aload_n l0 dX12_told_10 rfl ?_
  refine dr_iconst (1 : Int32) dX12_told_11 (by decide) ?_
  obtain ⟨_, hb1, h⟩ := dtBind h
  obtain ⟨x4, μ2, e3, h⟩ := dtCall h
  refine dr_callV_i (S0 := []) [.int (1 : Int32)] x4 μ2 dX12_told_12 (c_X12_refuse l0 (1 : Int32) μ e3) mf_X12_refuse wt_1552 ws_59 wt_1550 rfl (dtRv hb1) (by decide) rfl (Nat.le_of_ble_eq_true rfl) (Nat.le_of_ble_eq_true rfl) rfl ?_
  cases h
  exact dr_ireturn dX12_told_15 rfl
set_option maxRecDepth 100000 in
theorem c_X12_told {r : Int32} {F : dtM} (p0 : Nat) (p1 : Int32) (μ : dtM) (h : f_X12_told p0 p1 μ = some (r, F)) : dtMet yX12_told cX12_told 2 (some .int) 2 [.ref p0, .int p1] μ (some (.int r)) F := by
  refine dtMet.of (by decide +kernel) (Nat.le_of_ble_eq_true rfl) (show dtW yX12_told cX12_told 2 (some .int) 2 (some (.int r)) F 0 [some (.ref p0), some (.int p1)] [] μ from ?_)
  rw [f_X12_told] at h
  refine dr_iload_n p1 dX12_told_0 rfl ?_
  obtain ⟨ht2, hf3⟩ := dtIte h
  refine dr_if_lt 10 dX12_told_1 (by decide) (fun hc1 => ?_) (fun hc1 => ?_)
  · have h := ht2 hc1
    refine dr_mask [true] [some (.ref p0)] rfl ?_
    exact c_X12_told_10 p0 μ h
  · have h := hf3 hc1
    refine dr_iload_n p1 dX12_told_4 rfl ?_
    refine dr_bipush (6 : Int32) dX12_told_5 (by decide) ?_
    obtain ⟨ht5, hf6⟩ := dtIte h
    refine dr_icmp_le 16 dX12_told_7 (by decide) (fun hc4 => ?_) (fun hc4 => ?_)
    · have h := ht5 hc4
      refine dr_aload_n p0 dX12_told_16 rfl ?_
      refine dr_aload_n p0 dX12_told_17 rfl ?_
      obtain ⟨x7, e8, h⟩ := dtBind h
      refine dr_getR x7 dX12_told_18 fl_RX12_7 e8 ?_
      refine dr_iload_n p1 dX12_told_21 rfl ?_
      obtain ⟨x9, e10, h⟩ := dtBind h
      refine dr_iaload x9 dX12_told_22 e10 ?_
      obtain ⟨_, hb11, h⟩ := dtBind h
      obtain ⟨x14, μ12, e13, h⟩ := dtCall h
      refine dr_callV_i (S0 := []) [.int x9] x14 μ12 dX12_told_23 (c_X12_gives p0 x9 μ e13) mf_X12_gives wt_1668 ws_85 wt_1666 rfl (dtRv hb11) (by decide) rfl (Nat.le_of_ble_eq_true rfl) (Nat.le_of_ble_eq_true rfl) rfl ?_
      cases h
      exact dr_ireturn dX12_told_26 rfl
    · have h := hf6 hc4
      refine dr_mask [true] [some (.ref p0)] rfl ?_
      exact c_X12_told_10 p0 μ h
/-! X12_door -/
theorem dX12_door_0 : decode cX12_door 0 = .ok (.aload_n 0, 1) := by decide +kernel
theorem dX12_door_1 : decode cX12_door 1 = .ok (.iload_n 1, 1) := by decide +kernel
theorem dX12_door_2 : decode cX12_door 2 = .ok (.invokevirtual 301, 3) := by decide +kernel
theorem dX12_door_5 : decode cX12_door 5 = .ok (.ifCond .eq 12, 3) := by decide +kernel
theorem dX12_door_8 : decode cX12_door 8 = .ok (.iload_n 2, 1) := by decide +kernel
theorem dX12_door_9 : decode cX12_door 9 = .ok (.ifCond .lt 8, 3) := by decide +kernel
theorem dX12_door_12 : decode cX12_door 12 = .ok (.iload_n 2, 1) := by decide +kernel
theorem dX12_door_13 : decode cX12_door 13 = .ok (.iconst 3, 1) := by decide +kernel
theorem dX12_door_14 : decode cX12_door 14 = .ok (.if_icmp .le 9, 3) := by decide +kernel
theorem dX12_door_17 : decode cX12_door 17 = .ok (.aload_n 0, 1) := by decide +kernel
theorem dX12_door_18 : decode cX12_door 18 = .ok (.iconst 1, 1) := by decide +kernel
theorem dX12_door_19 : decode cX12_door 19 = .ok (.invokevirtual 93, 3) := by decide +kernel
theorem dX12_door_22 : decode cX12_door 22 = .ok (.ireturn, 1) := by decide +kernel
theorem dX12_door_23 : decode cX12_door 23 = .ok (.aload_n 0, 1) := by decide +kernel
theorem dX12_door_24 : decode cX12_door 24 = .ok (.iload_n 2, 1) := by decide +kernel
theorem dX12_door_25 : decode cX12_door 25 = .ok (.iconst 3, 1) := by decide +kernel
theorem dX12_door_26 : decode cX12_door 26 = .ok (.if_icmp .ne 16, 3) := by decide +kernel
theorem dX12_door_29 : decode cX12_door 29 = .ok (.aload_n 0, 1) := by decide +kernel
theorem dX12_door_30 : decode cX12_door 30 = .ok (.getfield 7, 3) := by decide +kernel
theorem dX12_door_33 : decode cX12_door 33 = .ok (.iconst 5, 1) := by decide +kernel
theorem dX12_door_34 : decode cX12_door 34 = .ok (.iaload, 1) := by decide +kernel
theorem dX12_door_35 : decode cX12_door 35 = .ok (.iload_n 1, 1) := by decide +kernel
theorem dX12_door_36 : decode cX12_door 36 = .ok (.ishr, 1) := by decide +kernel
theorem dX12_door_37 : decode cX12_door 37 = .ok (.iconst 1, 1) := by decide +kernel
theorem dX12_door_38 : decode cX12_door 38 = .ok (.iand, 1) := by decide +kernel
theorem dX12_door_39 : decode cX12_door 39 = .ok (.goto 9, 3) := by decide +kernel
theorem dX12_door_42 : decode cX12_door 42 = .ok (.aload_n 0, 1) := by decide +kernel
theorem dX12_door_43 : decode cX12_door 43 = .ok (.iload_n 1, 1) := by decide +kernel
theorem dX12_door_44 : decode cX12_door 44 = .ok (.iload_n 2, 1) := by decide +kernel
theorem dX12_door_45 : decode cX12_door 45 = .ok (.invokevirtual 298, 3) := by decide +kernel
theorem dX12_door_48 : decode cX12_door 48 = .ok (.invokevirtual 97, 3) := by decide +kernel
theorem dX12_door_51 : decode cX12_door 51 = .ok (.ireturn, 1) := by decide +kernel
set_option maxRecDepth 100000 in
def f_X12_door_17 (l0 : Nat) (μ : dtM) : Option (Int32 × dtM) :=
  (opRv 12 μ l0).bind fun _ => opCall (f_X12_refuse l0 (1 : Int32) μ) fun x4 μ2 => some (x4, μ2)
set_option maxRecDepth 100000 in
def f_X12_door_48 (s0 : Nat) (s1 : Int32) (μ : dtM) : Option (Int32 × dtM) :=
  (opRv 12 μ s0).bind fun _ => opCall (f_X12_gives s0 s1 μ) fun x4 μ2 => some (x4, μ2)
set_option maxRecDepth 100000 in
def f_X12_door (p0 : Nat) (p1 : Int32) (p2 : Int32) (μ : dtM) : Option (Int32 × dtM) :=
  (opRv 12 μ p0).bind fun _ => opCall (f_X12_isDoor p0 p1 μ) fun x4 μ2 => if x4 = 0 then (f_X12_door_17 p0 μ2) else (if p2 < 0 then (f_X12_door_17 p0 μ2) else (if p2 ≤ (3 : Int32) then (if p2 = (3 : Int32) then ((opGR 12 0 μ2 p0).bind fun x21 => (opLI 1 μ2 x21 (5 : Int32)).bind fun x23 => f_X12_door_48 p0 ((x23 >>> (p1 &&& 31)) &&& (1 : Int32)) μ2) else ((opRv 12 μ2 p0).bind fun _ => opCall (f_X12_doorOf p0 p1 p2 μ2) fun x20 μ18 => f_X12_door_48 p0 x20 μ18)) else (f_X12_door_17 p0 μ2)))
set_option maxRecDepth 100000 in
theorem c_X12_door_17 {r : Int32} {F : dtM} (l0 : Nat) (μ : dtM) (h : f_X12_door_17 l0 μ = some (r, F)) : dtW yX12_door cX12_door 3 (some .int) 3 (some (.int r)) F 17 [some (.ref l0)] [] μ := by
  rw [f_X12_door_17] at h
  refine dr_aload_n l0 dX12_door_17 rfl ?_
  refine dr_iconst (1 : Int32) dX12_door_18 (by decide) ?_
  obtain ⟨_, hb1, h⟩ := dtBind h
  obtain ⟨x4, μ2, e3, h⟩ := dtCall h
  refine dr_callV_i (S0 := []) [.int (1 : Int32)] x4 μ2 dX12_door_19 (c_X12_refuse l0 (1 : Int32) μ e3) mf_X12_refuse wt_1552 ws_59 wt_1550 rfl (dtRv hb1) (by decide) rfl (Nat.le_of_ble_eq_true rfl) (Nat.le_of_ble_eq_true rfl) rfl ?_
  cases h
  exact dr_ireturn dX12_door_22 rfl
set_option maxRecDepth 100000 in
theorem c_X12_door_48 {r : Int32} {F : dtM} (s0 : Nat) (s1 : Int32) (μ : dtM) (h : f_X12_door_48 s0 s1 μ = some (r, F)) : dtW yX12_door cX12_door 3 (some .int) 3 (some (.int r)) F 48 [] [.int s1, .ref s0] μ := by
  rw [f_X12_door_48] at h
  obtain ⟨_, hb1, h⟩ := dtBind h
  obtain ⟨x4, μ2, e3, h⟩ := dtCall h
  refine dr_callV_i (S0 := []) [.int s1] x4 μ2 dX12_door_48 (c_X12_gives s0 s1 μ e3) mf_X12_gives wt_1668 ws_85 wt_1666 rfl (dtRv hb1) (by decide) rfl (Nat.le_of_ble_eq_true rfl) (Nat.le_of_ble_eq_true rfl) rfl ?_
  cases h
  exact dr_ireturn dX12_door_51 rfl
set_option maxRecDepth 100000 in
theorem c_X12_door {r : Int32} {F : dtM} (p0 : Nat) (p1 : Int32) (p2 : Int32) (μ : dtM) (h : f_X12_door p0 p1 p2 μ = some (r, F)) : dtMet yX12_door cX12_door 3 (some .int) 3 [.ref p0, .int p1, .int p2] μ (some (.int r)) F := by
  refine dtMet.of (by decide +kernel) (Nat.le_of_ble_eq_true rfl) (show dtW yX12_door cX12_door 3 (some .int) 3 (some (.int r)) F 0 [some (.ref p0), some (.int p1), some (.int p2)] [] μ from ?_)
  rw [f_X12_door] at h
  refine dr_aload_n p0 dX12_door_0 rfl ?_
  refine dr_iload_n p1 dX12_door_1 rfl ?_
  obtain ⟨_, hb1, h⟩ := dtBind h
  obtain ⟨x4, μ2, e3, h⟩ := dtCall h
  refine dr_callV_i (S0 := []) [.int p1] x4 μ2 dX12_door_2 (c_X12_isDoor p0 p1 μ e3) mf_X12_isDoor wt_1708 ws_92 wt_1706 rfl (dtRv hb1) (by decide) rfl (Nat.le_of_ble_eq_true rfl) (Nat.le_of_ble_eq_true rfl) rfl ?_
  obtain ⟨ht6, hf7⟩ := dtIte h
  refine dr_if_eq 17 dX12_door_5 (by decide) (fun hc5 => ?_) (fun hc5 => ?_)
  · have h := ht6 hc5
    refine dr_mask [true] [some (.ref p0)] rfl ?_
    exact c_X12_door_17 p0 μ2 h
  · have h := hf7 hc5
    refine dr_iload_n p2 dX12_door_8 rfl ?_
    obtain ⟨ht9, hf10⟩ := dtIte h
    refine dr_if_lt 17 dX12_door_9 (by decide) (fun hc8 => ?_) (fun hc8 => ?_)
    · have h := ht9 hc8
      refine dr_mask [true] [some (.ref p0)] rfl ?_
      exact c_X12_door_17 p0 μ2 h
    · have h := hf10 hc8
      refine dr_iload_n p2 dX12_door_12 rfl ?_
      refine dr_iconst (3 : Int32) dX12_door_13 (by decide) ?_
      obtain ⟨ht12, hf13⟩ := dtIte h
      refine dr_icmp_le 23 dX12_door_14 (by decide) (fun hc11 => ?_) (fun hc11 => ?_)
      · have h := ht12 hc11
        refine dr_aload_n p0 dX12_door_23 rfl ?_
        refine dr_iload_n p2 dX12_door_24 rfl ?_
        refine dr_iconst (3 : Int32) dX12_door_25 (by decide) ?_
        obtain ⟨ht15, hf16⟩ := dtIte h
        refine dr_icmp_ne 42 dX12_door_26 (by decide) (fun hc14 => ?_) (fun hc14 => ?_)
        · have h := hf16 hc14
          refine dr_aload_n p0 dX12_door_42 rfl ?_
          refine dr_iload_n p1 dX12_door_43 rfl ?_
          refine dr_iload_n p2 dX12_door_44 rfl ?_
          obtain ⟨_, hb17, h⟩ := dtBind h
          obtain ⟨x20, μ18, e19, h⟩ := dtCall h
          refine dr_callV_i (S0 := [.ref p0]) [.int p1, .int p2] x20 μ18 dX12_door_45 (c_X12_doorOf p0 p1 p2 μ2 e19) mf_X12_doorOf wt_1712 ws_93 wt_1710 rfl (dtRv hb17) (by decide) rfl (Nat.le_of_ble_eq_true rfl) (Nat.le_of_ble_eq_true rfl) rfl ?_
          refine dr_mask [] [] rfl ?_
          exact c_X12_door_48 p0 x20 μ18 h
        · have h := ht15 hc14
          refine dr_aload_n p0 dX12_door_29 rfl ?_
          obtain ⟨x21, e22, h⟩ := dtBind h
          refine dr_getR x21 dX12_door_30 fl_RX12_7 e22 ?_
          refine dr_iconst (5 : Int32) dX12_door_33 (by decide) ?_
          obtain ⟨x23, e24, h⟩ := dtBind h
          refine dr_iaload x23 dX12_door_34 e24 ?_
          refine dr_iload_n p1 dX12_door_35 rfl ?_
          refine dr_ishr dX12_door_36 ?_
          refine dr_iconst (1 : Int32) dX12_door_37 (by decide) ?_
          refine dr_iand dX12_door_38 ?_
          refine dr_goto 48 dX12_door_39 (by decide) ?_
          refine dr_mask [] [] rfl ?_
          exact c_X12_door_48 p0 ((x23 >>> (p1 &&& 31)) &&& (1 : Int32)) μ2 h
      · have h := hf13 hc11
        refine dr_mask [true] [some (.ref p0)] rfl ?_
        exact c_X12_door_17 p0 μ2 h
