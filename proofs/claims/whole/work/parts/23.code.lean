/-! X12_playing -/
theorem dX12_playing_0 : decode cX12_playing 0 = .ok (.iload_n 2, 1) := by decide +kernel
theorem dX12_playing_1 : decode cX12_playing 1 = .ok (.ifCond .ne 15, 3) := by decide +kernel
theorem dX12_playing_4 : decode cX12_playing 4 = .ok (.aload_n 0, 1) := by decide +kernel
theorem dX12_playing_5 : decode cX12_playing 5 = .ok (.iload_n 1, 1) := by decide +kernel
theorem dX12_playing_6 : decode cX12_playing 6 = .ok (.aload_n 0, 1) := by decide +kernel
theorem dX12_playing_7 : decode cX12_playing 7 = .ok (.getfield 7, 3) := by decide +kernel
theorem dX12_playing_10 : decode cX12_playing 10 = .ok (.iconst 5, 1) := by decide +kernel
theorem dX12_playing_11 : decode cX12_playing 11 = .ok (.iaload, 1) := by decide +kernel
theorem dX12_playing_12 : decode cX12_playing 12 = .ok (.invokevirtual 422, 3) := by decide +kernel
theorem dX12_playing_15 : decode cX12_playing 15 = .ok (.ireturn, 1) := by decide +kernel
theorem dX12_playing_16 : decode cX12_playing 16 = .ok (.iconst 0, 1) := by decide +kernel
theorem dX12_playing_17 : decode cX12_playing 17 = .ok (.istore_n 3, 1) := by decide +kernel
theorem dX12_playing_18 : decode cX12_playing 18 = .ok (.aload_n 0, 1) := by decide +kernel
theorem dX12_playing_19 : decode cX12_playing 19 = .ok (.getfield 59, 3) := by decide +kernel
theorem dX12_playing_22 : decode cX12_playing 22 = .ok (.iconst 0, 1) := by decide +kernel
theorem dX12_playing_23 : decode cX12_playing 23 = .ok (.aload_n 0, 1) := by decide +kernel
theorem dX12_playing_24 : decode cX12_playing 24 = .ok (.getfield 7, 3) := by decide +kernel
theorem dX12_playing_27 : decode cX12_playing 27 = .ok (.iconst 5, 1) := by decide +kernel
theorem dX12_playing_28 : decode cX12_playing 28 = .ok (.iaload, 1) := by decide +kernel
theorem dX12_playing_29 : decode cX12_playing 29 = .ok (.iastore, 1) := by decide +kernel
theorem dX12_playing_30 : decode cX12_playing 30 = .ok (.aload_n 0, 1) := by decide +kernel
theorem dX12_playing_31 : decode cX12_playing 31 = .ok (.getfield 62, 3) := by decide +kernel
theorem dX12_playing_34 : decode cX12_playing 34 = .ok (.iconst 0, 1) := by decide +kernel
theorem dX12_playing_35 : decode cX12_playing 35 = .ok (.iconst (-1), 1) := by decide +kernel
theorem dX12_playing_36 : decode cX12_playing 36 = .ok (.iastore, 1) := by decide +kernel
theorem dX12_playing_37 : decode cX12_playing 37 = .ok (.aload_n 0, 1) := by decide +kernel
theorem dX12_playing_38 : decode cX12_playing 38 = .ok (.getfield 68, 3) := by decide +kernel
theorem dX12_playing_41 : decode cX12_playing 41 = .ok (.iconst 0, 1) := by decide +kernel
theorem dX12_playing_42 : decode cX12_playing 42 = .ok (.iconst (-1), 1) := by decide +kernel
theorem dX12_playing_43 : decode cX12_playing 43 = .ok (.iastore, 1) := by decide +kernel
theorem dX12_playing_44 : decode cX12_playing 44 = .ok (.aload_n 0, 1) := by decide +kernel
theorem dX12_playing_45 : decode cX12_playing 45 = .ok (.getfield 62, 3) := by decide +kernel
theorem dX12_playing_48 : decode cX12_playing 48 = .ok (.iload_n 3, 1) := by decide +kernel
theorem dX12_playing_49 : decode cX12_playing 49 = .ok (.dup2, 1) := by decide +kernel
theorem dX12_playing_50 : decode cX12_playing 50 = .ok (.iaload, 1) := by decide +kernel
theorem dX12_playing_51 : decode cX12_playing 51 = .ok (.iconst 1, 1) := by decide +kernel
theorem dX12_playing_52 : decode cX12_playing 52 = .ok (.iadd, 1) := by decide +kernel
theorem dX12_playing_53 : decode cX12_playing 53 = .ok (.iastore, 1) := by decide +kernel
theorem dX12_playing_54 : decode cX12_playing 54 = .ok (.aload_n 0, 1) := by decide +kernel
theorem dX12_playing_55 : decode cX12_playing 55 = .ok (.getfield 62, 3) := by decide +kernel
theorem dX12_playing_58 : decode cX12_playing 58 = .ok (.iload_n 3, 1) := by decide +kernel
theorem dX12_playing_59 : decode cX12_playing 59 = .ok (.iaload, 1) := by decide +kernel
theorem dX12_playing_60 : decode cX12_playing 60 = .ok (.istore 4, 2) := by decide +kernel
theorem dX12_playing_62 : decode cX12_playing 62 = .ok (.iload 4, 2) := by decide +kernel
theorem dX12_playing_64 : decode cX12_playing 64 = .ok (.aload_n 0, 1) := by decide +kernel
theorem dX12_playing_65 : decode cX12_playing 65 = .ok (.getfield 7, 3) := by decide +kernel
theorem dX12_playing_68 : decode cX12_playing 68 = .ok (.iconst 1, 1) := by decide +kernel
theorem dX12_playing_69 : decode cX12_playing 69 = .ok (.iaload, 1) := by decide +kernel
theorem dX12_playing_70 : decode cX12_playing 70 = .ok (.if_icmp .le 29, 3) := by decide +kernel
theorem dX12_playing_73 : decode cX12_playing 73 = .ok (.iload_n 3, 1) := by decide +kernel
theorem dX12_playing_74 : decode cX12_playing 74 = .ok (.ifCond .ne 6, 3) := by decide +kernel
theorem dX12_playing_77 : decode cX12_playing 77 = .ok (.goto 145, 3) := by decide +kernel
theorem dX12_playing_80 : decode cX12_playing 80 = .ok (.iinc 3 (-1), 3) := by decide +kernel
theorem dX12_playing_83 : decode cX12_playing 83 = .ok (.aload_n 0, 1) := by decide +kernel
theorem dX12_playing_84 : decode cX12_playing 84 = .ok (.iload_n 3, 1) := by decide +kernel
theorem dX12_playing_85 : decode cX12_playing 85 = .ok (.aload_n 0, 1) := by decide +kernel
theorem dX12_playing_86 : decode cX12_playing 86 = .ok (.getfield 65, 3) := by decide +kernel
theorem dX12_playing_89 : decode cX12_playing 89 = .ok (.iload_n 3, 1) := by decide +kernel
theorem dX12_playing_90 : decode cX12_playing 90 = .ok (.iconst 1, 1) := by decide +kernel
theorem dX12_playing_91 : decode cX12_playing 91 = .ok (.iadd, 1) := by decide +kernel
theorem dX12_playing_92 : decode cX12_playing 92 = .ok (.iaload, 1) := by decide +kernel
theorem dX12_playing_93 : decode cX12_playing 93 = .ok (.invokevirtual 425, 3) := by decide +kernel
theorem dX12_playing_96 : decode cX12_playing 96 = .ok (.goto (-52), 3) := by decide +kernel
theorem dX12_playing_99 : decode cX12_playing 99 = .ok (.iload 4, 2) := by decide +kernel
theorem dX12_playing_101 : decode cX12_playing 101 = .ok (.aload_n 0, 1) := by decide +kernel
theorem dX12_playing_102 : decode cX12_playing 102 = .ok (.getfield 7, 3) := by decide +kernel
theorem dX12_playing_105 : decode cX12_playing 105 = .ok (.iconst 1, 1) := by decide +kernel
theorem dX12_playing_106 : decode cX12_playing 106 = .ok (.iaload, 1) := by decide +kernel
theorem dX12_playing_107 : decode cX12_playing 107 = .ok (.if_icmp .ge 32, 3) := by decide +kernel
theorem dX12_playing_110 : decode cX12_playing 110 = .ok (.aload_n 0, 1) := by decide +kernel
theorem dX12_playing_111 : decode cX12_playing 111 = .ok (.aload_n 0, 1) := by decide +kernel
theorem dX12_playing_112 : decode cX12_playing 112 = .ok (.getfield 59, 3) := by decide +kernel
theorem dX12_playing_115 : decode cX12_playing 115 = .ok (.iload_n 3, 1) := by decide +kernel
theorem dX12_playing_116 : decode cX12_playing 116 = .ok (.iaload, 1) := by decide +kernel
theorem dX12_playing_117 : decode cX12_playing 117 = .ok (.iload 4, 2) := by decide +kernel
theorem dX12_playing_119 : decode cX12_playing 119 = .ok (.invokevirtual 241, 3) := by decide +kernel
theorem dX12_playing_122 : decode cX12_playing 122 = .ok (.iload_n 3, 1) := by decide +kernel
theorem dX12_playing_123 : decode cX12_playing 123 = .ok (.iconst 2, 1) := by decide +kernel
theorem dX12_playing_124 : decode cX12_playing 124 = .ok (.irem, 1) := by decide +kernel
theorem dX12_playing_125 : decode cX12_playing 125 = .ok (.ifCond .ne 7, 3) := by decide +kernel
theorem dX12_playing_128 : decode cX12_playing 128 = .ok (.iconst 1, 1) := by decide +kernel
theorem dX12_playing_129 : decode cX12_playing 129 = .ok (.goto 4, 3) := by decide +kernel
theorem dX12_playing_132 : decode cX12_playing 132 = .ok (.iconst 0, 1) := by decide +kernel
theorem dX12_playing_133 : decode cX12_playing 133 = .ok (.if_icmp .eq 6, 3) := by decide +kernel
theorem dX12_playing_136 : decode cX12_playing 136 = .ok (.goto (-92), 3) := by decide +kernel
theorem dX12_playing_139 : decode cX12_playing 139 = .ok (.iload 4, 2) := by decide +kernel
theorem dX12_playing_141 : decode cX12_playing 141 = .ok (.aload_n 0, 1) := by decide +kernel
theorem dX12_playing_142 : decode cX12_playing 142 = .ok (.getfield 7, 3) := by decide +kernel
theorem dX12_playing_145 : decode cX12_playing 145 = .ok (.iconst 1, 1) := by decide +kernel
theorem dX12_playing_146 : decode cX12_playing 146 = .ok (.iaload, 1) := by decide +kernel
theorem dX12_playing_147 : decode cX12_playing 147 = .ok (.if_icmp .ne 12, 3) := by decide +kernel
theorem dX12_playing_150 : decode cX12_playing 150 = .ok (.aload_n 0, 1) := by decide +kernel
theorem dX12_playing_151 : decode cX12_playing 151 = .ok (.getfield 59, 3) := by decide +kernel
theorem dX12_playing_154 : decode cX12_playing 154 = .ok (.iload_n 3, 1) := by decide +kernel
theorem dX12_playing_155 : decode cX12_playing 155 = .ok (.iaload, 1) := by decide +kernel
theorem dX12_playing_156 : decode cX12_playing 156 = .ok (.goto 14, 3) := by decide +kernel
theorem dX12_playing_159 : decode cX12_playing 159 = .ok (.aload_n 0, 1) := by decide +kernel
theorem dX12_playing_160 : decode cX12_playing 160 = .ok (.getfield 59, 3) := by decide +kernel
theorem dX12_playing_163 : decode cX12_playing 163 = .ok (.iload_n 3, 1) := by decide +kernel
theorem dX12_playing_164 : decode cX12_playing 164 = .ok (.iaload, 1) := by decide +kernel
theorem dX12_playing_165 : decode cX12_playing 165 = .ok (.iconst 1, 1) := by decide +kernel
theorem dX12_playing_166 : decode cX12_playing 166 = .ok (.iload 4, 2) := by decide +kernel
theorem dX12_playing_168 : decode cX12_playing 168 = .ok (.ishl, 1) := by decide +kernel
theorem dX12_playing_169 : decode cX12_playing 169 = .ok (.ixor, 1) := by decide +kernel
theorem dX12_playing_170 : decode cX12_playing 170 = .ok (.istore 5, 2) := by decide +kernel
theorem dX12_playing_172 : decode cX12_playing 172 = .ok (.iload_n 3, 1) := by decide +kernel
theorem dX12_playing_173 : decode cX12_playing 173 = .ok (.iconst 1, 1) := by decide +kernel
theorem dX12_playing_174 : decode cX12_playing 174 = .ok (.iadd, 1) := by decide +kernel
theorem dX12_playing_175 : decode cX12_playing 175 = .ok (.iload_n 2, 1) := by decide +kernel
theorem dX12_playing_176 : decode cX12_playing 176 = .ok (.if_icmp .ne 18, 3) := by decide +kernel
theorem dX12_playing_179 : decode cX12_playing 179 = .ok (.aload_n 0, 1) := by decide +kernel
theorem dX12_playing_180 : decode cX12_playing 180 = .ok (.iload_n 3, 1) := by decide +kernel
theorem dX12_playing_181 : decode cX12_playing 181 = .ok (.aload_n 0, 1) := by decide +kernel
theorem dX12_playing_182 : decode cX12_playing 182 = .ok (.iload_n 1, 1) := by decide +kernel
theorem dX12_playing_183 : decode cX12_playing 183 = .ok (.iload 5, 2) := by decide +kernel
theorem dX12_playing_185 : decode cX12_playing 185 = .ok (.invokevirtual 422, 3) := by decide +kernel
theorem dX12_playing_188 : decode cX12_playing 188 = .ok (.invokevirtual 425, 3) := by decide +kernel
theorem dX12_playing_191 : decode cX12_playing 191 = .ok (.goto 28, 3) := by decide +kernel
theorem dX12_playing_194 : decode cX12_playing 194 = .ok (.iinc 3 1, 3) := by decide +kernel
theorem dX12_playing_197 : decode cX12_playing 197 = .ok (.aload_n 0, 1) := by decide +kernel
theorem dX12_playing_198 : decode cX12_playing 198 = .ok (.getfield 59, 3) := by decide +kernel
theorem dX12_playing_201 : decode cX12_playing 201 = .ok (.iload_n 3, 1) := by decide +kernel
theorem dX12_playing_202 : decode cX12_playing 202 = .ok (.iload 5, 2) := by decide +kernel
theorem dX12_playing_204 : decode cX12_playing 204 = .ok (.iastore, 1) := by decide +kernel
theorem dX12_playing_205 : decode cX12_playing 205 = .ok (.aload_n 0, 1) := by decide +kernel
theorem dX12_playing_206 : decode cX12_playing 206 = .ok (.getfield 62, 3) := by decide +kernel
theorem dX12_playing_209 : decode cX12_playing 209 = .ok (.iload_n 3, 1) := by decide +kernel
theorem dX12_playing_210 : decode cX12_playing 210 = .ok (.iconst (-1), 1) := by decide +kernel
theorem dX12_playing_211 : decode cX12_playing 211 = .ok (.iastore, 1) := by decide +kernel
theorem dX12_playing_212 : decode cX12_playing 212 = .ok (.aload_n 0, 1) := by decide +kernel
theorem dX12_playing_213 : decode cX12_playing 213 = .ok (.getfield 68, 3) := by decide +kernel
theorem dX12_playing_216 : decode cX12_playing 216 = .ok (.iload_n 3, 1) := by decide +kernel
theorem dX12_playing_217 : decode cX12_playing 217 = .ok (.iconst (-1), 1) := by decide +kernel
theorem dX12_playing_218 : decode cX12_playing 218 = .ok (.iastore, 1) := by decide +kernel
theorem dX12_playing_219 : decode cX12_playing 219 = .ok (.goto (-175), 3) := by decide +kernel
theorem dX12_playing_222 : decode cX12_playing 222 = .ok (.aload_n 0, 1) := by decide +kernel
theorem dX12_playing_223 : decode cX12_playing 223 = .ok (.getfield 65, 3) := by decide +kernel
theorem dX12_playing_226 : decode cX12_playing 226 = .ok (.iconst 0, 1) := by decide +kernel
theorem dX12_playing_227 : decode cX12_playing 227 = .ok (.iaload, 1) := by decide +kernel
theorem dX12_playing_228 : decode cX12_playing 228 = .ok (.ireturn, 1) := by decide +kernel
set_option maxRecDepth 100000 in
def f_X12_playing_219 (k44 : Nat → Int32 → Int32 → Int32 → dtM → Option (Int32 × dtM)) (l0 : Nat) (l1 : Int32) (l2 : Int32) (l3 : Int32) (μ : dtM) : Option (Int32 × dtM) :=
  k44 l0 l1 l2 l3 μ
set_option maxRecDepth 100000 in
def f_X12_playing_170 (k44 : Nat → Int32 → Int32 → Int32 → dtM → Option (Int32 × dtM)) (l0 : Nat) (l1 : Int32) (l2 : Int32) (l3 : Int32) (s0 : Int32) (μ : dtM) : Option (Int32 × dtM) :=
  if (l3 + (1 : Int32)) = l2 then ((opRv 12 μ l0).bind fun _ => opCall (f_X12_roomsBy l0 l1 s0 μ) fun x19 μ17 => (opRv 12 μ17 l0).bind fun _ => (f_X12_settles l0 l3 x19 μ17).bind fun μ21 => f_X12_playing_219 k44 l0 l1 l2 l3 μ21) else ((opGR 12 29 μ l0).bind fun x4 => (opSI μ x4 (l3 + 1) s0).bind fun μ6 => (opGR 12 30 μ6 l0).bind fun x8 => (opSI μ6 x8 (l3 + 1) (-1 : Int32)).bind fun μ10 => (opGR 12 32 μ10 l0).bind fun x12 => (opSI μ10 x12 (l3 + 1) (-1 : Int32)).bind fun μ14 => f_X12_playing_219 k44 l0 l1 l2 (l3 + 1) μ14)
set_option maxRecDepth 100000 in
def f_X12_playing_139 (k44 : Nat → Int32 → Int32 → Int32 → dtM → Option (Int32 × dtM)) (l0 : Nat) (l1 : Int32) (l2 : Int32) (l3 : Int32) (l4 : Int32) (μ : dtM) : Option (Int32 × dtM) :=
  (opGR 12 0 μ l0).bind fun x1 => (opLI 1 μ x1 (1 : Int32)).bind fun x3 => if l4 = x3 then ((opGR 12 29 μ l0).bind fun x12 => (opLI 1 μ x12 l3).bind fun x14 => f_X12_playing_170 k44 l0 l1 l2 l3 x14 μ) else ((opGR 12 29 μ l0).bind fun x8 => (opLI 1 μ x8 l3).bind fun x10 => f_X12_playing_170 k44 l0 l1 l2 l3 (x10 ^^^ ((1 : Int32) <<< (l4 &&& 31))) μ)
set_option maxRecDepth 100000 in
def f_X12_playing_133 (k44 : Nat → Int32 → Int32 → Int32 → dtM → Option (Int32 × dtM)) (l0 : Nat) (l1 : Int32) (l2 : Int32) (l3 : Int32) (l4 : Int32) (s0 : Int32) (s1 : Int32) (μ : dtM) : Option (Int32 × dtM) :=
  if s0 = s1 then (f_X12_playing_139 k44 l0 l1 l2 l3 l4 μ) else (k44 l0 l1 l2 l3 μ)
set_option maxRecDepth 100000 in
def f_X12_playing_44 : Nat → Nat → Int32 → Int32 → Int32 → dtM → Option (Int32 × dtM)
  | 0, _, _, _, _, _ => none
  | n + 1, l0, l1, l2, l3, μ =>
    (opGR 12 30 μ l0).bind fun x1 => (opLI 1 μ x1 l3).bind fun x3 => (opSI μ x1 l3 (x3 + (1 : Int32))).bind fun μ5 => (opGR 12 30 μ5 l0).bind fun x7 => (opLI 1 μ5 x7 l3).bind fun x9 => (opGR 12 0 μ5 l0).bind fun x11 => (opLI 1 μ5 x11 (1 : Int32)).bind fun x13 => if x9 ≤ x13 then ((opGR 12 0 μ5 l0).bind fun x18 => (opLI 1 μ5 x18 (1 : Int32)).bind fun x20 => if x20 ≤ x9 then (f_X12_playing_139 (f_X12_playing_44 n) l0 l1 l2 l3 x9 μ5) else ((opGR 12 29 μ5 l0).bind fun x25 => (opLI 1 μ5 x25 l3).bind fun x27 => (opRv 12 μ5 l0).bind fun _ => opCall (f_X12_isIn l0 x27 x9 μ5) fun x32 μ30 => (opRem l3 (2 : Int32)).bind fun x33 => if x33 = 0 then (f_X12_playing_133 (f_X12_playing_44 n) l0 l1 l2 l3 x9 x32 (1 : Int32) μ30) else (f_X12_playing_133 (f_X12_playing_44 n) l0 l1 l2 l3 x9 x32 (0 : Int32) μ30))) else (if l3 = 0 then ((opGR 12 31 μ5 l0).bind fun x48 => (opLI 1 μ5 x48 (0 : Int32)).bind fun x50 => some (x50, μ5)) else ((opGR 12 31 μ5 l0).bind fun x41 => (opLI 1 μ5 x41 ((l3 + (-1)) + (1 : Int32))).bind fun x43 => (opRv 12 μ5 l0).bind fun _ => (f_X12_settles l0 (l3 + (-1)) x43 μ5).bind fun μ46 => f_X12_playing_44 n l0 l1 l2 (l3 + (-1)) μ46))
set_option maxRecDepth 100000 in
def f_X12_playing (p0 : Nat) (p1 : Int32) (p2 : Int32) (μ : dtM) : Option (Int32 × dtM) :=
  if p2 = 0 then ((opGR 12 0 μ p0).bind fun x20 => (opLI 1 μ x20 (5 : Int32)).bind fun x22 => (opRv 12 μ p0).bind fun _ => opCall (f_X12_roomsBy p0 p1 x22 μ) fun x27 μ25 => some (x27, μ25)) else ((opGR 12 29 μ p0).bind fun x4 => (opGR 12 0 μ p0).bind fun x6 => (opLI 1 μ x6 (5 : Int32)).bind fun x8 => (opSI μ x4 (0 : Int32) x8).bind fun μ10 => (opGR 12 30 μ10 p0).bind fun x12 => (opSI μ10 x12 (0 : Int32) (-1 : Int32)).bind fun μ14 => (opGR 12 32 μ14 p0).bind fun x16 => (opSI μ14 x16 (0 : Int32) (-1 : Int32)).bind fun μ18 => f_X12_playing_44 dtFuel p0 p1 p2 (0 : Int32) μ18)
set_option maxRecDepth 100000 in
theorem c_X12_playing_219 {r : Int32} {F : dtM} (k44 : Nat → Int32 → Int32 → Int32 → dtM → Option (Int32 × dtM)) (hk44 : ∀ (l0 : Nat) (l1 : Int32) (l2 : Int32) (l3 : Int32) (μ : dtM), k44 l0 l1 l2 l3 μ = some (r, F) → dtW yX12_playing cX12_playing 6 (some .int) 5 (some (.int r)) F 44 [some (.ref l0), some (.int l1), some (.int l2), some (.int l3)] [] μ) (l0 : Nat) (l1 : Int32) (l2 : Int32) (l3 : Int32) (μ : dtM) (h : f_X12_playing_219 k44 l0 l1 l2 l3 μ = some (r, F)) : dtW yX12_playing cX12_playing 6 (some .int) 5 (some (.int r)) F 219 [some (.ref l0), some (.int l1), some (.int l2), some (.int l3)] [] μ := by
  rw [f_X12_playing_219] at h
  refine dr_goto 44 dX12_playing_219 (by decide) ?_
  exact hk44 l0 l1 l2 l3 μ h
set_option maxRecDepth 100000 in
theorem c_X12_playing_170 {r : Int32} {F : dtM} (k44 : Nat → Int32 → Int32 → Int32 → dtM → Option (Int32 × dtM)) (hk44 : ∀ (l0 : Nat) (l1 : Int32) (l2 : Int32) (l3 : Int32) (μ : dtM), k44 l0 l1 l2 l3 μ = some (r, F) → dtW yX12_playing cX12_playing 6 (some .int) 5 (some (.int r)) F 44 [some (.ref l0), some (.int l1), some (.int l2), some (.int l3)] [] μ) (l0 : Nat) (l1 : Int32) (l2 : Int32) (l3 : Int32) (s0 : Int32) (μ : dtM) (h : f_X12_playing_170 k44 l0 l1 l2 l3 s0 μ = some (r, F)) : dtW yX12_playing cX12_playing 6 (some .int) 5 (some (.int r)) F 170 [some (.ref l0), some (.int l1), some (.int l2), some (.int l3)] [.int s0] μ := by
  rw [f_X12_playing_170] at h
  refine dr_istore [some (.ref l0), some (.int l1), some (.int l2), some (.int l3), none, some (.int s0)] dX12_playing_170 rfl rfl rfl ?_
  refine dr_iload_n l3 dX12_playing_172 rfl ?_
  refine dr_iconst (1 : Int32) dX12_playing_173 (by decide) ?_
  refine dr_iadd dX12_playing_174 ?_
  refine dr_iload_n l2 dX12_playing_175 rfl ?_
  obtain ⟨ht2, hf3⟩ := dtIte h
  refine dr_icmp_ne 194 dX12_playing_176 (by decide) (fun hc1 => ?_) (fun hc1 => ?_)
  · have h := hf3 hc1
    refine dr_iinc l3 (l3 + 1) [some (.ref l0), some (.int l1), some (.int l2), some (.int (l3 + 1)), none, some (.int s0)] dX12_playing_194 rfl rfl rfl rfl rfl ?_
    refine dr_aload_n l0 dX12_playing_197 rfl ?_
    obtain ⟨x4, e5, h⟩ := dtBind h
    refine dr_getR x4 dX12_playing_198 fl_RX12_59 e5 ?_
    refine dr_iload_n (l3 + 1) dX12_playing_201 rfl ?_
    refine dr_iload s0 dX12_playing_202 rfl ?_
    obtain ⟨μ6, e7, h⟩ := dtBind h
    refine dr_iastore μ6 dX12_playing_204 e7 ?_
    refine dr_aload_n l0 dX12_playing_205 rfl ?_
    obtain ⟨x8, e9, h⟩ := dtBind h
    refine dr_getR x8 dX12_playing_206 fl_RX12_62 e9 ?_
    refine dr_iload_n (l3 + 1) dX12_playing_209 rfl ?_
    refine dr_iconst (-1 : Int32) dX12_playing_210 (by decide) ?_
    obtain ⟨μ10, e11, h⟩ := dtBind h
    refine dr_iastore μ10 dX12_playing_211 e11 ?_
    refine dr_aload_n l0 dX12_playing_212 rfl ?_
    obtain ⟨x12, e13, h⟩ := dtBind h
    refine dr_getR x12 dX12_playing_213 fl_RX12_68 e13 ?_
    refine dr_iload_n (l3 + 1) dX12_playing_216 rfl ?_
    refine dr_iconst (-1 : Int32) dX12_playing_217 (by decide) ?_
    obtain ⟨μ14, e15, h⟩ := dtBind h
    refine dr_iastore μ14 dX12_playing_218 e15 ?_
    refine dr_mask [true, true, true, true] [some (.ref l0), some (.int l1), some (.int l2), some (.int (l3 + 1))] rfl ?_
    exact c_X12_playing_219 k44 hk44 l0 l1 l2 (l3 + 1) μ14 h
  · have h := ht2 hc1
    refine dr_aload_n l0 dX12_playing_179 rfl ?_
    refine dr_iload_n l3 dX12_playing_180 rfl ?_
    refine dr_aload_n l0 dX12_playing_181 rfl ?_
    refine dr_iload_n l1 dX12_playing_182 rfl ?_
    refine dr_iload s0 dX12_playing_183 rfl ?_
    obtain ⟨_, hb16, h⟩ := dtBind h
    obtain ⟨x19, μ17, e18, h⟩ := dtCall h
    refine dr_callV_i (S0 := [.int l3, .ref l0]) [.int l1, .int s0] x19 μ17 dX12_playing_185 (c_X12_roomsBy l0 l1 s0 μ e18) mf_X12_roomsBy wt_1998 ws_125 wt_1996 rfl (dtRv hb16) (by decide) rfl (Nat.le_of_ble_eq_true rfl) (Nat.le_of_ble_eq_true rfl) rfl ?_
    obtain ⟨_, hb20, h⟩ := dtBind h
    obtain ⟨μ21, e22, h⟩ := dtBind h
    refine dr_callV_v (S0 := []) [.int l3, .int x19] μ21 dX12_playing_188 (c_X12_settles l0 l3 x19 μ17 e22) mf_X12_settles wt_2002 ws_126 wt_2000 rfl (dtRv hb20) (by decide) rfl (Nat.le_of_ble_eq_true rfl) (Nat.le_of_ble_eq_true rfl) rfl ?_
    refine dr_goto 219 dX12_playing_191 (by decide) ?_
    refine dr_mask [true, true, true, true] [some (.ref l0), some (.int l1), some (.int l2), some (.int l3)] rfl ?_
    exact c_X12_playing_219 k44 hk44 l0 l1 l2 l3 μ21 h
set_option maxRecDepth 100000 in
theorem c_X12_playing_139 {r : Int32} {F : dtM} (k44 : Nat → Int32 → Int32 → Int32 → dtM → Option (Int32 × dtM)) (hk44 : ∀ (l0 : Nat) (l1 : Int32) (l2 : Int32) (l3 : Int32) (μ : dtM), k44 l0 l1 l2 l3 μ = some (r, F) → dtW yX12_playing cX12_playing 6 (some .int) 5 (some (.int r)) F 44 [some (.ref l0), some (.int l1), some (.int l2), some (.int l3)] [] μ) (l0 : Nat) (l1 : Int32) (l2 : Int32) (l3 : Int32) (l4 : Int32) (μ : dtM) (h : f_X12_playing_139 k44 l0 l1 l2 l3 l4 μ = some (r, F)) : dtW yX12_playing cX12_playing 6 (some .int) 5 (some (.int r)) F 139 [some (.ref l0), some (.int l1), some (.int l2), some (.int l3), some (.int l4)] [] μ := by
  rw [f_X12_playing_139] at h
  refine dr_iload l4 dX12_playing_139 rfl ?_
  refine dr_aload_n l0 dX12_playing_141 rfl ?_
  obtain ⟨x1, e2, h⟩ := dtBind h
  refine dr_getR x1 dX12_playing_142 fl_RX12_7 e2 ?_
  refine dr_iconst (1 : Int32) dX12_playing_145 (by decide) ?_
  obtain ⟨x3, e4, h⟩ := dtBind h
  refine dr_iaload x3 dX12_playing_146 e4 ?_
  obtain ⟨ht6, hf7⟩ := dtIte h
  refine dr_icmp_ne 159 dX12_playing_147 (by decide) (fun hc5 => ?_) (fun hc5 => ?_)
  · have h := hf7 hc5
    refine dr_aload_n l0 dX12_playing_159 rfl ?_
    obtain ⟨x8, e9, h⟩ := dtBind h
    refine dr_getR x8 dX12_playing_160 fl_RX12_59 e9 ?_
    refine dr_iload_n l3 dX12_playing_163 rfl ?_
    obtain ⟨x10, e11, h⟩ := dtBind h
    refine dr_iaload x10 dX12_playing_164 e11 ?_
    refine dr_iconst (1 : Int32) dX12_playing_165 (by decide) ?_
    refine dr_iload l4 dX12_playing_166 rfl ?_
    refine dr_ishl dX12_playing_168 ?_
    refine dr_ixor dX12_playing_169 ?_
    refine dr_mask [true, true, true, true] [some (.ref l0), some (.int l1), some (.int l2), some (.int l3)] rfl ?_
    exact c_X12_playing_170 k44 hk44 l0 l1 l2 l3 (x10 ^^^ ((1 : Int32) <<< (l4 &&& 31))) μ h
  · have h := ht6 hc5
    refine dr_aload_n l0 dX12_playing_150 rfl ?_
    obtain ⟨x12, e13, h⟩ := dtBind h
    refine dr_getR x12 dX12_playing_151 fl_RX12_59 e13 ?_
    refine dr_iload_n l3 dX12_playing_154 rfl ?_
    obtain ⟨x14, e15, h⟩ := dtBind h
    refine dr_iaload x14 dX12_playing_155 e15 ?_
    refine dr_goto 170 dX12_playing_156 (by decide) ?_
    refine dr_mask [true, true, true, true] [some (.ref l0), some (.int l1), some (.int l2), some (.int l3)] rfl ?_
    exact c_X12_playing_170 k44 hk44 l0 l1 l2 l3 x14 μ h
set_option maxRecDepth 100000 in
theorem c_X12_playing_133 {r : Int32} {F : dtM} (k44 : Nat → Int32 → Int32 → Int32 → dtM → Option (Int32 × dtM)) (hk44 : ∀ (l0 : Nat) (l1 : Int32) (l2 : Int32) (l3 : Int32) (μ : dtM), k44 l0 l1 l2 l3 μ = some (r, F) → dtW yX12_playing cX12_playing 6 (some .int) 5 (some (.int r)) F 44 [some (.ref l0), some (.int l1), some (.int l2), some (.int l3)] [] μ) (l0 : Nat) (l1 : Int32) (l2 : Int32) (l3 : Int32) (l4 : Int32) (s0 : Int32) (s1 : Int32) (μ : dtM) (h : f_X12_playing_133 k44 l0 l1 l2 l3 l4 s0 s1 μ = some (r, F)) : dtW yX12_playing cX12_playing 6 (some .int) 5 (some (.int r)) F 133 [some (.ref l0), some (.int l1), some (.int l2), some (.int l3), some (.int l4)] [.int s1, .int s0] μ := by
  rw [f_X12_playing_133] at h
  obtain ⟨ht2, hf3⟩ := dtIte h
  refine dr_icmp_eq 139 dX12_playing_133 (by decide) (fun hc1 => ?_) (fun hc1 => ?_)
  · have h := ht2 hc1
    exact c_X12_playing_139 k44 hk44 l0 l1 l2 l3 l4 μ h
  · have h := hf3 hc1
    refine dr_goto 44 dX12_playing_136 (by decide) ?_
    refine dr_mask [true, true, true, true] [some (.ref l0), some (.int l1), some (.int l2), some (.int l3)] rfl ?_
    exact hk44 l0 l1 l2 l3 μ h
set_option maxRecDepth 100000 in
theorem c_X12_playing_44 {r : Int32} {F : dtM} : ∀ (n : Nat) (l0 : Nat) (l1 : Int32) (l2 : Int32) (l3 : Int32) (μ : dtM), f_X12_playing_44 n l0 l1 l2 l3 μ = some (r, F) → dtW yX12_playing cX12_playing 6 (some .int) 5 (some (.int r)) F 44 [some (.ref l0), some (.int l1), some (.int l2), some (.int l3)] [] μ := by
  intro n
  induction n with
  | zero => intro l0 l1 l2 l3 μ h; cases h
  | succ n ih =>
    intro l0 l1 l2 l3 μ h
    have h := (show f_X12_playing_44 (n + 1) l0 l1 l2 l3 μ = some _ from h)
    rw [f_X12_playing_44] at h
    refine dr_aload_n l0 dX12_playing_44 rfl ?_
    obtain ⟨x1, e2, h⟩ := dtBind h
    refine dr_getR x1 dX12_playing_45 fl_RX12_62 e2 ?_
    refine dr_iload_n l3 dX12_playing_48 rfl ?_
    refine dr_dup2 dX12_playing_49 rfl rfl ?_
    obtain ⟨x3, e4, h⟩ := dtBind h
    refine dr_iaload x3 dX12_playing_50 e4 ?_
    refine dr_iconst (1 : Int32) dX12_playing_51 (by decide) ?_
    refine dr_iadd dX12_playing_52 ?_
    obtain ⟨μ5, e6, h⟩ := dtBind h
    refine dr_iastore μ5 dX12_playing_53 e6 ?_
    refine dr_aload_n l0 dX12_playing_54 rfl ?_
    obtain ⟨x7, e8, h⟩ := dtBind h
    refine dr_getR x7 dX12_playing_55 fl_RX12_62 e8 ?_
    refine dr_iload_n l3 dX12_playing_58 rfl ?_
    obtain ⟨x9, e10, h⟩ := dtBind h
    refine dr_iaload x9 dX12_playing_59 e10 ?_
    refine dr_istore [some (.ref l0), some (.int l1), some (.int l2), some (.int l3), some (.int x9)] dX12_playing_60 rfl rfl rfl ?_
    refine dr_iload x9 dX12_playing_62 rfl ?_
    refine dr_aload_n l0 dX12_playing_64 rfl ?_
    obtain ⟨x11, e12, h⟩ := dtBind h
    refine dr_getR x11 dX12_playing_65 fl_RX12_7 e12 ?_
    refine dr_iconst (1 : Int32) dX12_playing_68 (by decide) ?_
    obtain ⟨x13, e14, h⟩ := dtBind h
    refine dr_iaload x13 dX12_playing_69 e14 ?_
    obtain ⟨ht16, hf17⟩ := dtIte h
    refine dr_icmp_le 99 dX12_playing_70 (by decide) (fun hc15 => ?_) (fun hc15 => ?_)
    · have h := ht16 hc15
      refine dr_iload x9 dX12_playing_99 rfl ?_
      refine dr_aload_n l0 dX12_playing_101 rfl ?_
      obtain ⟨x18, e19, h⟩ := dtBind h
      refine dr_getR x18 dX12_playing_102 fl_RX12_7 e19 ?_
      refine dr_iconst (1 : Int32) dX12_playing_105 (by decide) ?_
      obtain ⟨x20, e21, h⟩ := dtBind h
      refine dr_iaload x20 dX12_playing_106 e21 ?_
      obtain ⟨ht23, hf24⟩ := dtIte h
      refine dr_icmp_ge 139 dX12_playing_107 (by decide) (fun hc22 => ?_) (fun hc22 => ?_)
      · have h := ht23 hc22
        exact c_X12_playing_139 (f_X12_playing_44 n) ih l0 l1 l2 l3 x9 μ5 h
      · have h := hf24 hc22
        refine dr_aload_n l0 dX12_playing_110 rfl ?_
        refine dr_aload_n l0 dX12_playing_111 rfl ?_
        obtain ⟨x25, e26, h⟩ := dtBind h
        refine dr_getR x25 dX12_playing_112 fl_RX12_59 e26 ?_
        refine dr_iload_n l3 dX12_playing_115 rfl ?_
        obtain ⟨x27, e28, h⟩ := dtBind h
        refine dr_iaload x27 dX12_playing_116 e28 ?_
        refine dr_iload x9 dX12_playing_117 rfl ?_
        obtain ⟨_, hb29, h⟩ := dtBind h
        obtain ⟨x32, μ30, e31, h⟩ := dtCall h
        refine dr_callV_i (S0 := []) [.int x27, .int x9] x32 μ30 dX12_playing_119 (c_X12_isIn l0 x27 x9 μ5 e31) mf_X12_isIn wt_1656 ws_82 wt_1654 rfl (dtRv hb29) (by decide) rfl (Nat.le_of_ble_eq_true rfl) (Nat.le_of_ble_eq_true rfl) rfl ?_
        refine dr_iload_n l3 dX12_playing_122 rfl ?_
        refine dr_iconst (2 : Int32) dX12_playing_123 (by decide) ?_
        obtain ⟨x33, e34, h⟩ := dtBind h
        refine dr_irem_n x33 dX12_playing_124 e34 ?_
        obtain ⟨ht36, hf37⟩ := dtIte h
        refine dr_if_ne 132 dX12_playing_125 (by decide) (fun hc35 => ?_) (fun hc35 => ?_)
        · have h := hf37 hc35
          refine dr_iconst (0 : Int32) dX12_playing_132 (by decide) ?_
          exact c_X12_playing_133 (f_X12_playing_44 n) ih l0 l1 l2 l3 x9 x32 (0 : Int32) μ30 h
        · have h := ht36 hc35
          refine dr_iconst (1 : Int32) dX12_playing_128 (by decide) ?_
          refine dr_goto 133 dX12_playing_129 (by decide) ?_
          exact c_X12_playing_133 (f_X12_playing_44 n) ih l0 l1 l2 l3 x9 x32 (1 : Int32) μ30 h
    · have h := hf17 hc15
      refine dr_iload_n l3 dX12_playing_73 rfl ?_
      obtain ⟨ht39, hf40⟩ := dtIte h
      refine dr_if_ne 80 dX12_playing_74 (by decide) (fun hc38 => ?_) (fun hc38 => ?_)
      · have h := hf40 hc38
        refine dr_iinc l3 (l3 + (-1)) [some (.ref l0), some (.int l1), some (.int l2), some (.int (l3 + (-1))), some (.int x9)] dX12_playing_80 rfl rfl rfl rfl rfl ?_
        refine dr_aload_n l0 dX12_playing_83 rfl ?_
        refine dr_iload_n (l3 + (-1)) dX12_playing_84 rfl ?_
        refine dr_aload_n l0 dX12_playing_85 rfl ?_
        obtain ⟨x41, e42, h⟩ := dtBind h
        refine dr_getR x41 dX12_playing_86 fl_RX12_65 e42 ?_
        refine dr_iload_n (l3 + (-1)) dX12_playing_89 rfl ?_
        refine dr_iconst (1 : Int32) dX12_playing_90 (by decide) ?_
        refine dr_iadd dX12_playing_91 ?_
        obtain ⟨x43, e44, h⟩ := dtBind h
        refine dr_iaload x43 dX12_playing_92 e44 ?_
        obtain ⟨_, hb45, h⟩ := dtBind h
        obtain ⟨μ46, e47, h⟩ := dtBind h
        refine dr_callV_v (S0 := []) [.int (l3 + (-1)), .int x43] μ46 dX12_playing_93 (c_X12_settles l0 (l3 + (-1)) x43 μ5 e47) mf_X12_settles wt_2002 ws_126 wt_2000 rfl (dtRv hb45) (by decide) rfl (Nat.le_of_ble_eq_true rfl) (Nat.le_of_ble_eq_true rfl) rfl ?_
        refine dr_goto 44 dX12_playing_96 (by decide) ?_
        refine dr_mask [true, true, true, true] [some (.ref l0), some (.int l1), some (.int l2), some (.int (l3 + (-1)))] rfl ?_
        exact ih l0 l1 l2 (l3 + (-1)) μ46 h
      · have h := ht39 hc38
        refine dr_goto 222 dX12_playing_77 (by decide) ?_
        refine dr_aload_n l0 dX12_playing_222 rfl ?_
        obtain ⟨x48, e49, h⟩ := dtBind h
        refine dr_getR x48 dX12_playing_223 fl_RX12_65 e49 ?_
        refine dr_iconst (0 : Int32) dX12_playing_226 (by decide) ?_
        obtain ⟨x50, e51, h⟩ := dtBind h
        refine dr_iaload x50 dX12_playing_227 e51 ?_
        cases h
        exact dr_ireturn dX12_playing_228 rfl
set_option maxRecDepth 100000 in
theorem c_X12_playing {r : Int32} {F : dtM} (p0 : Nat) (p1 : Int32) (p2 : Int32) (μ : dtM) (h : f_X12_playing p0 p1 p2 μ = some (r, F)) : dtMet yX12_playing cX12_playing 6 (some .int) 5 [.ref p0, .int p1, .int p2] μ (some (.int r)) F := by
  refine dtMet.of (by decide +kernel) (Nat.le_of_ble_eq_true rfl) (show dtW yX12_playing cX12_playing 6 (some .int) 5 (some (.int r)) F 0 [some (.ref p0), some (.int p1), some (.int p2)] [] μ from ?_)
  rw [f_X12_playing] at h
  refine dr_iload_n p2 dX12_playing_0 rfl ?_
  obtain ⟨ht2, hf3⟩ := dtIte h
  refine dr_if_ne 16 dX12_playing_1 (by decide) (fun hc1 => ?_) (fun hc1 => ?_)
  · have h := hf3 hc1
    refine dr_iconst (0 : Int32) dX12_playing_16 (by decide) ?_
    refine dr_istore_n 3 [some (.ref p0), some (.int p1), some (.int p2), some (.int (0 : Int32))] dX12_playing_17 rfl rfl rfl rfl ?_
    refine dr_aload_n p0 dX12_playing_18 rfl ?_
    obtain ⟨x4, e5, h⟩ := dtBind h
    refine dr_getR x4 dX12_playing_19 fl_RX12_59 e5 ?_
    refine dr_iconst (0 : Int32) dX12_playing_22 (by decide) ?_
    refine dr_aload_n p0 dX12_playing_23 rfl ?_
    obtain ⟨x6, e7, h⟩ := dtBind h
    refine dr_getR x6 dX12_playing_24 fl_RX12_7 e7 ?_
    refine dr_iconst (5 : Int32) dX12_playing_27 (by decide) ?_
    obtain ⟨x8, e9, h⟩ := dtBind h
    refine dr_iaload x8 dX12_playing_28 e9 ?_
    obtain ⟨μ10, e11, h⟩ := dtBind h
    refine dr_iastore μ10 dX12_playing_29 e11 ?_
    refine dr_aload_n p0 dX12_playing_30 rfl ?_
    obtain ⟨x12, e13, h⟩ := dtBind h
    refine dr_getR x12 dX12_playing_31 fl_RX12_62 e13 ?_
    refine dr_iconst (0 : Int32) dX12_playing_34 (by decide) ?_
    refine dr_iconst (-1 : Int32) dX12_playing_35 (by decide) ?_
    obtain ⟨μ14, e15, h⟩ := dtBind h
    refine dr_iastore μ14 dX12_playing_36 e15 ?_
    refine dr_aload_n p0 dX12_playing_37 rfl ?_
    obtain ⟨x16, e17, h⟩ := dtBind h
    refine dr_getR x16 dX12_playing_38 fl_RX12_68 e17 ?_
    refine dr_iconst (0 : Int32) dX12_playing_41 (by decide) ?_
    refine dr_iconst (-1 : Int32) dX12_playing_42 (by decide) ?_
    obtain ⟨μ18, e19, h⟩ := dtBind h
    refine dr_iastore μ18 dX12_playing_43 e19 ?_
    exact c_X12_playing_44 dtFuel p0 p1 p2 (0 : Int32) μ18 h
  · have h := ht2 hc1
    refine dr_aload_n p0 dX12_playing_4 rfl ?_
    refine dr_iload_n p1 dX12_playing_5 rfl ?_
    refine dr_aload_n p0 dX12_playing_6 rfl ?_
    obtain ⟨x20, e21, h⟩ := dtBind h
    refine dr_getR x20 dX12_playing_7 fl_RX12_7 e21 ?_
    refine dr_iconst (5 : Int32) dX12_playing_10 (by decide) ?_
    obtain ⟨x22, e23, h⟩ := dtBind h
    refine dr_iaload x22 dX12_playing_11 e23 ?_
    obtain ⟨_, hb24, h⟩ := dtBind h
    obtain ⟨x27, μ25, e26, h⟩ := dtCall h
    refine dr_callV_i (S0 := []) [.int p1, .int x22] x27 μ25 dX12_playing_12 (c_X12_roomsBy p0 p1 x22 μ e26) mf_X12_roomsBy wt_1998 ws_125 wt_1996 rfl (dtRv hb24) (by decide) rfl (Nat.le_of_ble_eq_true rfl) (Nat.le_of_ble_eq_true rfl) rfl ?_
    cases h
    exact dr_ireturn dX12_playing_15 rfl
/-! X12_game -/
theorem dX12_game_0 : decode cX12_game 0 = .ok (.aload_n 0, 1) := by decide +kernel
theorem dX12_game_1 : decode cX12_game 1 = .ok (.iload_n 1, 1) := by decide +kernel
theorem dX12_game_2 : decode cX12_game 2 = .ok (.invokevirtual 307, 3) := by decide +kernel
theorem dX12_game_5 : decode cX12_game 5 = .ok (.ifCond .eq 28, 3) := by decide +kernel
theorem dX12_game_8 : decode cX12_game 8 = .ok (.iload_n 2, 1) := by decide +kernel
theorem dX12_game_9 : decode cX12_game 9 = .ok (.i2l, 1) := by decide +kernel
theorem dX12_game_10 : decode cX12_game 10 = .ok (.lconst 0, 1) := by decide +kernel
theorem dX12_game_11 : decode cX12_game 11 = .ok (.ldc2_w 364, 3) := by decide +kernel
theorem dX12_game_14 : decode cX12_game 14 = .ok (.invokestatic 366, 3) := by decide +kernel
theorem dX12_game_17 : decode cX12_game 17 = .ok (.ifCond .eq 16, 3) := by decide +kernel
theorem dX12_game_20 : decode cX12_game 20 = .ok (.aload_n 0, 1) := by decide +kernel
theorem dX12_game_21 : decode cX12_game 21 = .ok (.aload_n 0, 1) := by decide +kernel
theorem dX12_game_22 : decode cX12_game 22 = .ok (.iload_n 1, 1) := by decide +kernel
theorem dX12_game_23 : decode cX12_game 23 = .ok (.iload_n 2, 1) := by decide +kernel
theorem dX12_game_24 : decode cX12_game 24 = .ok (.invokevirtual 428, 3) := by decide +kernel
theorem dX12_game_27 : decode cX12_game 27 = .ok (.invokevirtual 97, 3) := by decide +kernel
theorem dX12_game_30 : decode cX12_game 30 = .ok (.goto 8, 3) := by decide +kernel
theorem dX12_game_33 : decode cX12_game 33 = .ok (.aload_n 0, 1) := by decide +kernel
theorem dX12_game_34 : decode cX12_game 34 = .ok (.iconst 1, 1) := by decide +kernel
theorem dX12_game_35 : decode cX12_game 35 = .ok (.invokevirtual 93, 3) := by decide +kernel
theorem dX12_game_38 : decode cX12_game 38 = .ok (.ireturn, 1) := by decide +kernel
set_option maxRecDepth 100000 in
def f_X12_game_38 (s0 : Int32) (μ : dtM) : Option (Int32 × dtM) :=
  some (s0, μ)
set_option maxRecDepth 100000 in
def f_X12_game_33 (l0 : Nat) (μ : dtM) : Option (Int32 × dtM) :=
  (opRv 12 μ l0).bind fun _ => opCall (f_X12_refuse l0 (1 : Int32) μ) fun x4 μ2 => f_X12_game_38 x4 μ2
set_option maxRecDepth 100000 in
def f_X12_game (p0 : Nat) (p1 : Int32) (p2 : Int32) (μ : dtM) : Option (Int32 × dtM) :=
  (opRv 12 μ p0).bind fun _ => opCall (f_X12_isPerson p0 p1 μ) fun x4 μ2 => if x4 = 0 then (f_X12_game_33 p0 μ2) else (opCall (f_X12_isFrom (p2.toInt64) (0 : Int64) (4 : Int64) μ2) fun x10 μ8 => if x10 = 0 then (f_X12_game_33 p0 μ8) else ((opRv 12 μ8 p0).bind fun _ => opCall (f_X12_playing p0 p1 p2 μ8) fun x17 μ15 => (opRv 12 μ15 p0).bind fun _ => opCall (f_X12_gives p0 x17 μ15) fun x21 μ19 => f_X12_game_38 x21 μ19))
set_option maxRecDepth 100000 in
theorem c_X12_game_38 {r : Int32} {F : dtM} (s0 : Int32) (μ : dtM) (h : f_X12_game_38 s0 μ = some (r, F)) : dtW yX12_game cX12_game 3 (some .int) 6 (some (.int r)) F 38 [] [.int s0] μ := by
  rw [f_X12_game_38] at h
  cases h
  exact dr_ireturn dX12_game_38 rfl
set_option maxRecDepth 100000 in
theorem c_X12_game_33 {r : Int32} {F : dtM} (l0 : Nat) (μ : dtM) (h : f_X12_game_33 l0 μ = some (r, F)) : dtW yX12_game cX12_game 3 (some .int) 6 (some (.int r)) F 33 [some (.ref l0)] [] μ := by
  rw [f_X12_game_33] at h
  refine dr_aload_n l0 dX12_game_33 rfl ?_
  refine dr_iconst (1 : Int32) dX12_game_34 (by decide) ?_
  obtain ⟨_, hb1, h⟩ := dtBind h
  obtain ⟨x4, μ2, e3, h⟩ := dtCall h
  refine dr_callV_i (S0 := []) [.int (1 : Int32)] x4 μ2 dX12_game_35 (c_X12_refuse l0 (1 : Int32) μ e3) mf_X12_refuse wt_1552 ws_59 wt_1550 rfl (dtRv hb1) (by decide) rfl (Nat.le_of_ble_eq_true rfl) (Nat.le_of_ble_eq_true rfl) rfl ?_
  refine dr_mask [] [] rfl ?_
  exact c_X12_game_38 x4 μ2 h
set_option maxRecDepth 100000 in
theorem c_X12_game {r : Int32} {F : dtM} (p0 : Nat) (p1 : Int32) (p2 : Int32) (μ : dtM) (h : f_X12_game p0 p1 p2 μ = some (r, F)) : dtMet yX12_game cX12_game 3 (some .int) 6 [.ref p0, .int p1, .int p2] μ (some (.int r)) F := by
  refine dtMet.of (by decide +kernel) (Nat.le_of_ble_eq_true rfl) (show dtW yX12_game cX12_game 3 (some .int) 6 (some (.int r)) F 0 [some (.ref p0), some (.int p1), some (.int p2)] [] μ from ?_)
  rw [f_X12_game] at h
  refine dr_aload_n p0 dX12_game_0 rfl ?_
  refine dr_iload_n p1 dX12_game_1 rfl ?_
  obtain ⟨_, hb1, h⟩ := dtBind h
  obtain ⟨x4, μ2, e3, h⟩ := dtCall h
  refine dr_callV_i (S0 := []) [.int p1] x4 μ2 dX12_game_2 (c_X12_isPerson p0 p1 μ e3) mf_X12_isPerson wt_1732 ws_95 wt_1730 rfl (dtRv hb1) (by decide) rfl (Nat.le_of_ble_eq_true rfl) (Nat.le_of_ble_eq_true rfl) rfl ?_
  obtain ⟨ht6, hf7⟩ := dtIte h
  refine dr_if_eq 33 dX12_game_5 (by decide) (fun hc5 => ?_) (fun hc5 => ?_)
  · have h := ht6 hc5
    refine dr_mask [true] [some (.ref p0)] rfl ?_
    exact c_X12_game_33 p0 μ2 h
  · have h := hf7 hc5
    refine dr_iload_n p2 dX12_game_8 rfl ?_
    refine dr_i2l dX12_game_9 ?_
    refine dr_lconst (0 : Int64) dX12_game_10 (by decide) ?_
    refine dr_ldc2 (4 : Int64) dX12_game_11 wt_1852 ?_
    obtain ⟨x10, μ8, e9, h⟩ := dtCall h
    refine dr_callS_i (S0 := []) [.long (p2.toInt64), .long (0 : Int64), .long (4 : Int64)] x10 μ8 dX12_game_14 (c_X12_isFrom (p2.toInt64) (0 : Int64) (4 : Int64) μ2 e9) mf_X12_isFrom wt_1854 wt_1853 rfl (Nat.le_of_ble_eq_true rfl) (Nat.le_of_ble_eq_true rfl) rfl ?_
    obtain ⟨ht12, hf13⟩ := dtIte h
    refine dr_if_eq 33 dX12_game_17 (by decide) (fun hc11 => ?_) (fun hc11 => ?_)
    · have h := ht12 hc11
      refine dr_mask [true] [some (.ref p0)] rfl ?_
      exact c_X12_game_33 p0 μ8 h
    · have h := hf13 hc11
      refine dr_aload_n p0 dX12_game_20 rfl ?_
      refine dr_aload_n p0 dX12_game_21 rfl ?_
      refine dr_iload_n p1 dX12_game_22 rfl ?_
      refine dr_iload_n p2 dX12_game_23 rfl ?_
      obtain ⟨_, hb14, h⟩ := dtBind h
      obtain ⟨x17, μ15, e16, h⟩ := dtCall h
      refine dr_callV_i (S0 := [.ref p0]) [.int p1, .int p2] x17 μ15 dX12_game_24 (c_X12_playing p0 p1 p2 μ8 e16) mf_X12_playing wt_1994 ws_124 wt_1992 rfl (dtRv hb14) (by decide) rfl (Nat.le_of_ble_eq_true rfl) (Nat.le_of_ble_eq_true rfl) rfl ?_
      obtain ⟨_, hb18, h⟩ := dtBind h
      obtain ⟨x21, μ19, e20, h⟩ := dtCall h
      refine dr_callV_i (S0 := []) [.int x17] x21 μ19 dX12_game_27 (c_X12_gives p0 x17 μ15 e20) mf_X12_gives wt_1668 ws_85 wt_1666 rfl (dtRv hb18) (by decide) rfl (Nat.le_of_ble_eq_true rfl) (Nat.le_of_ble_eq_true rfl) rfl ?_
      refine dr_goto 38 dX12_game_30 (by decide) ?_
      refine dr_mask [] [] rfl ?_
      exact c_X12_game_38 x21 μ19 h
/-! X12_moveOf -/
theorem dX12_moveOf_0 : decode cX12_moveOf 0 = .ok (.aload_n 0, 1) := by decide +kernel
theorem dX12_moveOf_1 : decode cX12_moveOf 1 = .ok (.iload_n 1, 1) := by decide +kernel
theorem dX12_moveOf_2 : decode cX12_moveOf 2 = .ok (.invokevirtual 307, 3) := by decide +kernel
theorem dX12_moveOf_5 : decode cX12_moveOf 5 = .ok (.ifCond .eq 15, 3) := by decide +kernel
theorem dX12_moveOf_8 : decode cX12_moveOf 8 = .ok (.iload_n 2, 1) := by decide +kernel
theorem dX12_moveOf_9 : decode cX12_moveOf 9 = .ok (.i2l, 1) := by decide +kernel
theorem dX12_moveOf_10 : decode cX12_moveOf 10 = .ok (.lconst 1, 1) := by decide +kernel
theorem dX12_moveOf_11 : decode cX12_moveOf 11 = .ok (.ldc2_w 364, 3) := by decide +kernel
theorem dX12_moveOf_14 : decode cX12_moveOf 14 = .ok (.invokestatic 366, 3) := by decide +kernel
theorem dX12_moveOf_17 : decode cX12_moveOf 17 = .ok (.ifCond .ne 9, 3) := by decide +kernel
theorem dX12_moveOf_20 : decode cX12_moveOf 20 = .ok (.aload_n 0, 1) := by decide +kernel
theorem dX12_moveOf_21 : decode cX12_moveOf 21 = .ok (.iconst 1, 1) := by decide +kernel
theorem dX12_moveOf_22 : decode cX12_moveOf 22 = .ok (.invokevirtual 93, 3) := by decide +kernel
theorem dX12_moveOf_25 : decode cX12_moveOf 25 = .ok (.ireturn, 1) := by decide +kernel
theorem dX12_moveOf_26 : decode cX12_moveOf 26 = .ok (.aload_n 0, 1) := by decide +kernel
theorem dX12_moveOf_27 : decode cX12_moveOf 27 = .ok (.iload_n 1, 1) := by decide +kernel
theorem dX12_moveOf_28 : decode cX12_moveOf 28 = .ok (.iload_n 2, 1) := by decide +kernel
theorem dX12_moveOf_29 : decode cX12_moveOf 29 = .ok (.invokevirtual 428, 3) := by decide +kernel
theorem dX12_moveOf_32 : decode cX12_moveOf 32 = .ok (.pop, 1) := by decide +kernel
theorem dX12_moveOf_33 : decode cX12_moveOf 33 = .ok (.aload_n 0, 1) := by decide +kernel
theorem dX12_moveOf_34 : decode cX12_moveOf 34 = .ok (.getfield 68, 3) := by decide +kernel
theorem dX12_moveOf_37 : decode cX12_moveOf 37 = .ok (.iconst 0, 1) := by decide +kernel
theorem dX12_moveOf_38 : decode cX12_moveOf 38 = .ok (.iaload, 1) := by decide +kernel
theorem dX12_moveOf_39 : decode cX12_moveOf 39 = .ok (.aload_n 0, 1) := by decide +kernel
theorem dX12_moveOf_40 : decode cX12_moveOf 40 = .ok (.getfield 7, 3) := by decide +kernel
theorem dX12_moveOf_43 : decode cX12_moveOf 43 = .ok (.iconst 1, 1) := by decide +kernel
theorem dX12_moveOf_44 : decode cX12_moveOf 44 = .ok (.iaload, 1) := by decide +kernel
theorem dX12_moveOf_45 : decode cX12_moveOf 45 = .ok (.if_icmp .ne 12, 3) := by decide +kernel
theorem dX12_moveOf_48 : decode cX12_moveOf 48 = .ok (.aload_n 0, 1) := by decide +kernel
theorem dX12_moveOf_49 : decode cX12_moveOf 49 = .ok (.bipush 6, 2) := by decide +kernel
theorem dX12_moveOf_51 : decode cX12_moveOf 51 = .ok (.invokevirtual 93, 3) := by decide +kernel
theorem dX12_moveOf_54 : decode cX12_moveOf 54 = .ok (.goto 13, 3) := by decide +kernel
theorem dX12_moveOf_57 : decode cX12_moveOf 57 = .ok (.aload_n 0, 1) := by decide +kernel
theorem dX12_moveOf_58 : decode cX12_moveOf 58 = .ok (.aload_n 0, 1) := by decide +kernel
theorem dX12_moveOf_59 : decode cX12_moveOf 59 = .ok (.getfield 68, 3) := by decide +kernel
theorem dX12_moveOf_62 : decode cX12_moveOf 62 = .ok (.iconst 0, 1) := by decide +kernel
theorem dX12_moveOf_63 : decode cX12_moveOf 63 = .ok (.iaload, 1) := by decide +kernel
theorem dX12_moveOf_64 : decode cX12_moveOf 64 = .ok (.invokevirtual 97, 3) := by decide +kernel
theorem dX12_moveOf_67 : decode cX12_moveOf 67 = .ok (.ireturn, 1) := by decide +kernel
set_option maxRecDepth 100000 in
def f_X12_moveOf_20 (l0 : Nat) (μ : dtM) : Option (Int32 × dtM) :=
  (opRv 12 μ l0).bind fun _ => opCall (f_X12_refuse l0 (1 : Int32) μ) fun x4 μ2 => some (x4, μ2)
set_option maxRecDepth 100000 in
def f_X12_moveOf_67 (s0 : Int32) (μ : dtM) : Option (Int32 × dtM) :=
  some (s0, μ)
set_option maxRecDepth 100000 in
def f_X12_moveOf (p0 : Nat) (p1 : Int32) (p2 : Int32) (μ : dtM) : Option (Int32 × dtM) :=
  (opRv 12 μ p0).bind fun _ => opCall (f_X12_isPerson p0 p1 μ) fun x4 μ2 => if x4 = 0 then (f_X12_moveOf_20 p0 μ2) else (opCall (f_X12_isFrom (p2.toInt64) (1 : Int64) (4 : Int64) μ2) fun x10 μ8 => if x10 = 0 then (f_X12_moveOf_20 p0 μ8) else ((opRv 12 μ8 p0).bind fun _ => opCall (f_X12_playing p0 p1 p2 μ8) fun x17 μ15 => (opGR 12 32 μ15 p0).bind fun x18 => (opLI 1 μ15 x18 (0 : Int32)).bind fun x20 => (opGR 12 0 μ15 p0).bind fun x22 => (opLI 1 μ15 x22 (1 : Int32)).bind fun x24 => if x20 = x24 then ((opRv 12 μ15 p0).bind fun _ => opCall (f_X12_refuse p0 (6 : Int32) μ15) fun x40 μ38 => f_X12_moveOf_67 x40 μ38) else ((opGR 12 32 μ15 p0).bind fun x29 => (opLI 1 μ15 x29 (0 : Int32)).bind fun x31 => (opRv 12 μ15 p0).bind fun _ => opCall (f_X12_gives p0 x31 μ15) fun x36 μ34 => f_X12_moveOf_67 x36 μ34)))
set_option maxRecDepth 100000 in
theorem c_X12_moveOf_20 {r : Int32} {F : dtM} (l0 : Nat) (μ : dtM) (h : f_X12_moveOf_20 l0 μ = some (r, F)) : dtW yX12_moveOf cX12_moveOf 3 (some .int) 6 (some (.int r)) F 20 [some (.ref l0)] [] μ := by
  rw [f_X12_moveOf_20] at h
  refine dr_aload_n l0 dX12_moveOf_20 rfl ?_
  refine dr_iconst (1 : Int32) dX12_moveOf_21 (by decide) ?_
  obtain ⟨_, hb1, h⟩ := dtBind h
  obtain ⟨x4, μ2, e3, h⟩ := dtCall h
  refine dr_callV_i (S0 := []) [.int (1 : Int32)] x4 μ2 dX12_moveOf_22 (c_X12_refuse l0 (1 : Int32) μ e3) mf_X12_refuse wt_1552 ws_59 wt_1550 rfl (dtRv hb1) (by decide) rfl (Nat.le_of_ble_eq_true rfl) (Nat.le_of_ble_eq_true rfl) rfl ?_
  cases h
  exact dr_ireturn dX12_moveOf_25 rfl
set_option maxRecDepth 100000 in
theorem c_X12_moveOf_67 {r : Int32} {F : dtM} (s0 : Int32) (μ : dtM) (h : f_X12_moveOf_67 s0 μ = some (r, F)) : dtW yX12_moveOf cX12_moveOf 3 (some .int) 6 (some (.int r)) F 67 [] [.int s0] μ := by
  rw [f_X12_moveOf_67] at h
  cases h
  exact dr_ireturn dX12_moveOf_67 rfl
set_option maxRecDepth 100000 in
theorem c_X12_moveOf {r : Int32} {F : dtM} (p0 : Nat) (p1 : Int32) (p2 : Int32) (μ : dtM) (h : f_X12_moveOf p0 p1 p2 μ = some (r, F)) : dtMet yX12_moveOf cX12_moveOf 3 (some .int) 6 [.ref p0, .int p1, .int p2] μ (some (.int r)) F := by
  refine dtMet.of (by decide +kernel) (Nat.le_of_ble_eq_true rfl) (show dtW yX12_moveOf cX12_moveOf 3 (some .int) 6 (some (.int r)) F 0 [some (.ref p0), some (.int p1), some (.int p2)] [] μ from ?_)
  rw [f_X12_moveOf] at h
  refine dr_aload_n p0 dX12_moveOf_0 rfl ?_
  refine dr_iload_n p1 dX12_moveOf_1 rfl ?_
  obtain ⟨_, hb1, h⟩ := dtBind h
  obtain ⟨x4, μ2, e3, h⟩ := dtCall h
  refine dr_callV_i (S0 := []) [.int p1] x4 μ2 dX12_moveOf_2 (c_X12_isPerson p0 p1 μ e3) mf_X12_isPerson wt_1732 ws_95 wt_1730 rfl (dtRv hb1) (by decide) rfl (Nat.le_of_ble_eq_true rfl) (Nat.le_of_ble_eq_true rfl) rfl ?_
  obtain ⟨ht6, hf7⟩ := dtIte h
  refine dr_if_eq 20 dX12_moveOf_5 (by decide) (fun hc5 => ?_) (fun hc5 => ?_)
  · have h := ht6 hc5
    refine dr_mask [true] [some (.ref p0)] rfl ?_
    exact c_X12_moveOf_20 p0 μ2 h
  · have h := hf7 hc5
    refine dr_iload_n p2 dX12_moveOf_8 rfl ?_
    refine dr_i2l dX12_moveOf_9 ?_
    refine dr_lconst (1 : Int64) dX12_moveOf_10 (by decide) ?_
    refine dr_ldc2 (4 : Int64) dX12_moveOf_11 wt_1852 ?_
    obtain ⟨x10, μ8, e9, h⟩ := dtCall h
    refine dr_callS_i (S0 := []) [.long (p2.toInt64), .long (1 : Int64), .long (4 : Int64)] x10 μ8 dX12_moveOf_14 (c_X12_isFrom (p2.toInt64) (1 : Int64) (4 : Int64) μ2 e9) mf_X12_isFrom wt_1854 wt_1853 rfl (Nat.le_of_ble_eq_true rfl) (Nat.le_of_ble_eq_true rfl) rfl ?_
    obtain ⟨ht12, hf13⟩ := dtIte h
    refine dr_if_ne 26 dX12_moveOf_17 (by decide) (fun hc11 => ?_) (fun hc11 => ?_)
    · have h := hf13 hc11
      refine dr_aload_n p0 dX12_moveOf_26 rfl ?_
      refine dr_iload_n p1 dX12_moveOf_27 rfl ?_
      refine dr_iload_n p2 dX12_moveOf_28 rfl ?_
      obtain ⟨_, hb14, h⟩ := dtBind h
      obtain ⟨x17, μ15, e16, h⟩ := dtCall h
      refine dr_callV_i (S0 := []) [.int p1, .int p2] x17 μ15 dX12_moveOf_29 (c_X12_playing p0 p1 p2 μ8 e16) mf_X12_playing wt_1994 ws_124 wt_1992 rfl (dtRv hb14) (by decide) rfl (Nat.le_of_ble_eq_true rfl) (Nat.le_of_ble_eq_true rfl) rfl ?_
      refine dr_pop dX12_moveOf_32 rfl ?_
      refine dr_aload_n p0 dX12_moveOf_33 rfl ?_
      obtain ⟨x18, e19, h⟩ := dtBind h
      refine dr_getR x18 dX12_moveOf_34 fl_RX12_68 e19 ?_
      refine dr_iconst (0 : Int32) dX12_moveOf_37 (by decide) ?_
      obtain ⟨x20, e21, h⟩ := dtBind h
      refine dr_iaload x20 dX12_moveOf_38 e21 ?_
      refine dr_aload_n p0 dX12_moveOf_39 rfl ?_
      obtain ⟨x22, e23, h⟩ := dtBind h
      refine dr_getR x22 dX12_moveOf_40 fl_RX12_7 e23 ?_
      refine dr_iconst (1 : Int32) dX12_moveOf_43 (by decide) ?_
      obtain ⟨x24, e25, h⟩ := dtBind h
      refine dr_iaload x24 dX12_moveOf_44 e25 ?_
      obtain ⟨ht27, hf28⟩ := dtIte h
      refine dr_icmp_ne 57 dX12_moveOf_45 (by decide) (fun hc26 => ?_) (fun hc26 => ?_)
      · have h := hf28 hc26
        refine dr_aload_n p0 dX12_moveOf_57 rfl ?_
        refine dr_aload_n p0 dX12_moveOf_58 rfl ?_
        obtain ⟨x29, e30, h⟩ := dtBind h
        refine dr_getR x29 dX12_moveOf_59 fl_RX12_68 e30 ?_
        refine dr_iconst (0 : Int32) dX12_moveOf_62 (by decide) ?_
        obtain ⟨x31, e32, h⟩ := dtBind h
        refine dr_iaload x31 dX12_moveOf_63 e32 ?_
        obtain ⟨_, hb33, h⟩ := dtBind h
        obtain ⟨x36, μ34, e35, h⟩ := dtCall h
        refine dr_callV_i (S0 := []) [.int x31] x36 μ34 dX12_moveOf_64 (c_X12_gives p0 x31 μ15 e35) mf_X12_gives wt_1668 ws_85 wt_1666 rfl (dtRv hb33) (by decide) rfl (Nat.le_of_ble_eq_true rfl) (Nat.le_of_ble_eq_true rfl) rfl ?_
        refine dr_mask [] [] rfl ?_
        exact c_X12_moveOf_67 x36 μ34 h
      · have h := ht27 hc26
        refine dr_aload_n p0 dX12_moveOf_48 rfl ?_
        refine dr_bipush (6 : Int32) dX12_moveOf_49 (by decide) ?_
        obtain ⟨_, hb37, h⟩ := dtBind h
        obtain ⟨x40, μ38, e39, h⟩ := dtCall h
        refine dr_callV_i (S0 := []) [.int (6 : Int32)] x40 μ38 dX12_moveOf_51 (c_X12_refuse p0 (6 : Int32) μ15 e39) mf_X12_refuse wt_1552 ws_59 wt_1550 rfl (dtRv hb37) (by decide) rfl (Nat.le_of_ble_eq_true rfl) (Nat.le_of_ble_eq_true rfl) rfl ?_
        refine dr_goto 67 dX12_moveOf_54 (by decide) ?_
        refine dr_mask [] [] rfl ?_
        exact c_X12_moveOf_67 x40 μ38 h
    · have h := ht12 hc11
      refine dr_mask [true] [some (.ref p0)] rfl ?_
      exact c_X12_moveOf_20 p0 μ8 h
/-! X12_gale -/
theorem dX12_gale_0 : decode cX12_gale 0 = .ok (.iload_n 1, 1) := by decide +kernel
theorem dX12_gale_1 : decode cX12_gale 1 = .ok (.i2l, 1) := by decide +kernel
theorem dX12_gale_2 : decode cX12_gale 2 = .ok (.lconst 0, 1) := by decide +kernel
theorem dX12_gale_3 : decode cX12_gale 3 = .ok (.ldc2_w 431, 3) := by decide +kernel
theorem dX12_gale_6 : decode cX12_gale 6 = .ok (.invokestatic 366, 3) := by decide +kernel
theorem dX12_gale_9 : decode cX12_gale 9 = .ok (.ifCond .eq 15, 3) := by decide +kernel
theorem dX12_gale_12 : decode cX12_gale 12 = .ok (.iload_n 2, 1) := by decide +kernel
theorem dX12_gale_13 : decode cX12_gale 13 = .ok (.i2l, 1) := by decide +kernel
theorem dX12_gale_14 : decode cX12_gale 14 = .ok (.lconst 0, 1) := by decide +kernel
theorem dX12_gale_15 : decode cX12_gale 15 = .ok (.ldc2_w 431, 3) := by decide +kernel
theorem dX12_gale_18 : decode cX12_gale 18 = .ok (.invokestatic 366, 3) := by decide +kernel
theorem dX12_gale_21 : decode cX12_gale 21 = .ok (.ifCond .ne 9, 3) := by decide +kernel
theorem dX12_gale_24 : decode cX12_gale 24 = .ok (.aload_n 0, 1) := by decide +kernel
theorem dX12_gale_25 : decode cX12_gale 25 = .ok (.iconst 1, 1) := by decide +kernel
theorem dX12_gale_26 : decode cX12_gale 26 = .ok (.invokevirtual 100, 3) := by decide +kernel
theorem dX12_gale_29 : decode cX12_gale 29 = .ok (.ireturn, 1) := by decide +kernel
theorem dX12_gale_30 : decode cX12_gale 30 = .ok (.lconst 1, 1) := by decide +kernel
theorem dX12_gale_31 : decode cX12_gale 31 = .ok (.lstore_n 3, 1) := by decide +kernel
theorem dX12_gale_32 : decode cX12_gale 32 = .ok (.iconst 0, 1) := by decide +kernel
theorem dX12_gale_33 : decode cX12_gale 33 = .ok (.istore 5, 2) := by decide +kernel
theorem dX12_gale_35 : decode cX12_gale 35 = .ok (.iload 5, 2) := by decide +kernel
theorem dX12_gale_37 : decode cX12_gale 37 = .ok (.bipush 13, 2) := by decide +kernel
theorem dX12_gale_39 : decode cX12_gale 39 = .ok (.if_icmp .ge 26, 3) := by decide +kernel
theorem dX12_gale_42 : decode cX12_gale 42 = .ok (.aload_n 0, 1) := by decide +kernel
theorem dX12_gale_43 : decode cX12_gale 43 = .ok (.getfield 71, 3) := by decide +kernel
theorem dX12_gale_46 : decode cX12_gale 46 = .ok (.iload 5, 2) := by decide +kernel
theorem dX12_gale_48 : decode cX12_gale 48 = .ok (.iload 5, 2) := by decide +kernel
theorem dX12_gale_50 : decode cX12_gale 50 = .ok (.ifCond .ne 7, 3) := by decide +kernel
theorem dX12_gale_53 : decode cX12_gale 53 = .ok (.lconst 1, 1) := by decide +kernel
theorem dX12_gale_54 : decode cX12_gale 54 = .ok (.goto 4, 3) := by decide +kernel
theorem dX12_gale_57 : decode cX12_gale 57 = .ok (.lconst 0, 1) := by decide +kernel
theorem dX12_gale_58 : decode cX12_gale 58 = .ok (.lastore, 1) := by decide +kernel
theorem dX12_gale_59 : decode cX12_gale 59 = .ok (.iinc 5 1, 3) := by decide +kernel
theorem dX12_gale_62 : decode cX12_gale 62 = .ok (.goto (-27), 3) := by decide +kernel
theorem dX12_gale_65 : decode cX12_gale 65 = .ok (.iconst 0, 1) := by decide +kernel
theorem dX12_gale_66 : decode cX12_gale 66 = .ok (.istore 5, 2) := by decide +kernel
theorem dX12_gale_68 : decode cX12_gale 68 = .ok (.iload 5, 2) := by decide +kernel
theorem dX12_gale_70 : decode cX12_gale 70 = .ok (.iload_n 1, 1) := by decide +kernel
theorem dX12_gale_71 : decode cX12_gale 71 = .ok (.if_icmp .ge 82, 3) := by decide +kernel
theorem dX12_gale_74 : decode cX12_gale 74 = .ok (.bipush 12, 2) := by decide +kernel
theorem dX12_gale_76 : decode cX12_gale 76 = .ok (.istore 6, 2) := by decide +kernel
theorem dX12_gale_78 : decode cX12_gale 78 = .ok (.iload 6, 2) := by decide +kernel
theorem dX12_gale_80 : decode cX12_gale 80 = .ok (.ifCond .lt 61, 3) := by decide +kernel
theorem dX12_gale_83 : decode cX12_gale 83 = .ok (.aload_n 0, 1) := by decide +kernel
theorem dX12_gale_84 : decode cX12_gale 84 = .ok (.getfield 71, 3) := by decide +kernel
theorem dX12_gale_87 : decode cX12_gale 87 = .ok (.iload 6, 2) := by decide +kernel
theorem dX12_gale_89 : decode cX12_gale 89 = .ok (.aload_n 0, 1) := by decide +kernel
theorem dX12_gale_90 : decode cX12_gale 90 = .ok (.getfield 71, 3) := by decide +kernel
theorem dX12_gale_93 : decode cX12_gale 93 = .ok (.iload 6, 2) := by decide +kernel
theorem dX12_gale_95 : decode cX12_gale 95 = .ok (.laload, 1) := by decide +kernel
theorem dX12_gale_96 : decode cX12_gale 96 = .ok (.bipush 16, 2) := by decide +kernel
theorem dX12_gale_98 : decode cX12_gale 98 = .ok (.aload_n 0, 1) := by decide +kernel
theorem dX12_gale_99 : decode cX12_gale 99 = .ok (.getfield 7, 3) := by decide +kernel
theorem dX12_gale_102 : decode cX12_gale 102 = .ok (.iconst 4, 1) := by decide +kernel
theorem dX12_gale_103 : decode cX12_gale 103 = .ok (.iaload, 1) := by decide +kernel
theorem dX12_gale_104 : decode cX12_gale 104 = .ok (.isub, 1) := by decide +kernel
theorem dX12_gale_105 : decode cX12_gale 105 = .ok (.i2l, 1) := by decide +kernel
theorem dX12_gale_106 : decode cX12_gale 106 = .ok (.lmul, 1) := by decide +kernel
theorem dX12_gale_107 : decode cX12_gale 107 = .ok (.iload 6, 2) := by decide +kernel
theorem dX12_gale_109 : decode cX12_gale 109 = .ok (.ifCond .ne 7, 3) := by decide +kernel
theorem dX12_gale_112 : decode cX12_gale 112 = .ok (.lconst 0, 1) := by decide +kernel
theorem dX12_gale_113 : decode cX12_gale 113 = .ok (.goto 20, 3) := by decide +kernel
theorem dX12_gale_116 : decode cX12_gale 116 = .ok (.aload_n 0, 1) := by decide +kernel
theorem dX12_gale_117 : decode cX12_gale 117 = .ok (.getfield 71, 3) := by decide +kernel
theorem dX12_gale_120 : decode cX12_gale 120 = .ok (.iload 6, 2) := by decide +kernel
theorem dX12_gale_122 : decode cX12_gale 122 = .ok (.iconst 1, 1) := by decide +kernel
theorem dX12_gale_123 : decode cX12_gale 123 = .ok (.isub, 1) := by decide +kernel
theorem dX12_gale_124 : decode cX12_gale 124 = .ok (.laload, 1) := by decide +kernel
theorem dX12_gale_125 : decode cX12_gale 125 = .ok (.aload_n 0, 1) := by decide +kernel
theorem dX12_gale_126 : decode cX12_gale 126 = .ok (.getfield 7, 3) := by decide +kernel
theorem dX12_gale_129 : decode cX12_gale 129 = .ok (.iconst 4, 1) := by decide +kernel
theorem dX12_gale_130 : decode cX12_gale 130 = .ok (.iaload, 1) := by decide +kernel
theorem dX12_gale_131 : decode cX12_gale 131 = .ok (.i2l, 1) := by decide +kernel
theorem dX12_gale_132 : decode cX12_gale 132 = .ok (.lmul, 1) := by decide +kernel
theorem dX12_gale_133 : decode cX12_gale 133 = .ok (.ladd, 1) := by decide +kernel
theorem dX12_gale_134 : decode cX12_gale 134 = .ok (.lastore, 1) := by decide +kernel
theorem dX12_gale_135 : decode cX12_gale 135 = .ok (.iinc 6 (-1), 3) := by decide +kernel
theorem dX12_gale_138 : decode cX12_gale 138 = .ok (.goto (-60), 3) := by decide +kernel
theorem dX12_gale_141 : decode cX12_gale 141 = .ok (.lload_n 3, 1) := by decide +kernel
theorem dX12_gale_142 : decode cX12_gale 142 = .ok (.ldc2_w 374, 3) := by decide +kernel
theorem dX12_gale_145 : decode cX12_gale 145 = .ok (.lmul, 1) := by decide +kernel
theorem dX12_gale_146 : decode cX12_gale 146 = .ok (.lstore_n 3, 1) := by decide +kernel
theorem dX12_gale_147 : decode cX12_gale 147 = .ok (.iinc 5 1, 3) := by decide +kernel
theorem dX12_gale_150 : decode cX12_gale 150 = .ok (.goto (-82), 3) := by decide +kernel
theorem dX12_gale_153 : decode cX12_gale 153 = .ok (.lconst 0, 1) := by decide +kernel
theorem dX12_gale_154 : decode cX12_gale 154 = .ok (.lstore 5, 2) := by decide +kernel
theorem dX12_gale_156 : decode cX12_gale 156 = .ok (.iload_n 2, 1) := by decide +kernel
theorem dX12_gale_157 : decode cX12_gale 157 = .ok (.istore 7, 2) := by decide +kernel
theorem dX12_gale_159 : decode cX12_gale 159 = .ok (.iload 7, 2) := by decide +kernel
theorem dX12_gale_161 : decode cX12_gale 161 = .ok (.bipush 13, 2) := by decide +kernel
theorem dX12_gale_163 : decode cX12_gale 163 = .ok (.if_icmp .ge 21, 3) := by decide +kernel
theorem dX12_gale_166 : decode cX12_gale 166 = .ok (.lload 5, 2) := by decide +kernel
theorem dX12_gale_168 : decode cX12_gale 168 = .ok (.aload_n 0, 1) := by decide +kernel
theorem dX12_gale_169 : decode cX12_gale 169 = .ok (.getfield 71, 3) := by decide +kernel
theorem dX12_gale_172 : decode cX12_gale 172 = .ok (.iload 7, 2) := by decide +kernel
theorem dX12_gale_174 : decode cX12_gale 174 = .ok (.laload, 1) := by decide +kernel
theorem dX12_gale_175 : decode cX12_gale 175 = .ok (.ladd, 1) := by decide +kernel
theorem dX12_gale_176 : decode cX12_gale 176 = .ok (.lstore 5, 2) := by decide +kernel
theorem dX12_gale_178 : decode cX12_gale 178 = .ok (.iinc 7 1, 3) := by decide +kernel
theorem dX12_gale_181 : decode cX12_gale 181 = .ok (.goto (-22), 3) := by decide +kernel
theorem dX12_gale_184 : decode cX12_gale 184 = .ok (.aload_n 0, 1) := by decide +kernel
theorem dX12_gale_185 : decode cX12_gale 185 = .ok (.lload 5, 2) := by decide +kernel
theorem dX12_gale_187 : decode cX12_gale 187 = .ok (.lload_n 3, 1) := by decide +kernel
theorem dX12_gale_188 : decode cX12_gale 188 = .ok (.invokevirtual 433, 3) := by decide +kernel
theorem dX12_gale_191 : decode cX12_gale 191 = .ok (.ireturn, 1) := by decide +kernel
set_option maxRecDepth 100000 in
def f_X12_gale_24 (l0 : Nat) (μ : dtM) : Option (Int32 × dtM) :=
  (opRv 12 μ l0).bind fun _ => opCall (f_X12_is l0 (1 : Int32) μ) fun x4 μ2 => opRet x4 μ2
set_option maxRecDepth 100000 in
def f_X12_gale_159 : Nat → Nat → Int64 → Int64 → Int32 → dtM → Option (Int32 × dtM)
  | 0, _, _, _, _, _ => none
  | n + 1, l0, l3, l5, l7, μ =>
    if (13 : Int32) ≤ l7 then ((opRv 12 μ l0).bind fun _ => opCall (f_X12_tellsBy l0 l5 l3 μ) fun x7 μ5 => opRet x7 μ5) else ((opGR 12 33 μ l0).bind fun x8 => (opLJ 3 μ x8 l7).bind fun x10 => (some (l5 + x10)).bind fun x12 => f_X12_gale_159 n l0 l3 x12 (l7 + 1) μ)
set_option maxRecDepth 100000 in
def f_X12_gale_133 (k68 : Nat → Int32 → Int32 → Int64 → Int32 → dtM → Option (Int32 × dtM)) (k78 : Nat → Int32 → Int32 → Int64 → Int32 → Int32 → dtM → Option (Int32 × dtM)) (l0 : Nat) (l1 : Int32) (l2 : Int32) (l3 : Int64) (l5 : Int32) (l6 : Int32) (s0 : Nat) (s1 : Int32) (s2 : Int64) (s3 : Int64) (μ : dtM) : Option (Int32 × dtM) :=
  (opSJ μ s0 s1 (s2 + s3)).bind fun μ1 => k78 l0 l1 l2 l3 l5 (l6 + (-1)) μ1
set_option maxRecDepth 100000 in
def f_X12_gale_78 (k68 : Nat → Int32 → Int32 → Int64 → Int32 → dtM → Option (Int32 × dtM)) : Nat → Nat → Int32 → Int32 → Int64 → Int32 → Int32 → dtM → Option (Int32 × dtM)
  | 0, _, _, _, _, _, _, _ => none
  | n + 1, l0, l1, l2, l3, l5, l6, μ =>
    if l6 < 0 then ((some (l3 * (16 : Int64))).bind fun x4 => k68 l0 l1 l2 x4 (l5 + 1) μ) else ((opGR 12 33 μ l0).bind fun x6 => (opGR 12 33 μ l0).bind fun x8 => (opLJ 3 μ x8 l6).bind fun x10 => (opGR 12 0 μ l0).bind fun x12 => (opLI 1 μ x12 (4 : Int32)).bind fun x14 => if l6 = 0 then (f_X12_gale_133 k68 (f_X12_gale_78 k68 n) l0 l1 l2 l3 l5 l6 x6 l6 (x10 * (((16 : Int32) - x14).toInt64)) (0 : Int64) μ) else ((opGR 12 33 μ l0).bind fun x19 => (opLJ 3 μ x19 (l6 - (1 : Int32))).bind fun x21 => (opGR 12 0 μ l0).bind fun x23 => (opLI 1 μ x23 (4 : Int32)).bind fun x25 => f_X12_gale_133 k68 (f_X12_gale_78 k68 n) l0 l1 l2 l3 l5 l6 x6 l6 (x10 * (((16 : Int32) - x14).toInt64)) (x21 * (x25.toInt64)) μ))
set_option maxRecDepth 100000 in
def f_X12_gale_68 : Nat → Nat → Int32 → Int32 → Int64 → Int32 → dtM → Option (Int32 × dtM)
  | 0, _, _, _, _, _, _ => none
  | n + 1, l0, l1, l2, l3, l5, μ =>
    if l1 ≤ l5 then (f_X12_gale_159 dtFuel l0 l3 (0 : Int64) l2 μ) else (f_X12_gale_78 (f_X12_gale_68 n) dtFuel l0 l1 l2 l3 l5 (12 : Int32) μ)
set_option maxRecDepth 100000 in
def f_X12_gale_58 (k35 : Nat → Int32 → Int32 → Int64 → Int32 → dtM → Option (Int32 × dtM)) (l0 : Nat) (l1 : Int32) (l2 : Int32) (l3 : Int64) (l5 : Int32) (s0 : Nat) (s1 : Int32) (s2 : Int64) (μ : dtM) : Option (Int32 × dtM) :=
  (opSJ μ s0 s1 s2).bind fun μ1 => k35 l0 l1 l2 l3 (l5 + 1) μ1
set_option maxRecDepth 100000 in
def f_X12_gale_35 : Nat → Nat → Int32 → Int32 → Int64 → Int32 → dtM → Option (Int32 × dtM)
  | 0, _, _, _, _, _, _ => none
  | n + 1, l0, l1, l2, l3, l5, μ =>
    if (13 : Int32) ≤ l5 then (f_X12_gale_68 dtFuel l0 l1 l2 l3 (0 : Int32) μ) else ((opGR 12 33 μ l0).bind fun x4 => if l5 = 0 then (f_X12_gale_58 (f_X12_gale_35 n) l0 l1 l2 l3 l5 x4 l5 (1 : Int64) μ) else (f_X12_gale_58 (f_X12_gale_35 n) l0 l1 l2 l3 l5 x4 l5 (0 : Int64) μ))
set_option maxRecDepth 100000 in
def f_X12_gale (p0 : Nat) (p1 : Int32) (p2 : Int32) (μ : dtM) : Option (Int32 × dtM) :=
  opCall (f_X12_isFrom (p1.toInt64) (0 : Int64) (12 : Int64) μ) fun x3 μ1 => if x3 = 0 then (f_X12_gale_24 p0 μ1) else (opCall (f_X12_isFrom (p2.toInt64) (0 : Int64) (12 : Int64) μ1) fun x9 μ7 => if x9 = 0 then (f_X12_gale_24 p0 μ7) else (f_X12_gale_35 dtFuel p0 p1 p2 (1 : Int64) (0 : Int32) μ7))
set_option maxRecDepth 100000 in
theorem c_X12_gale_24 {r : Int32} {F : dtM} (l0 : Nat) (μ : dtM) (h : f_X12_gale_24 l0 μ = some (r, F)) : dtW yX12_gale cX12_gale 8 (some .boolean) 3 (some (.int r)) F 24 [some (.ref l0)] [] μ := by
  rw [f_X12_gale_24] at h
  refine dr_aload_n l0 dX12_gale_24 rfl ?_
  refine dr_iconst (1 : Int32) dX12_gale_25 (by decide) ?_
  obtain ⟨_, hb1, h⟩ := dtBind h
  obtain ⟨x4, μ2, e3, h⟩ := dtCall h
  refine dr_callV_i (S0 := []) [.int (1 : Int32)] x4 μ2 dX12_gale_26 (c_X12_is l0 (1 : Int32) μ e3) mf_X12_is wt_1492 ws_53 wt_1490 rfl (dtRv hb1) (by decide) rfl (Nat.le_of_ble_eq_true rfl) (Nat.le_of_ble_eq_true rfl) rfl ?_
  obtain ⟨hz, rfl, rfl⟩ := dtRet h
  exact dr_ireturn dX12_gale_29 (dtNz hz)
set_option maxRecDepth 100000 in
theorem c_X12_gale_159 {r : Int32} {F : dtM} : ∀ (n : Nat) (l0 : Nat) (l3 : Int64) (l5 : Int64) (l7 : Int32) (μ : dtM), f_X12_gale_159 n l0 l3 l5 l7 μ = some (r, F) → dtW yX12_gale cX12_gale 8 (some .boolean) 3 (some (.int r)) F 159 [some (.ref l0), none, none, some (.long l3), none, some (.long l5), none, some (.int l7)] [] μ := by
  intro n
  induction n with
  | zero => intro l0 l3 l5 l7 μ h; cases h
  | succ n ih =>
    intro l0 l3 l5 l7 μ h
    have h := (show f_X12_gale_159 (n + 1) l0 l3 l5 l7 μ = some _ from h)
    rw [f_X12_gale_159] at h
    refine dr_iload l7 dX12_gale_159 rfl ?_
    refine dr_bipush (13 : Int32) dX12_gale_161 (by decide) ?_
    obtain ⟨ht2, hf3⟩ := dtIte h
    refine dr_icmp_ge 184 dX12_gale_163 (by decide) (fun hc1 => ?_) (fun hc1 => ?_)
    · have h := ht2 hc1
      refine dr_aload_n l0 dX12_gale_184 rfl ?_
      refine dr_lload l5 dX12_gale_185 rfl ?_
      refine dr_lload_n l3 dX12_gale_187 rfl ?_
      obtain ⟨_, hb4, h⟩ := dtBind h
      obtain ⟨x7, μ5, e6, h⟩ := dtCall h
      refine dr_callV_i (S0 := []) [.long l5, .long l3] x7 μ5 dX12_gale_188 (c_X12_tellsBy l0 l5 l3 μ e6) mf_X12_tellsBy wt_2015 ws_127 wt_2013 rfl (dtRv hb4) (by decide) rfl (Nat.le_of_ble_eq_true rfl) (Nat.le_of_ble_eq_true rfl) rfl ?_
      obtain ⟨hz, rfl, rfl⟩ := dtRet h
      exact dr_ireturn dX12_gale_191 (dtNz hz)
    · have h := hf3 hc1
      refine dr_lload l5 dX12_gale_166 rfl ?_
      refine dr_aload_n l0 dX12_gale_168 rfl ?_
      obtain ⟨x8, e9, h⟩ := dtBind h
      refine dr_getR x8 dX12_gale_169 fl_RX12_71 e9 ?_
      refine dr_iload l7 dX12_gale_172 rfl ?_
      obtain ⟨x10, e11, h⟩ := dtBind h
      refine dr_laload x10 dX12_gale_174 e11 ?_
      refine dr_ladd dX12_gale_175 ?_
      obtain ⟨x12, e13, h⟩ := dtBind h
      refine dr_nmj e13 ?_
      refine dr_lstore [some (.ref l0), none, none, some (.long l3), none, some (.long x12), none, some (.int l7)] dX12_gale_176 rfl rfl rfl ?_
      refine dr_iinc l7 (l7 + 1) [some (.ref l0), none, none, some (.long l3), none, some (.long x12), none, some (.int (l7 + 1))] dX12_gale_178 rfl rfl rfl rfl rfl ?_
      refine dr_goto 159 dX12_gale_181 (by decide) ?_
      exact ih l0 l3 x12 (l7 + 1) μ h
set_option maxRecDepth 100000 in
theorem c_X12_gale_133 {r : Int32} {F : dtM} (k68 : Nat → Int32 → Int32 → Int64 → Int32 → dtM → Option (Int32 × dtM)) (k78 : Nat → Int32 → Int32 → Int64 → Int32 → Int32 → dtM → Option (Int32 × dtM)) (hk68 : ∀ (l0 : Nat) (l1 : Int32) (l2 : Int32) (l3 : Int64) (l5 : Int32) (μ : dtM), k68 l0 l1 l2 l3 l5 μ = some (r, F) → dtW yX12_gale cX12_gale 8 (some .boolean) 3 (some (.int r)) F 68 [some (.ref l0), some (.int l1), some (.int l2), some (.long l3), none, some (.int l5)] [] μ) (hk78 : ∀ (l0 : Nat) (l1 : Int32) (l2 : Int32) (l3 : Int64) (l5 : Int32) (l6 : Int32) (μ : dtM), k78 l0 l1 l2 l3 l5 l6 μ = some (r, F) → dtW yX12_gale cX12_gale 8 (some .boolean) 3 (some (.int r)) F 78 [some (.ref l0), some (.int l1), some (.int l2), some (.long l3), none, some (.int l5), some (.int l6)] [] μ) (l0 : Nat) (l1 : Int32) (l2 : Int32) (l3 : Int64) (l5 : Int32) (l6 : Int32) (s0 : Nat) (s1 : Int32) (s2 : Int64) (s3 : Int64) (μ : dtM) (h : f_X12_gale_133 k68 k78 l0 l1 l2 l3 l5 l6 s0 s1 s2 s3 μ = some (r, F)) : dtW yX12_gale cX12_gale 8 (some .boolean) 3 (some (.int r)) F 133 [some (.ref l0), some (.int l1), some (.int l2), some (.long l3), none, some (.int l5), some (.int l6)] [.long s3, .long s2, .int s1, .ref s0] μ := by
  rw [f_X12_gale_133] at h
  refine dr_ladd dX12_gale_133 ?_
  obtain ⟨μ1, e2, h⟩ := dtBind h
  refine dr_lastore μ1 dX12_gale_134 e2 ?_
  refine dr_iinc l6 (l6 + (-1)) [some (.ref l0), some (.int l1), some (.int l2), some (.long l3), none, some (.int l5), some (.int (l6 + (-1)))] dX12_gale_135 rfl rfl rfl rfl rfl ?_
  refine dr_goto 78 dX12_gale_138 (by decide) ?_
  exact hk78 l0 l1 l2 l3 l5 (l6 + (-1)) μ1 h
set_option maxRecDepth 100000 in
theorem c_X12_gale_78 {r : Int32} {F : dtM} (k68 : Nat → Int32 → Int32 → Int64 → Int32 → dtM → Option (Int32 × dtM)) (hk68 : ∀ (l0 : Nat) (l1 : Int32) (l2 : Int32) (l3 : Int64) (l5 : Int32) (μ : dtM), k68 l0 l1 l2 l3 l5 μ = some (r, F) → dtW yX12_gale cX12_gale 8 (some .boolean) 3 (some (.int r)) F 68 [some (.ref l0), some (.int l1), some (.int l2), some (.long l3), none, some (.int l5)] [] μ) : ∀ (n : Nat) (l0 : Nat) (l1 : Int32) (l2 : Int32) (l3 : Int64) (l5 : Int32) (l6 : Int32) (μ : dtM), f_X12_gale_78 k68 n l0 l1 l2 l3 l5 l6 μ = some (r, F) → dtW yX12_gale cX12_gale 8 (some .boolean) 3 (some (.int r)) F 78 [some (.ref l0), some (.int l1), some (.int l2), some (.long l3), none, some (.int l5), some (.int l6)] [] μ := by
  intro n
  induction n with
  | zero => intro l0 l1 l2 l3 l5 l6 μ h; cases h
  | succ n ih =>
    intro l0 l1 l2 l3 l5 l6 μ h
    have h := (show f_X12_gale_78 k68 (n + 1) l0 l1 l2 l3 l5 l6 μ = some _ from h)
    rw [f_X12_gale_78] at h
    refine dr_iload l6 dX12_gale_78 rfl ?_
    obtain ⟨ht2, hf3⟩ := dtIte h
    refine dr_if_lt 141 dX12_gale_80 (by decide) (fun hc1 => ?_) (fun hc1 => ?_)
    · have h := ht2 hc1
      refine dr_lload_n l3 dX12_gale_141 rfl ?_
      refine dr_ldc2 (16 : Int64) dX12_gale_142 wt_1874 ?_
      refine dr_lmul dX12_gale_145 ?_
      obtain ⟨x4, e5, h⟩ := dtBind h
      refine dr_nmj e5 ?_
      refine dr_lstore_n 3 [some (.ref l0), some (.int l1), some (.int l2), some (.long x4), none, some (.int l5), some (.int l6)] dX12_gale_146 rfl rfl rfl rfl ?_
      refine dr_iinc l5 (l5 + 1) [some (.ref l0), some (.int l1), some (.int l2), some (.long x4), none, some (.int (l5 + 1)), some (.int l6)] dX12_gale_147 rfl rfl rfl rfl rfl ?_
      refine dr_goto 68 dX12_gale_150 (by decide) ?_
      refine dr_mask [true, true, true, true, false, true] [some (.ref l0), some (.int l1), some (.int l2), some (.long x4), none, some (.int (l5 + 1))] rfl ?_
      exact hk68 l0 l1 l2 x4 (l5 + 1) μ h
    · have h := hf3 hc1
      refine dr_aload_n l0 dX12_gale_83 rfl ?_
      obtain ⟨x6, e7, h⟩ := dtBind h
      refine dr_getR x6 dX12_gale_84 fl_RX12_71 e7 ?_
      refine dr_iload l6 dX12_gale_87 rfl ?_
      refine dr_aload_n l0 dX12_gale_89 rfl ?_
      obtain ⟨x8, e9, h⟩ := dtBind h
      refine dr_getR x8 dX12_gale_90 fl_RX12_71 e9 ?_
      refine dr_iload l6 dX12_gale_93 rfl ?_
      obtain ⟨x10, e11, h⟩ := dtBind h
      refine dr_laload x10 dX12_gale_95 e11 ?_
      refine dr_bipush (16 : Int32) dX12_gale_96 (by decide) ?_
      refine dr_aload_n l0 dX12_gale_98 rfl ?_
      obtain ⟨x12, e13, h⟩ := dtBind h
      refine dr_getR x12 dX12_gale_99 fl_RX12_7 e13 ?_
      refine dr_iconst (4 : Int32) dX12_gale_102 (by decide) ?_
      obtain ⟨x14, e15, h⟩ := dtBind h
      refine dr_iaload x14 dX12_gale_103 e15 ?_
      refine dr_isub dX12_gale_104 ?_
      refine dr_i2l dX12_gale_105 ?_
      refine dr_lmul dX12_gale_106 ?_
      refine dr_iload l6 dX12_gale_107 rfl ?_
      obtain ⟨ht17, hf18⟩ := dtIte h
      refine dr_if_ne 116 dX12_gale_109 (by decide) (fun hc16 => ?_) (fun hc16 => ?_)
      · have h := hf18 hc16
        refine dr_aload_n l0 dX12_gale_116 rfl ?_
        obtain ⟨x19, e20, h⟩ := dtBind h
        refine dr_getR x19 dX12_gale_117 fl_RX12_71 e20 ?_
        refine dr_iload l6 dX12_gale_120 rfl ?_
        refine dr_iconst (1 : Int32) dX12_gale_122 (by decide) ?_
        refine dr_isub dX12_gale_123 ?_
        obtain ⟨x21, e22, h⟩ := dtBind h
        refine dr_laload x21 dX12_gale_124 e22 ?_
        refine dr_aload_n l0 dX12_gale_125 rfl ?_
        obtain ⟨x23, e24, h⟩ := dtBind h
        refine dr_getR x23 dX12_gale_126 fl_RX12_7 e24 ?_
        refine dr_iconst (4 : Int32) dX12_gale_129 (by decide) ?_
        obtain ⟨x25, e26, h⟩ := dtBind h
        refine dr_iaload x25 dX12_gale_130 e26 ?_
        refine dr_i2l dX12_gale_131 ?_
        refine dr_lmul dX12_gale_132 ?_
        exact c_X12_gale_133 k68 (f_X12_gale_78 k68 n) hk68 ih l0 l1 l2 l3 l5 l6 x6 l6 (x10 * (((16 : Int32) - x14).toInt64)) (x21 * (x25.toInt64)) μ h
      · have h := ht17 hc16
        refine dr_lconst (0 : Int64) dX12_gale_112 (by decide) ?_
        refine dr_goto 133 dX12_gale_113 (by decide) ?_
        exact c_X12_gale_133 k68 (f_X12_gale_78 k68 n) hk68 ih l0 l1 l2 l3 l5 l6 x6 l6 (x10 * (((16 : Int32) - x14).toInt64)) (0 : Int64) μ h
set_option maxRecDepth 100000 in
theorem c_X12_gale_68 {r : Int32} {F : dtM} : ∀ (n : Nat) (l0 : Nat) (l1 : Int32) (l2 : Int32) (l3 : Int64) (l5 : Int32) (μ : dtM), f_X12_gale_68 n l0 l1 l2 l3 l5 μ = some (r, F) → dtW yX12_gale cX12_gale 8 (some .boolean) 3 (some (.int r)) F 68 [some (.ref l0), some (.int l1), some (.int l2), some (.long l3), none, some (.int l5)] [] μ := by
  intro n
  induction n with
  | zero => intro l0 l1 l2 l3 l5 μ h; cases h
  | succ n ih =>
    intro l0 l1 l2 l3 l5 μ h
    have h := (show f_X12_gale_68 (n + 1) l0 l1 l2 l3 l5 μ = some _ from h)
    rw [f_X12_gale_68] at h
    refine dr_iload l5 dX12_gale_68 rfl ?_
    refine dr_iload_n l1 dX12_gale_70 rfl ?_
    obtain ⟨ht2, hf3⟩ := dtIte h
    refine dr_icmp_ge 153 dX12_gale_71 (by decide) (fun hc1 => ?_) (fun hc1 => ?_)
    · have h := ht2 hc1
      refine dr_lconst (0 : Int64) dX12_gale_153 (by decide) ?_
      refine dr_lstore [some (.ref l0), some (.int l1), some (.int l2), some (.long l3), none, some (.long (0 : Int64)), none] dX12_gale_154 rfl rfl rfl ?_
      refine dr_iload_n l2 dX12_gale_156 rfl ?_
      refine dr_istore [some (.ref l0), some (.int l1), some (.int l2), some (.long l3), none, some (.long (0 : Int64)), none, some (.int l2)] dX12_gale_157 rfl rfl rfl ?_
      refine dr_mask [true, false, false, true, false, true, false, true] [some (.ref l0), none, none, some (.long l3), none, some (.long (0 : Int64)), none, some (.int l2)] rfl ?_
      exact c_X12_gale_159 dtFuel l0 l3 (0 : Int64) l2 μ h
    · have h := hf3 hc1
      refine dr_bipush (12 : Int32) dX12_gale_74 (by decide) ?_
      refine dr_istore [some (.ref l0), some (.int l1), some (.int l2), some (.long l3), none, some (.int l5), some (.int (12 : Int32))] dX12_gale_76 rfl rfl rfl ?_
      exact c_X12_gale_78 (f_X12_gale_68 n) ih dtFuel l0 l1 l2 l3 l5 (12 : Int32) μ h
set_option maxRecDepth 100000 in
theorem c_X12_gale_58 {r : Int32} {F : dtM} (k35 : Nat → Int32 → Int32 → Int64 → Int32 → dtM → Option (Int32 × dtM)) (hk35 : ∀ (l0 : Nat) (l1 : Int32) (l2 : Int32) (l3 : Int64) (l5 : Int32) (μ : dtM), k35 l0 l1 l2 l3 l5 μ = some (r, F) → dtW yX12_gale cX12_gale 8 (some .boolean) 3 (some (.int r)) F 35 [some (.ref l0), some (.int l1), some (.int l2), some (.long l3), none, some (.int l5)] [] μ) (l0 : Nat) (l1 : Int32) (l2 : Int32) (l3 : Int64) (l5 : Int32) (s0 : Nat) (s1 : Int32) (s2 : Int64) (μ : dtM) (h : f_X12_gale_58 k35 l0 l1 l2 l3 l5 s0 s1 s2 μ = some (r, F)) : dtW yX12_gale cX12_gale 8 (some .boolean) 3 (some (.int r)) F 58 [some (.ref l0), some (.int l1), some (.int l2), some (.long l3), none, some (.int l5)] [.long s2, .int s1, .ref s0] μ := by
  rw [f_X12_gale_58] at h
  obtain ⟨μ1, e2, h⟩ := dtBind h
  refine dr_lastore μ1 dX12_gale_58 e2 ?_
  refine dr_iinc l5 (l5 + 1) [some (.ref l0), some (.int l1), some (.int l2), some (.long l3), none, some (.int (l5 + 1))] dX12_gale_59 rfl rfl rfl rfl rfl ?_
  refine dr_goto 35 dX12_gale_62 (by decide) ?_
  exact hk35 l0 l1 l2 l3 (l5 + 1) μ1 h
set_option maxRecDepth 100000 in
theorem c_X12_gale_35 {r : Int32} {F : dtM} : ∀ (n : Nat) (l0 : Nat) (l1 : Int32) (l2 : Int32) (l3 : Int64) (l5 : Int32) (μ : dtM), f_X12_gale_35 n l0 l1 l2 l3 l5 μ = some (r, F) → dtW yX12_gale cX12_gale 8 (some .boolean) 3 (some (.int r)) F 35 [some (.ref l0), some (.int l1), some (.int l2), some (.long l3), none, some (.int l5)] [] μ := by
  intro n
  induction n with
  | zero => intro l0 l1 l2 l3 l5 μ h; cases h
  | succ n ih =>
    intro l0 l1 l2 l3 l5 μ h
    have h := (show f_X12_gale_35 (n + 1) l0 l1 l2 l3 l5 μ = some _ from h)
    rw [f_X12_gale_35] at h
    refine dr_iload l5 dX12_gale_35 rfl ?_
    refine dr_bipush (13 : Int32) dX12_gale_37 (by decide) ?_
    obtain ⟨ht2, hf3⟩ := dtIte h
    refine dr_icmp_ge 65 dX12_gale_39 (by decide) (fun hc1 => ?_) (fun hc1 => ?_)
    · have h := ht2 hc1
      refine dr_iconst (0 : Int32) dX12_gale_65 (by decide) ?_
      refine dr_istore [some (.ref l0), some (.int l1), some (.int l2), some (.long l3), none, some (.int (0 : Int32))] dX12_gale_66 rfl rfl rfl ?_
      exact c_X12_gale_68 dtFuel l0 l1 l2 l3 (0 : Int32) μ h
    · have h := hf3 hc1
      refine dr_aload_n l0 dX12_gale_42 rfl ?_
      obtain ⟨x4, e5, h⟩ := dtBind h
      refine dr_getR x4 dX12_gale_43 fl_RX12_71 e5 ?_
      refine dr_iload l5 dX12_gale_46 rfl ?_
      refine dr_iload l5 dX12_gale_48 rfl ?_
      obtain ⟨ht7, hf8⟩ := dtIte h
      refine dr_if_ne 57 dX12_gale_50 (by decide) (fun hc6 => ?_) (fun hc6 => ?_)
      · have h := hf8 hc6
        refine dr_lconst (0 : Int64) dX12_gale_57 (by decide) ?_
        exact c_X12_gale_58 (f_X12_gale_35 n) ih l0 l1 l2 l3 l5 x4 l5 (0 : Int64) μ h
      · have h := ht7 hc6
        refine dr_lconst (1 : Int64) dX12_gale_53 (by decide) ?_
        refine dr_goto 58 dX12_gale_54 (by decide) ?_
        exact c_X12_gale_58 (f_X12_gale_35 n) ih l0 l1 l2 l3 l5 x4 l5 (1 : Int64) μ h
set_option maxRecDepth 100000 in
theorem c_X12_gale {r : Int32} {F : dtM} (p0 : Nat) (p1 : Int32) (p2 : Int32) (μ : dtM) (h : f_X12_gale p0 p1 p2 μ = some (r, F)) : dtMet yX12_gale cX12_gale 8 (some .boolean) 3 [.ref p0, .int p1, .int p2] μ (some (.int r)) F := by
  refine dtMet.of (by decide +kernel) (Nat.le_of_ble_eq_true rfl) (show dtW yX12_gale cX12_gale 8 (some .boolean) 3 (some (.int r)) F 0 [some (.ref p0), some (.int p1), some (.int p2)] [] μ from ?_)
  rw [f_X12_gale] at h
  refine dr_iload_n p1 dX12_gale_0 rfl ?_
  refine dr_i2l dX12_gale_1 ?_
  refine dr_lconst (0 : Int64) dX12_gale_2 (by decide) ?_
  refine dr_ldc2 (12 : Int64) dX12_gale_3 wt_2012 ?_
  obtain ⟨x3, μ1, e2, h⟩ := dtCall h
  refine dr_callS_i (S0 := []) [.long (p1.toInt64), .long (0 : Int64), .long (12 : Int64)] x3 μ1 dX12_gale_6 (c_X12_isFrom (p1.toInt64) (0 : Int64) (12 : Int64) μ e2) mf_X12_isFrom wt_1854 wt_1853 rfl (Nat.le_of_ble_eq_true rfl) (Nat.le_of_ble_eq_true rfl) rfl ?_
  obtain ⟨ht5, hf6⟩ := dtIte h
  refine dr_if_eq 24 dX12_gale_9 (by decide) (fun hc4 => ?_) (fun hc4 => ?_)
  · have h := ht5 hc4
    refine dr_mask [true] [some (.ref p0)] rfl ?_
    exact c_X12_gale_24 p0 μ1 h
  · have h := hf6 hc4
    refine dr_iload_n p2 dX12_gale_12 rfl ?_
    refine dr_i2l dX12_gale_13 ?_
    refine dr_lconst (0 : Int64) dX12_gale_14 (by decide) ?_
    refine dr_ldc2 (12 : Int64) dX12_gale_15 wt_2012 ?_
    obtain ⟨x9, μ7, e8, h⟩ := dtCall h
    refine dr_callS_i (S0 := []) [.long (p2.toInt64), .long (0 : Int64), .long (12 : Int64)] x9 μ7 dX12_gale_18 (c_X12_isFrom (p2.toInt64) (0 : Int64) (12 : Int64) μ1 e8) mf_X12_isFrom wt_1854 wt_1853 rfl (Nat.le_of_ble_eq_true rfl) (Nat.le_of_ble_eq_true rfl) rfl ?_
    obtain ⟨ht11, hf12⟩ := dtIte h
    refine dr_if_ne 30 dX12_gale_21 (by decide) (fun hc10 => ?_) (fun hc10 => ?_)
    · have h := hf12 hc10
      refine dr_lconst (1 : Int64) dX12_gale_30 (by decide) ?_
      refine dr_lstore_n 3 [some (.ref p0), some (.int p1), some (.int p2), some (.long (1 : Int64)), none] dX12_gale_31 rfl rfl rfl rfl ?_
      refine dr_iconst (0 : Int32) dX12_gale_32 (by decide) ?_
      refine dr_istore [some (.ref p0), some (.int p1), some (.int p2), some (.long (1 : Int64)), none, some (.int (0 : Int32))] dX12_gale_33 rfl rfl rfl ?_
      exact c_X12_gale_35 dtFuel p0 p1 p2 (1 : Int64) (0 : Int32) μ7 h
    · have h := ht11 hc10
      refine dr_mask [true] [some (.ref p0)] rfl ?_
      exact c_X12_gale_24 p0 μ7 h
/-! X12_copyRooms -/
theorem dX12_copyRooms_0 : decode cX12_copyRooms 0 = .ok (.iload_n 1, 1) := by decide +kernel
theorem dX12_copyRooms_1 : decode cX12_copyRooms 1 = .ok (.invokestatic 104, 3) := by decide +kernel
theorem dX12_copyRooms_4 : decode cX12_copyRooms 4 = .ok (.ifCond .ne 9, 3) := by decide +kernel
theorem dX12_copyRooms_7 : decode cX12_copyRooms 7 = .ok (.aload_n 0, 1) := by decide +kernel
theorem dX12_copyRooms_8 : decode cX12_copyRooms 8 = .ok (.iconst 1, 1) := by decide +kernel
theorem dX12_copyRooms_9 : decode cX12_copyRooms 9 = .ok (.invokevirtual 93, 3) := by decide +kernel
theorem dX12_copyRooms_12 : decode cX12_copyRooms 12 = .ok (.ireturn, 1) := by decide +kernel
theorem dX12_copyRooms_13 : decode cX12_copyRooms 13 = .ok (.aload_n 0, 1) := by decide +kernel
theorem dX12_copyRooms_14 : decode cX12_copyRooms 14 = .ok (.getfield 24, 3) := by decide +kernel
theorem dX12_copyRooms_17 : decode cX12_copyRooms 17 = .ok (.iload_n 1, 1) := by decide +kernel
theorem dX12_copyRooms_18 : decode cX12_copyRooms 18 = .ok (.iaload, 1) := by decide +kernel
theorem dX12_copyRooms_19 : decode cX12_copyRooms 19 = .ok (.iconst (-1), 1) := by decide +kernel
theorem dX12_copyRooms_20 : decode cX12_copyRooms 20 = .ok (.if_icmp .ne 9, 3) := by decide +kernel
theorem dX12_copyRooms_23 : decode cX12_copyRooms 23 = .ok (.aload_n 0, 1) := by decide +kernel
theorem dX12_copyRooms_24 : decode cX12_copyRooms 24 = .ok (.iconst 2, 1) := by decide +kernel
theorem dX12_copyRooms_25 : decode cX12_copyRooms 25 = .ok (.invokevirtual 93, 3) := by decide +kernel
theorem dX12_copyRooms_28 : decode cX12_copyRooms 28 = .ok (.ireturn, 1) := by decide +kernel
theorem dX12_copyRooms_29 : decode cX12_copyRooms 29 = .ok (.aload_n 0, 1) := by decide +kernel
theorem dX12_copyRooms_30 : decode cX12_copyRooms 30 = .ok (.getfield 24, 3) := by decide +kernel
theorem dX12_copyRooms_33 : decode cX12_copyRooms 33 = .ok (.iload_n 1, 1) := by decide +kernel
theorem dX12_copyRooms_34 : decode cX12_copyRooms 34 = .ok (.iaload, 1) := by decide +kernel
theorem dX12_copyRooms_35 : decode cX12_copyRooms 35 = .ok (.aload_n 0, 1) := by decide +kernel
theorem dX12_copyRooms_36 : decode cX12_copyRooms 36 = .ok (.getfield 7, 3) := by decide +kernel
theorem dX12_copyRooms_39 : decode cX12_copyRooms 39 = .ok (.iconst 3, 1) := by decide +kernel
theorem dX12_copyRooms_40 : decode cX12_copyRooms 40 = .ok (.iaload, 1) := by decide +kernel
theorem dX12_copyRooms_41 : decode cX12_copyRooms 41 = .ok (.if_icmp .ge 9, 3) := by decide +kernel
theorem dX12_copyRooms_44 : decode cX12_copyRooms 44 = .ok (.aload_n 0, 1) := by decide +kernel
theorem dX12_copyRooms_45 : decode cX12_copyRooms 45 = .ok (.iconst 3, 1) := by decide +kernel
theorem dX12_copyRooms_46 : decode cX12_copyRooms 46 = .ok (.invokevirtual 93, 3) := by decide +kernel
theorem dX12_copyRooms_49 : decode cX12_copyRooms 49 = .ok (.ireturn, 1) := by decide +kernel
theorem dX12_copyRooms_50 : decode cX12_copyRooms 50 = .ok (.iconst 0, 1) := by decide +kernel
theorem dX12_copyRooms_51 : decode cX12_copyRooms 51 = .ok (.istore_n 2, 1) := by decide +kernel
theorem dX12_copyRooms_52 : decode cX12_copyRooms 52 = .ok (.iload_n 2, 1) := by decide +kernel
theorem dX12_copyRooms_53 : decode cX12_copyRooms 53 = .ok (.aload_n 0, 1) := by decide +kernel
theorem dX12_copyRooms_54 : decode cX12_copyRooms 54 = .ok (.getfield 7, 3) := by decide +kernel
theorem dX12_copyRooms_57 : decode cX12_copyRooms 57 = .ok (.iconst 3, 1) := by decide +kernel
theorem dX12_copyRooms_58 : decode cX12_copyRooms 58 = .ok (.iaload, 1) := by decide +kernel
theorem dX12_copyRooms_59 : decode cX12_copyRooms 59 = .ok (.if_icmp .ge 36, 3) := by decide +kernel
theorem dX12_copyRooms_62 : decode cX12_copyRooms 62 = .ok (.aload_n 0, 1) := by decide +kernel
theorem dX12_copyRooms_63 : decode cX12_copyRooms 63 = .ok (.getfield 27, 3) := by decide +kernel
theorem dX12_copyRooms_66 : decode cX12_copyRooms 66 = .ok (.bipush 60, 2) := by decide +kernel
theorem dX12_copyRooms_68 : decode cX12_copyRooms 68 = .ok (.iload_n 1, 1) := by decide +kernel
theorem dX12_copyRooms_69 : decode cX12_copyRooms 69 = .ok (.imul, 1) := by decide +kernel
theorem dX12_copyRooms_70 : decode cX12_copyRooms 70 = .ok (.iload_n 2, 1) := by decide +kernel
theorem dX12_copyRooms_71 : decode cX12_copyRooms 71 = .ok (.iadd, 1) := by decide +kernel
theorem dX12_copyRooms_72 : decode cX12_copyRooms 72 = .ok (.aload_n 0, 1) := by decide +kernel
theorem dX12_copyRooms_73 : decode cX12_copyRooms 73 = .ok (.iload_n 2, 1) := by decide +kernel
theorem dX12_copyRooms_74 : decode cX12_copyRooms 74 = .ok (.iconst 0, 1) := by decide +kernel
theorem dX12_copyRooms_75 : decode cX12_copyRooms 75 = .ok (.invokevirtual 295, 3) := by decide +kernel
theorem dX12_copyRooms_78 : decode cX12_copyRooms 78 = .ok (.i2l, 1) := by decide +kernel
theorem dX12_copyRooms_79 : decode cX12_copyRooms 79 = .ok (.aload_n 0, 1) := by decide +kernel
theorem dX12_copyRooms_80 : decode cX12_copyRooms 80 = .ok (.getfield 21, 3) := by decide +kernel
theorem dX12_copyRooms_83 : decode cX12_copyRooms 83 = .ok (.iload_n 1, 1) := by decide +kernel
theorem dX12_copyRooms_84 : decode cX12_copyRooms 84 = .ok (.iaload, 1) := by decide +kernel
theorem dX12_copyRooms_85 : decode cX12_copyRooms 85 = .ok (.invokestatic 111, 3) := by decide +kernel
theorem dX12_copyRooms_88 : decode cX12_copyRooms 88 = .ok (.lastore, 1) := by decide +kernel
theorem dX12_copyRooms_89 : decode cX12_copyRooms 89 = .ok (.iinc 2 1, 3) := by decide +kernel
theorem dX12_copyRooms_92 : decode cX12_copyRooms 92 = .ok (.goto (-40), 3) := by decide +kernel
theorem dX12_copyRooms_95 : decode cX12_copyRooms 95 = .ok (.aload_n 0, 1) := by decide +kernel
theorem dX12_copyRooms_96 : decode cX12_copyRooms 96 = .ok (.aload_n 0, 1) := by decide +kernel
theorem dX12_copyRooms_97 : decode cX12_copyRooms 97 = .ok (.getfield 7, 3) := by decide +kernel
theorem dX12_copyRooms_100 : decode cX12_copyRooms 100 = .ok (.iconst 3, 1) := by decide +kernel
theorem dX12_copyRooms_101 : decode cX12_copyRooms 101 = .ok (.iaload, 1) := by decide +kernel
theorem dX12_copyRooms_102 : decode cX12_copyRooms 102 = .ok (.invokevirtual 97, 3) := by decide +kernel
theorem dX12_copyRooms_105 : decode cX12_copyRooms 105 = .ok (.ireturn, 1) := by decide +kernel
set_option maxRecDepth 100000 in
def f_X12_copyRooms_52 : Nat → Nat → Int32 → Int32 → dtM → Option (Int32 × dtM)
  | 0, _, _, _, _ => none
  | n + 1, l0, l1, l2, μ =>
    (opGR 12 0 μ l0).bind fun x1 => (opLI 1 μ x1 (3 : Int32)).bind fun x3 => if x3 ≤ l2 then ((opGR 12 0 μ l0).bind fun x8 => (opLI 1 μ x8 (3 : Int32)).bind fun x10 => (opRv 12 μ l0).bind fun _ => opCall (f_X12_gives l0 x10 μ) fun x15 μ13 => some (x15, μ13)) else ((opGR 12 7 μ l0).bind fun x16 => (opRv 12 μ l0).bind fun _ => opCall (f_X12_personOf l0 l2 (0 : Int32) μ) fun x21 μ19 => (opGR 12 5 μ19 l0).bind fun x22 => (opLI 1 μ19 x22 l1).bind fun x24 => opCall (f_X12_cut (x21.toInt64) x24 μ19) fun x28 μ26 => (opSJ μ26 x16 (((60 : Int32) * l1) + l2) x28).bind fun μ29 => f_X12_copyRooms_52 n l0 l1 (l2 + 1) μ29)
set_option maxRecDepth 100000 in
def f_X12_copyRooms (p0 : Nat) (p1 : Int32) (μ : dtM) : Option (Int32 × dtM) :=
  opCall (f_X12_isTray p1 μ) fun x3 μ1 => if x3 = 0 then ((opRv 12 μ1 p0).bind fun _ => opCall (f_X12_refuse p0 (1 : Int32) μ1) fun x36 μ34 => some (x36, μ34)) else ((opGR 12 6 μ1 p0).bind fun x7 => (opLI 1 μ1 x7 p1).bind fun x9 => if x9 = (-1 : Int32) then ((opRv 12 μ1 p0).bind fun _ => opCall (f_X12_refuse p0 (2 : Int32) μ1) fun x32 μ30 => some (x32, μ30)) else ((opGR 12 6 μ1 p0).bind fun x14 => (opLI 1 μ1 x14 p1).bind fun x16 => (opGR 12 0 μ1 p0).bind fun x18 => (opLI 1 μ1 x18 (3 : Int32)).bind fun x20 => if x20 ≤ x16 then (f_X12_copyRooms_52 dtFuel p0 p1 (0 : Int32) μ1) else ((opRv 12 μ1 p0).bind fun _ => opCall (f_X12_refuse p0 (3 : Int32) μ1) fun x28 μ26 => some (x28, μ26))))
set_option maxRecDepth 100000 in
theorem c_X12_copyRooms_52 {r : Int32} {F : dtM} : ∀ (n : Nat) (l0 : Nat) (l1 : Int32) (l2 : Int32) (μ : dtM), f_X12_copyRooms_52 n l0 l1 l2 μ = some (r, F) → dtW yX12_copyRooms cX12_copyRooms 3 (some .int) 3 (some (.int r)) F 52 [some (.ref l0), some (.int l1), some (.int l2)] [] μ := by
  intro n
  induction n with
  | zero => intro l0 l1 l2 μ h; cases h
  | succ n ih =>
    intro l0 l1 l2 μ h
    have h := (show f_X12_copyRooms_52 (n + 1) l0 l1 l2 μ = some _ from h)
    rw [f_X12_copyRooms_52] at h
    refine dr_iload_n l2 dX12_copyRooms_52 rfl ?_
    refine dr_aload_n l0 dX12_copyRooms_53 rfl ?_
    obtain ⟨x1, e2, h⟩ := dtBind h
    refine dr_getR x1 dX12_copyRooms_54 fl_RX12_7 e2 ?_
    refine dr_iconst (3 : Int32) dX12_copyRooms_57 (by decide) ?_
    obtain ⟨x3, e4, h⟩ := dtBind h
    refine dr_iaload x3 dX12_copyRooms_58 e4 ?_
    obtain ⟨ht6, hf7⟩ := dtIte h
    refine dr_icmp_ge 95 dX12_copyRooms_59 (by decide) (fun hc5 => ?_) (fun hc5 => ?_)
    · have h := ht6 hc5
      refine dr_aload_n l0 dX12_copyRooms_95 rfl ?_
      refine dr_aload_n l0 dX12_copyRooms_96 rfl ?_
      obtain ⟨x8, e9, h⟩ := dtBind h
      refine dr_getR x8 dX12_copyRooms_97 fl_RX12_7 e9 ?_
      refine dr_iconst (3 : Int32) dX12_copyRooms_100 (by decide) ?_
      obtain ⟨x10, e11, h⟩ := dtBind h
      refine dr_iaload x10 dX12_copyRooms_101 e11 ?_
      obtain ⟨_, hb12, h⟩ := dtBind h
      obtain ⟨x15, μ13, e14, h⟩ := dtCall h
      refine dr_callV_i (S0 := []) [.int x10] x15 μ13 dX12_copyRooms_102 (c_X12_gives l0 x10 μ e14) mf_X12_gives wt_1668 ws_85 wt_1666 rfl (dtRv hb12) (by decide) rfl (Nat.le_of_ble_eq_true rfl) (Nat.le_of_ble_eq_true rfl) rfl ?_
      cases h
      exact dr_ireturn dX12_copyRooms_105 rfl
    · have h := hf7 hc5
      refine dr_aload_n l0 dX12_copyRooms_62 rfl ?_
      obtain ⟨x16, e17, h⟩ := dtBind h
      refine dr_getR x16 dX12_copyRooms_63 fl_RX12_27 e17 ?_
      refine dr_bipush (60 : Int32) dX12_copyRooms_66 (by decide) ?_
      refine dr_iload_n l1 dX12_copyRooms_68 rfl ?_
      refine dr_imul dX12_copyRooms_69 ?_
      refine dr_iload_n l2 dX12_copyRooms_70 rfl ?_
      refine dr_iadd dX12_copyRooms_71 ?_
      refine dr_aload_n l0 dX12_copyRooms_72 rfl ?_
      refine dr_iload_n l2 dX12_copyRooms_73 rfl ?_
      refine dr_iconst (0 : Int32) dX12_copyRooms_74 (by decide) ?_
      obtain ⟨_, hb18, h⟩ := dtBind h
      obtain ⟨x21, μ19, e20, h⟩ := dtCall h
      refine dr_callV_i (S0 := [.int (((60 : Int32) * l1) + l2), .ref x16]) [.int l2, .int (0 : Int32)] x21 μ19 dX12_copyRooms_75 (c_X12_personOf l0 l2 (0 : Int32) μ e20) mf_X12_personOf wt_1736 ws_96 wt_1734 rfl (dtRv hb18) (by decide) rfl (Nat.le_of_ble_eq_true rfl) (Nat.le_of_ble_eq_true rfl) rfl ?_
      refine dr_i2l dX12_copyRooms_78 ?_
      refine dr_aload_n l0 dX12_copyRooms_79 rfl ?_
      obtain ⟨x22, e23, h⟩ := dtBind h
      refine dr_getR x22 dX12_copyRooms_80 fl_RX12_21 e23 ?_
      refine dr_iload_n l1 dX12_copyRooms_83 rfl ?_
      obtain ⟨x24, e25, h⟩ := dtBind h
      refine dr_iaload x24 dX12_copyRooms_84 e25 ?_
      obtain ⟨x28, μ26, e27, h⟩ := dtCall h
      refine dr_callS_l (S0 := [.int (((60 : Int32) * l1) + l2), .ref x16]) [.long (x21.toInt64), .int x24] x28 μ26 dX12_copyRooms_85 (c_X12_cut (x21.toInt64) x24 μ19 e27) mf_X12_cut wt_1503 wt_1502 rfl (Nat.le_of_ble_eq_true rfl) (Nat.le_of_ble_eq_true rfl) rfl ?_
      obtain ⟨μ29, e30, h⟩ := dtBind h
      refine dr_lastore μ29 dX12_copyRooms_88 e30 ?_
      refine dr_iinc l2 (l2 + 1) [some (.ref l0), some (.int l1), some (.int (l2 + 1))] dX12_copyRooms_89 rfl rfl rfl rfl rfl ?_
      refine dr_goto 52 dX12_copyRooms_92 (by decide) ?_
      exact ih l0 l1 (l2 + 1) μ29 h
set_option maxRecDepth 100000 in
theorem c_X12_copyRooms {r : Int32} {F : dtM} (p0 : Nat) (p1 : Int32) (μ : dtM) (h : f_X12_copyRooms p0 p1 μ = some (r, F)) : dtMet yX12_copyRooms cX12_copyRooms 3 (some .int) 3 [.ref p0, .int p1] μ (some (.int r)) F := by
  refine dtMet.of (by decide +kernel) (Nat.le_of_ble_eq_true rfl) (show dtW yX12_copyRooms cX12_copyRooms 3 (some .int) 3 (some (.int r)) F 0 [some (.ref p0), some (.int p1)] [] μ from ?_)
  rw [f_X12_copyRooms] at h
  refine dr_iload_n p1 dX12_copyRooms_0 rfl ?_
  obtain ⟨x3, μ1, e2, h⟩ := dtCall h
  refine dr_callS_i (S0 := []) [.int p1] x3 μ1 dX12_copyRooms_1 (c_X12_isTray p1 μ e2) mf_X12_isTray wt_1488 wt_1487 rfl (Nat.le_of_ble_eq_true rfl) (Nat.le_of_ble_eq_true rfl) rfl ?_
  obtain ⟨ht5, hf6⟩ := dtIte h
  refine dr_if_ne 13 dX12_copyRooms_4 (by decide) (fun hc4 => ?_) (fun hc4 => ?_)
  · have h := hf6 hc4
    refine dr_aload_n p0 dX12_copyRooms_13 rfl ?_
    obtain ⟨x7, e8, h⟩ := dtBind h
    refine dr_getR x7 dX12_copyRooms_14 fl_RX12_24 e8 ?_
    refine dr_iload_n p1 dX12_copyRooms_17 rfl ?_
    obtain ⟨x9, e10, h⟩ := dtBind h
    refine dr_iaload x9 dX12_copyRooms_18 e10 ?_
    refine dr_iconst (-1 : Int32) dX12_copyRooms_19 (by decide) ?_
    obtain ⟨ht12, hf13⟩ := dtIte h
    refine dr_icmp_ne 29 dX12_copyRooms_20 (by decide) (fun hc11 => ?_) (fun hc11 => ?_)
    · have h := hf13 hc11
      refine dr_aload_n p0 dX12_copyRooms_29 rfl ?_
      obtain ⟨x14, e15, h⟩ := dtBind h
      refine dr_getR x14 dX12_copyRooms_30 fl_RX12_24 e15 ?_
      refine dr_iload_n p1 dX12_copyRooms_33 rfl ?_
      obtain ⟨x16, e17, h⟩ := dtBind h
      refine dr_iaload x16 dX12_copyRooms_34 e17 ?_
      refine dr_aload_n p0 dX12_copyRooms_35 rfl ?_
      obtain ⟨x18, e19, h⟩ := dtBind h
      refine dr_getR x18 dX12_copyRooms_36 fl_RX12_7 e19 ?_
      refine dr_iconst (3 : Int32) dX12_copyRooms_39 (by decide) ?_
      obtain ⟨x20, e21, h⟩ := dtBind h
      refine dr_iaload x20 dX12_copyRooms_40 e21 ?_
      obtain ⟨ht23, hf24⟩ := dtIte h
      refine dr_icmp_ge 50 dX12_copyRooms_41 (by decide) (fun hc22 => ?_) (fun hc22 => ?_)
      · have h := ht23 hc22
        refine dr_iconst (0 : Int32) dX12_copyRooms_50 (by decide) ?_
        refine dr_istore_n 2 [some (.ref p0), some (.int p1), some (.int (0 : Int32))] dX12_copyRooms_51 rfl rfl rfl rfl ?_
        exact c_X12_copyRooms_52 dtFuel p0 p1 (0 : Int32) μ1 h
      · have h := hf24 hc22
        refine dr_aload_n p0 dX12_copyRooms_44 rfl ?_
        refine dr_iconst (3 : Int32) dX12_copyRooms_45 (by decide) ?_
        obtain ⟨_, hb25, h⟩ := dtBind h
        obtain ⟨x28, μ26, e27, h⟩ := dtCall h
        refine dr_callV_i (S0 := []) [.int (3 : Int32)] x28 μ26 dX12_copyRooms_46 (c_X12_refuse p0 (3 : Int32) μ1 e27) mf_X12_refuse wt_1552 ws_59 wt_1550 rfl (dtRv hb25) (by decide) rfl (Nat.le_of_ble_eq_true rfl) (Nat.le_of_ble_eq_true rfl) rfl ?_
        cases h
        exact dr_ireturn dX12_copyRooms_49 rfl
    · have h := ht12 hc11
      refine dr_aload_n p0 dX12_copyRooms_23 rfl ?_
      refine dr_iconst (2 : Int32) dX12_copyRooms_24 (by decide) ?_
      obtain ⟨_, hb29, h⟩ := dtBind h
      obtain ⟨x32, μ30, e31, h⟩ := dtCall h
      refine dr_callV_i (S0 := []) [.int (2 : Int32)] x32 μ30 dX12_copyRooms_25 (c_X12_refuse p0 (2 : Int32) μ1 e31) mf_X12_refuse wt_1552 ws_59 wt_1550 rfl (dtRv hb29) (by decide) rfl (Nat.le_of_ble_eq_true rfl) (Nat.le_of_ble_eq_true rfl) rfl ?_
      cases h
      exact dr_ireturn dX12_copyRooms_28 rfl
  · have h := ht5 hc4
    refine dr_aload_n p0 dX12_copyRooms_7 rfl ?_
    refine dr_iconst (1 : Int32) dX12_copyRooms_8 (by decide) ?_
    obtain ⟨_, hb33, h⟩ := dtBind h
    obtain ⟨x36, μ34, e35, h⟩ := dtCall h
    refine dr_callV_i (S0 := []) [.int (1 : Int32)] x36 μ34 dX12_copyRooms_9 (c_X12_refuse p0 (1 : Int32) μ1 e35) mf_X12_refuse wt_1552 ws_59 wt_1550 rfl (dtRv hb33) (by decide) rfl (Nat.le_of_ble_eq_true rfl) (Nat.le_of_ble_eq_true rfl) rfl ?_
    cases h
    exact dr_ireturn dX12_copyRooms_12 rfl
/-! X12_draw -/
theorem dX12_draw_0 : decode cX12_draw 0 = .ok (.aload_n 0, 1) := by decide +kernel
theorem dX12_draw_1 : decode cX12_draw 1 = .ok (.aload_n 0, 1) := by decide +kernel
theorem dX12_draw_2 : decode cX12_draw 2 = .ok (.getfield 437, 3) := by decide +kernel
theorem dX12_draw_5 : decode cX12_draw 5 = .ok (.sipush 3221, 3) := by decide +kernel
theorem dX12_draw_8 : decode cX12_draw 8 = .ok (.imul, 1) := by decide +kernel
theorem dX12_draw_9 : decode cX12_draw 9 = .ok (.sipush 11449, 3) := by decide +kernel
theorem dX12_draw_12 : decode cX12_draw 12 = .ok (.iadd, 1) := by decide +kernel
theorem dX12_draw_13 : decode cX12_draw 13 = .ok (.ldc_w 440, 3) := by decide +kernel
theorem dX12_draw_16 : decode cX12_draw 16 = .ok (.irem, 1) := by decide +kernel
theorem dX12_draw_17 : decode cX12_draw 17 = .ok (.putfield 437, 3) := by decide +kernel
theorem dX12_draw_20 : decode cX12_draw 20 = .ok (.aload_n 0, 1) := by decide +kernel
theorem dX12_draw_21 : decode cX12_draw 21 = .ok (.getfield 437, 3) := by decide +kernel
theorem dX12_draw_24 : decode cX12_draw 24 = .ok (.bipush 8, 2) := by decide +kernel
theorem dX12_draw_26 : decode cX12_draw 26 = .ok (.idiv, 1) := by decide +kernel
theorem dX12_draw_27 : decode cX12_draw 27 = .ok (.iload_n 1, 1) := by decide +kernel
theorem dX12_draw_28 : decode cX12_draw 28 = .ok (.irem, 1) := by decide +kernel
theorem dX12_draw_29 : decode cX12_draw 29 = .ok (.ireturn, 1) := by decide +kernel
set_option maxRecDepth 100000 in
def f_X12_draw (p0 : Nat) (p1 : Int32) (μ : dtM) : Option (Int32 × dtM) :=
  (opGI 12 34 μ p0).bind fun x1 => (opRem ((x1 * (3221 : Int32)) + (11449 : Int32)) (65536 : Int32)).bind fun x3 => (opPI 12 34 μ p0 x3).bind fun μ5 => (opGI 12 34 μ5 p0).bind fun x7 => (opDiv x7 (8 : Int32)).bind fun x9 => (opRem x9 p1).bind fun x11 => some (x11, μ5)
set_option maxRecDepth 100000 in
theorem c_X12_draw {r : Int32} {F : dtM} (p0 : Nat) (p1 : Int32) (μ : dtM) (h : f_X12_draw p0 p1 μ = some (r, F)) : dtMet yX12_draw cX12_draw 2 (some .int) 1 [.ref p0, .int p1] μ (some (.int r)) F := by
  refine dtMet.of (by decide +kernel) (Nat.le_of_ble_eq_true rfl) (show dtW yX12_draw cX12_draw 2 (some .int) 1 (some (.int r)) F 0 [some (.ref p0), some (.int p1)] [] μ from ?_)
  rw [f_X12_draw] at h
  refine dr_aload_n p0 dX12_draw_0 rfl ?_
  refine dr_aload_n p0 dX12_draw_1 rfl ?_
  obtain ⟨x1, e2, h⟩ := dtBind h
  refine dr_getI x1 dX12_draw_2 fl_RX12_437 e2 ?_
  refine dr_sipush (3221 : Int32) dX12_draw_5 (by decide) ?_
  refine dr_imul dX12_draw_8 ?_
  refine dr_sipush (11449 : Int32) dX12_draw_9 (by decide) ?_
  refine dr_iadd dX12_draw_12 ?_
  refine dr_ldcw (65536 : Int32) dX12_draw_13 wt_2054 ?_
  obtain ⟨x3, e4, h⟩ := dtBind h
  refine dr_irem_n x3 dX12_draw_16 e4 ?_
  obtain ⟨μ5, e6, h⟩ := dtBind h
  refine dr_putI μ5 dX12_draw_17 fl_RX12_437 rfl e6 ?_
  refine dr_aload_n p0 dX12_draw_20 rfl ?_
  obtain ⟨x7, e8, h⟩ := dtBind h
  refine dr_getI x7 dX12_draw_21 fl_RX12_437 e8 ?_
  refine dr_bipush (8 : Int32) dX12_draw_24 (by decide) ?_
  obtain ⟨x9, e10, h⟩ := dtBind h
  refine dr_idiv_n x9 dX12_draw_26 e10 ?_
  refine dr_iload_n p1 dX12_draw_27 rfl ?_
  obtain ⟨x11, e12, h⟩ := dtBind h
  refine dr_irem_n x11 dX12_draw_28 e12 ?_
  cases h
  exact dr_ireturn dX12_draw_29 rfl
/-! X12_counts -/
theorem dX12_counts_0 : decode cX12_counts 0 = .ok (.aload_n 0, 1) := by decide +kernel
theorem dX12_counts_1 : decode cX12_counts 1 = .ok (.getfield 77, 3) := by decide +kernel
theorem dX12_counts_4 : decode cX12_counts 4 = .ok (.iconst 1, 1) := by decide +kernel
theorem dX12_counts_5 : decode cX12_counts 5 = .ok (.dup2, 1) := by decide +kernel
theorem dX12_counts_6 : decode cX12_counts 6 = .ok (.iaload, 1) := by decide +kernel
theorem dX12_counts_7 : decode cX12_counts 7 = .ok (.iconst 1, 1) := by decide +kernel
theorem dX12_counts_8 : decode cX12_counts 8 = .ok (.iadd, 1) := by decide +kernel
theorem dX12_counts_9 : decode cX12_counts 9 = .ok (.iastore, 1) := by decide +kernel
theorem dX12_counts_10 : decode cX12_counts 10 = .ok (.aload_n 0, 1) := by decide +kernel
theorem dX12_counts_11 : decode cX12_counts 11 = .ok (.getfield 77, 3) := by decide +kernel
theorem dX12_counts_14 : decode cX12_counts 14 = .ok (.iconst 2, 1) := by decide +kernel
theorem dX12_counts_15 : decode cX12_counts 15 = .ok (.dup2, 1) := by decide +kernel
theorem dX12_counts_16 : decode cX12_counts 16 = .ok (.iaload, 1) := by decide +kernel
theorem dX12_counts_17 : decode cX12_counts 17 = .ok (.iload_n 1, 1) := by decide +kernel
theorem dX12_counts_18 : decode cX12_counts 18 = .ok (.invokestatic 355, 3) := by decide +kernel
theorem dX12_counts_21 : decode cX12_counts 21 = .ok (.iadd, 1) := by decide +kernel
theorem dX12_counts_22 : decode cX12_counts 22 = .ok (.iastore, 1) := by decide +kernel
theorem dX12_counts_23 : decode cX12_counts 23 = .ok (.return_, 1) := by decide +kernel
set_option maxRecDepth 100000 in
def f_X12_counts (p0 : Nat) (p1 : Int32) (μ : dtM) : Option dtM :=
  (opGR 12 37 μ p0).bind fun x1 => (opLI 1 μ x1 (1 : Int32)).bind fun x3 => (opSI μ x1 (1 : Int32) (x3 + (1 : Int32))).bind fun μ5 => (opGR 12 37 μ5 p0).bind fun x7 => (opLI 1 μ5 x7 (2 : Int32)).bind fun x9 => opCall (f_X12_bits p1 μ5) fun x13 μ11 => (opSI μ11 x7 (2 : Int32) (x9 + x13)).bind fun μ14 => some μ14
set_option maxRecDepth 100000 in
theorem c_X12_counts {F : dtM} (p0 : Nat) (p1 : Int32) (μ : dtM) (h : f_X12_counts p0 p1 μ = some F) : dtMet yX12_counts cX12_counts 2 (none) 2 [.ref p0, .int p1] μ (none) F := by
  refine dtMet.of (by decide +kernel) (Nat.le_of_ble_eq_true rfl) (show dtW yX12_counts cX12_counts 2 (none) 2 (none) F 0 [some (.ref p0), some (.int p1)] [] μ from ?_)
  rw [f_X12_counts] at h
  refine dr_aload_n p0 dX12_counts_0 rfl ?_
  obtain ⟨x1, e2, h⟩ := dtBind h
  refine dr_getR x1 dX12_counts_1 fl_RX12_77 e2 ?_
  refine dr_iconst (1 : Int32) dX12_counts_4 (by decide) ?_
  refine dr_dup2 dX12_counts_5 rfl rfl ?_
  obtain ⟨x3, e4, h⟩ := dtBind h
  refine dr_iaload x3 dX12_counts_6 e4 ?_
  refine dr_iconst (1 : Int32) dX12_counts_7 (by decide) ?_
  refine dr_iadd dX12_counts_8 ?_
  obtain ⟨μ5, e6, h⟩ := dtBind h
  refine dr_iastore μ5 dX12_counts_9 e6 ?_
  refine dr_aload_n p0 dX12_counts_10 rfl ?_
  obtain ⟨x7, e8, h⟩ := dtBind h
  refine dr_getR x7 dX12_counts_11 fl_RX12_77 e8 ?_
  refine dr_iconst (2 : Int32) dX12_counts_14 (by decide) ?_
  refine dr_dup2 dX12_counts_15 rfl rfl ?_
  obtain ⟨x9, e10, h⟩ := dtBind h
  refine dr_iaload x9 dX12_counts_16 e10 ?_
  refine dr_iload_n p1 dX12_counts_17 rfl ?_
  obtain ⟨x13, μ11, e12, h⟩ := dtCall h
  refine dr_callS_i (S0 := [.int x9, .int (2 : Int32), .ref x7]) [.int p1] x13 μ11 dX12_counts_18 (c_X12_bits p1 μ5 e12) mf_X12_bits wt_1826 wt_1825 rfl (Nat.le_of_ble_eq_true rfl) (Nat.le_of_ble_eq_true rfl) rfl ?_
  refine dr_iadd dX12_counts_21 ?_
  obtain ⟨μ14, e15, h⟩ := dtBind h
  refine dr_iastore μ14 dX12_counts_22 e15 ?_
  cases h
  exact dr_return dX12_counts_23
/-! X12_closesBy -/
theorem dX12_closesBy_0 : decode cX12_closesBy 0 = .ok (.aload_n 0, 1) := by decide +kernel
theorem dX12_closesBy_1 : decode cX12_closesBy 1 = .ok (.iload_n 1, 1) := by decide +kernel
theorem dX12_closesBy_2 : decode cX12_closesBy 2 = .ok (.iload_n 2, 1) := by decide +kernel
theorem dX12_closesBy_3 : decode cX12_closesBy 3 = .ok (.iload_n 3, 1) := by decide +kernel
theorem dX12_closesBy_4 : decode cX12_closesBy 4 = .ok (.invokevirtual 349, 3) := by decide +kernel
theorem dX12_closesBy_7 : decode cX12_closesBy 7 = .ok (.istore 4, 2) := by decide +kernel
theorem dX12_closesBy_9 : decode cX12_closesBy 9 = .ok (.iload 4, 2) := by decide +kernel
theorem dX12_closesBy_11 : decode cX12_closesBy 11 = .ok (.iconst (-1), 1) := by decide +kernel
theorem dX12_closesBy_12 : decode cX12_closesBy 12 = .ok (.if_icmp .ne 5, 3) := by decide +kernel
theorem dX12_closesBy_15 : decode cX12_closesBy 15 = .ok (.iconst 0, 1) := by decide +kernel
theorem dX12_closesBy_16 : decode cX12_closesBy 16 = .ok (.ireturn, 1) := by decide +kernel
theorem dX12_closesBy_17 : decode cX12_closesBy 17 = .ok (.aload_n 0, 1) := by decide +kernel
theorem dX12_closesBy_18 : decode cX12_closesBy 18 = .ok (.iload 4, 2) := by decide +kernel
theorem dX12_closesBy_20 : decode cX12_closesBy 20 = .ok (.invokevirtual 441, 3) := by decide +kernel
theorem dX12_closesBy_23 : decode cX12_closesBy 23 = .ok (.iconst 1, 1) := by decide +kernel
theorem dX12_closesBy_24 : decode cX12_closesBy 24 = .ok (.ireturn, 1) := by decide +kernel
set_option maxRecDepth 100000 in
def f_X12_closesBy (p0 : Nat) (p1 : Int32) (p2 : Int32) (p3 : Int32) (μ : dtM) : Option (Int32 × dtM) :=
  (opRv 12 μ p0).bind fun _ => opCall (f_X12_closes p0 p1 p2 p3 μ) fun x4 μ2 => if x4 = (-1 : Int32) then (opRet (0 : Int32) μ2) else ((opRv 12 μ2 p0).bind fun _ => (f_X12_counts p0 x4 μ2).bind fun μ9 => opRet (1 : Int32) μ9)
set_option maxRecDepth 100000 in
theorem c_X12_closesBy {r : Int32} {F : dtM} (p0 : Nat) (p1 : Int32) (p2 : Int32) (p3 : Int32) (μ : dtM) (h : f_X12_closesBy p0 p1 p2 p3 μ = some (r, F)) : dtMet yX12_closesBy cX12_closesBy 5 (some .boolean) 7 [.ref p0, .int p1, .int p2, .int p3] μ (some (.int r)) F := by
  refine dtMet.of (by decide +kernel) (Nat.le_of_ble_eq_true rfl) (show dtW yX12_closesBy cX12_closesBy 5 (some .boolean) 7 (some (.int r)) F 0 [some (.ref p0), some (.int p1), some (.int p2), some (.int p3)] [] μ from ?_)
  rw [f_X12_closesBy] at h
  refine dr_aload_n p0 dX12_closesBy_0 rfl ?_
  refine dr_iload_n p1 dX12_closesBy_1 rfl ?_
  refine dr_iload_n p2 dX12_closesBy_2 rfl ?_
  refine dr_iload_n p3 dX12_closesBy_3 rfl ?_
  obtain ⟨_, hb1, h⟩ := dtBind h
  obtain ⟨x4, μ2, e3, h⟩ := dtCall h
  refine dr_callV_i (S0 := []) [.int p1, .int p2, .int p3] x4 μ2 dX12_closesBy_4 (c_X12_closes p0 p1 p2 p3 μ e3) mf_X12_closes wt_1803 ws_104 wt_1801 rfl (dtRv hb1) (by decide) rfl (Nat.le_of_ble_eq_true rfl) (Nat.le_of_ble_eq_true rfl) rfl ?_
  refine dr_istore [some (.ref p0), some (.int p1), some (.int p2), some (.int p3), some (.int x4)] dX12_closesBy_7 rfl rfl rfl ?_
  refine dr_iload x4 dX12_closesBy_9 rfl ?_
  refine dr_iconst (-1 : Int32) dX12_closesBy_11 (by decide) ?_
  obtain ⟨ht6, hf7⟩ := dtIte h
  refine dr_icmp_ne 17 dX12_closesBy_12 (by decide) (fun hc5 => ?_) (fun hc5 => ?_)
  · have h := hf7 hc5
    refine dr_aload_n p0 dX12_closesBy_17 rfl ?_
    refine dr_iload x4 dX12_closesBy_18 rfl ?_
    obtain ⟨_, hb8, h⟩ := dtBind h
    obtain ⟨μ9, e10, h⟩ := dtBind h
    refine dr_callV_v (S0 := []) [.int x4] μ9 dX12_closesBy_20 (c_X12_counts p0 x4 μ2 e10) mf_X12_counts wt_2040 ws_131 wt_2038 rfl (dtRv hb8) (by decide) rfl (Nat.le_of_ble_eq_true rfl) (Nat.le_of_ble_eq_true rfl) rfl ?_
    refine dr_iconst (1 : Int32) dX12_closesBy_23 (by decide) ?_
    obtain ⟨hz, rfl, rfl⟩ := dtRet h
    exact dr_ireturn dX12_closesBy_24 (dtNz hz)
  · have h := ht6 hc5
    refine dr_iconst (0 : Int32) dX12_closesBy_15 (by decide) ?_
    obtain ⟨hz, rfl, rfl⟩ := dtRet h
    exact dr_ireturn dX12_closesBy_16 (dtNz hz)
/-! X12_goesBy -/
theorem dX12_goesBy_0 : decode cX12_goesBy 0 = .ok (.aload_n 0, 1) := by decide +kernel
theorem dX12_goesBy_1 : decode cX12_goesBy 1 = .ok (.iload_n 1, 1) := by decide +kernel
theorem dX12_goesBy_2 : decode cX12_goesBy 2 = .ok (.iload_n 2, 1) := by decide +kernel
theorem dX12_goesBy_3 : decode cX12_goesBy 3 = .ok (.invokevirtual 358, 3) := by decide +kernel
theorem dX12_goesBy_6 : decode cX12_goesBy 6 = .ok (.ifCond .ne 5, 3) := by decide +kernel
theorem dX12_goesBy_9 : decode cX12_goesBy 9 = .ok (.iconst 0, 1) := by decide +kernel
theorem dX12_goesBy_10 : decode cX12_goesBy 10 = .ok (.ireturn, 1) := by decide +kernel
theorem dX12_goesBy_11 : decode cX12_goesBy 11 = .ok (.aload_n 0, 1) := by decide +kernel
theorem dX12_goesBy_12 : decode cX12_goesBy 12 = .ok (.getfield 77, 3) := by decide +kernel
theorem dX12_goesBy_15 : decode cX12_goesBy 15 = .ok (.iconst 3, 1) := by decide +kernel
theorem dX12_goesBy_16 : decode cX12_goesBy 16 = .ok (.dup2, 1) := by decide +kernel
theorem dX12_goesBy_17 : decode cX12_goesBy 17 = .ok (.iaload, 1) := by decide +kernel
theorem dX12_goesBy_18 : decode cX12_goesBy 18 = .ok (.iconst 1, 1) := by decide +kernel
theorem dX12_goesBy_19 : decode cX12_goesBy 19 = .ok (.iadd, 1) := by decide +kernel
theorem dX12_goesBy_20 : decode cX12_goesBy 20 = .ok (.iastore, 1) := by decide +kernel
theorem dX12_goesBy_21 : decode cX12_goesBy 21 = .ok (.iconst 1, 1) := by decide +kernel
theorem dX12_goesBy_22 : decode cX12_goesBy 22 = .ok (.ireturn, 1) := by decide +kernel
set_option maxRecDepth 100000 in
def f_X12_goesBy (p0 : Nat) (p1 : Int32) (p2 : Int32) (μ : dtM) : Option (Int32 × dtM) :=
  (opRv 12 μ p0).bind fun _ => opCall (f_X12_goes p0 p1 p2 μ) fun x4 μ2 => if x4 = 0 then (opRet (0 : Int32) μ2) else ((opGR 12 37 μ2 p0).bind fun x8 => (opLI 1 μ2 x8 (3 : Int32)).bind fun x10 => (opSI μ2 x8 (3 : Int32) (x10 + (1 : Int32))).bind fun μ12 => opRet (1 : Int32) μ12)
set_option maxRecDepth 100000 in
theorem c_X12_goesBy {r : Int32} {F : dtM} (p0 : Nat) (p1 : Int32) (p2 : Int32) (μ : dtM) (h : f_X12_goesBy p0 p1 p2 μ = some (r, F)) : dtMet yX12_goesBy cX12_goesBy 3 (some .boolean) 5 [.ref p0, .int p1, .int p2] μ (some (.int r)) F := by
  refine dtMet.of (by decide +kernel) (Nat.le_of_ble_eq_true rfl) (show dtW yX12_goesBy cX12_goesBy 3 (some .boolean) 5 (some (.int r)) F 0 [some (.ref p0), some (.int p1), some (.int p2)] [] μ from ?_)
  rw [f_X12_goesBy] at h
  refine dr_aload_n p0 dX12_goesBy_0 rfl ?_
  refine dr_iload_n p1 dX12_goesBy_1 rfl ?_
  refine dr_iload_n p2 dX12_goesBy_2 rfl ?_
  obtain ⟨_, hb1, h⟩ := dtBind h
  obtain ⟨x4, μ2, e3, h⟩ := dtCall h
  refine dr_callV_i (S0 := []) [.int p1, .int p2] x4 μ2 dX12_goesBy_3 (c_X12_goes p0 p1 p2 μ e3) mf_X12_goes wt_1834 ws_109 wt_1832 rfl (dtRv hb1) (by decide) rfl (Nat.le_of_ble_eq_true rfl) (Nat.le_of_ble_eq_true rfl) rfl ?_
  obtain ⟨ht6, hf7⟩ := dtIte h
  refine dr_if_ne 11 dX12_goesBy_6 (by decide) (fun hc5 => ?_) (fun hc5 => ?_)
  · have h := hf7 hc5
    refine dr_aload_n p0 dX12_goesBy_11 rfl ?_
    obtain ⟨x8, e9, h⟩ := dtBind h
    refine dr_getR x8 dX12_goesBy_12 fl_RX12_77 e9 ?_
    refine dr_iconst (3 : Int32) dX12_goesBy_15 (by decide) ?_
    refine dr_dup2 dX12_goesBy_16 rfl rfl ?_
    obtain ⟨x10, e11, h⟩ := dtBind h
    refine dr_iaload x10 dX12_goesBy_17 e11 ?_
    refine dr_iconst (1 : Int32) dX12_goesBy_18 (by decide) ?_
    refine dr_iadd dX12_goesBy_19 ?_
    obtain ⟨μ12, e13, h⟩ := dtBind h
    refine dr_iastore μ12 dX12_goesBy_20 e13 ?_
    refine dr_iconst (1 : Int32) dX12_goesBy_21 (by decide) ?_
    obtain ⟨hz, rfl, rfl⟩ := dtRet h
    exact dr_ireturn dX12_goesBy_22 (dtNz hz)
  · have h := ht6 hc5
    refine dr_iconst (0 : Int32) dX12_goesBy_9 (by decide) ?_
    obtain ⟨hz, rfl, rfl⟩ := dtRet h
    exact dr_ireturn dX12_goesBy_10 (dtNz hz)
/-! X12_blows -/
theorem dX12_blows_0 : decode cX12_blows 0 = .ok (.aload_n 0, 1) := by decide +kernel
theorem dX12_blows_1 : decode cX12_blows 1 = .ok (.getfield 7, 3) := by decide +kernel
theorem dX12_blows_4 : decode cX12_blows 4 = .ok (.iconst 1, 1) := by decide +kernel
theorem dX12_blows_5 : decode cX12_blows 5 = .ok (.iaload, 1) := by decide +kernel
theorem dX12_blows_6 : decode cX12_blows 6 = .ok (.ifCond .ne 5, 3) := by decide +kernel
theorem dX12_blows_9 : decode cX12_blows 9 = .ok (.iconst 0, 1) := by decide +kernel
theorem dX12_blows_10 : decode cX12_blows 10 = .ok (.ireturn, 1) := by decide +kernel
theorem dX12_blows_11 : decode cX12_blows 11 = .ok (.aload_n 0, 1) := by decide +kernel
theorem dX12_blows_12 : decode cX12_blows 12 = .ok (.aload_n 0, 1) := by decide +kernel
theorem dX12_blows_13 : decode cX12_blows 13 = .ok (.getfield 7, 3) := by decide +kernel
theorem dX12_blows_16 : decode cX12_blows 16 = .ok (.iconst 1, 1) := by decide +kernel
theorem dX12_blows_17 : decode cX12_blows 17 = .ok (.iaload, 1) := by decide +kernel
theorem dX12_blows_18 : decode cX12_blows 18 = .ok (.invokevirtual 444, 3) := by decide +kernel
theorem dX12_blows_21 : decode cX12_blows 21 = .ok (.istore_n 1, 1) := by decide +kernel
theorem dX12_blows_22 : decode cX12_blows 22 = .ok (.aload_n 0, 1) := by decide +kernel
theorem dX12_blows_23 : decode cX12_blows 23 = .ok (.iload_n 1, 1) := by decide +kernel
theorem dX12_blows_24 : decode cX12_blows 24 = .ok (.invokevirtual 311, 3) := by decide +kernel
theorem dX12_blows_27 : decode cX12_blows 27 = .ok (.ifCond .eq 14, 3) := by decide +kernel
theorem dX12_blows_30 : decode cX12_blows 30 = .ok (.aload_n 0, 1) := by decide +kernel
theorem dX12_blows_31 : decode cX12_blows 31 = .ok (.aload_n 0, 1) := by decide +kernel
theorem dX12_blows_32 : decode cX12_blows 32 = .ok (.iload_n 1, 1) := by decide +kernel
theorem dX12_blows_33 : decode cX12_blows 33 = .ok (.iconst 0, 1) := by decide +kernel
theorem dX12_blows_34 : decode cX12_blows 34 = .ok (.iconst (-1), 1) := by decide +kernel
theorem dX12_blows_35 : decode cX12_blows 35 = .ok (.invokevirtual 346, 3) := by decide +kernel
theorem dX12_blows_38 : decode cX12_blows 38 = .ok (.invokevirtual 441, 3) := by decide +kernel
theorem dX12_blows_41 : decode cX12_blows 41 = .ok (.aload_n 0, 1) := by decide +kernel
theorem dX12_blows_42 : decode cX12_blows 42 = .ok (.getfield 7, 3) := by decide +kernel
theorem dX12_blows_45 : decode cX12_blows 45 = .ok (.iconst 5, 1) := by decide +kernel
theorem dX12_blows_46 : decode cX12_blows 46 = .ok (.dup2, 1) := by decide +kernel
theorem dX12_blows_47 : decode cX12_blows 47 = .ok (.iaload, 1) := by decide +kernel
theorem dX12_blows_48 : decode cX12_blows 48 = .ok (.iconst 1, 1) := by decide +kernel
theorem dX12_blows_49 : decode cX12_blows 49 = .ok (.iload_n 1, 1) := by decide +kernel
theorem dX12_blows_50 : decode cX12_blows 50 = .ok (.ishl, 1) := by decide +kernel
theorem dX12_blows_51 : decode cX12_blows 51 = .ok (.ixor, 1) := by decide +kernel
theorem dX12_blows_52 : decode cX12_blows 52 = .ok (.iastore, 1) := by decide +kernel
theorem dX12_blows_53 : decode cX12_blows 53 = .ok (.iconst 1, 1) := by decide +kernel
theorem dX12_blows_54 : decode cX12_blows 54 = .ok (.ireturn, 1) := by decide +kernel
set_option maxRecDepth 100000 in
def f_X12_blows_41 (l0 : Nat) (l1 : Int32) (μ : dtM) : Option (Int32 × dtM) :=
  (opGR 12 0 μ l0).bind fun x1 => (opLI 1 μ x1 (5 : Int32)).bind fun x3 => (opSI μ x1 (5 : Int32) (x3 ^^^ ((1 : Int32) <<< (l1 &&& 31)))).bind fun μ5 => opRet (1 : Int32) μ5
set_option maxRecDepth 100000 in
def f_X12_blows (p0 : Nat) (μ : dtM) : Option (Int32 × dtM) :=
  (opGR 12 0 μ p0).bind fun x1 => (opLI 1 μ x1 (1 : Int32)).bind fun x3 => if x3 = 0 then (opRet (0 : Int32) μ) else ((opGR 12 0 μ p0).bind fun x8 => (opLI 1 μ x8 (1 : Int32)).bind fun x10 => (opRv 12 μ p0).bind fun _ => opCall (f_X12_draw p0 x10 μ) fun x15 μ13 => (opRv 12 μ13 p0).bind fun _ => opCall (f_X12_isOpen p0 x15 μ13) fun x19 μ17 => if x19 = 0 then (f_X12_blows_41 p0 x15 μ17) else ((opRv 12 μ17 p0).bind fun _ => opCall (f_X12_sounds p0 x15 (0 : Int32) (-1 : Int32) μ17) fun x26 μ24 => (opRv 12 μ24 p0).bind fun _ => (f_X12_counts p0 x26 μ24).bind fun μ28 => f_X12_blows_41 p0 x15 μ28))
set_option maxRecDepth 100000 in
theorem c_X12_blows_41 {r : Int32} {F : dtM} (l0 : Nat) (l1 : Int32) (μ : dtM) (h : f_X12_blows_41 l0 l1 μ = some (r, F)) : dtW yX12_blows cX12_blows 2 (some .boolean) 6 (some (.int r)) F 41 [some (.ref l0), some (.int l1)] [] μ := by
  rw [f_X12_blows_41] at h
  refine dr_aload_n l0 dX12_blows_41 rfl ?_
  obtain ⟨x1, e2, h⟩ := dtBind h
  refine dr_getR x1 dX12_blows_42 fl_RX12_7 e2 ?_
  refine dr_iconst (5 : Int32) dX12_blows_45 (by decide) ?_
  refine dr_dup2 dX12_blows_46 rfl rfl ?_
  obtain ⟨x3, e4, h⟩ := dtBind h
  refine dr_iaload x3 dX12_blows_47 e4 ?_
  refine dr_iconst (1 : Int32) dX12_blows_48 (by decide) ?_
  refine dr_iload_n l1 dX12_blows_49 rfl ?_
  refine dr_ishl dX12_blows_50 ?_
  refine dr_ixor dX12_blows_51 ?_
  obtain ⟨μ5, e6, h⟩ := dtBind h
  refine dr_iastore μ5 dX12_blows_52 e6 ?_
  refine dr_iconst (1 : Int32) dX12_blows_53 (by decide) ?_
  obtain ⟨hz, rfl, rfl⟩ := dtRet h
  exact dr_ireturn dX12_blows_54 (dtNz hz)
set_option maxRecDepth 100000 in
theorem c_X12_blows {r : Int32} {F : dtM} (p0 : Nat) (μ : dtM) (h : f_X12_blows p0 μ = some (r, F)) : dtMet yX12_blows cX12_blows 2 (some .boolean) 6 [.ref p0] μ (some (.int r)) F := by
  refine dtMet.of (by decide +kernel) (Nat.le_of_ble_eq_true rfl) (show dtW yX12_blows cX12_blows 2 (some .boolean) 6 (some (.int r)) F 0 [some (.ref p0)] [] μ from ?_)
  rw [f_X12_blows] at h
  refine dr_aload_n p0 dX12_blows_0 rfl ?_
  obtain ⟨x1, e2, h⟩ := dtBind h
  refine dr_getR x1 dX12_blows_1 fl_RX12_7 e2 ?_
  refine dr_iconst (1 : Int32) dX12_blows_4 (by decide) ?_
  obtain ⟨x3, e4, h⟩ := dtBind h
  refine dr_iaload x3 dX12_blows_5 e4 ?_
  obtain ⟨ht6, hf7⟩ := dtIte h
  refine dr_if_ne 11 dX12_blows_6 (by decide) (fun hc5 => ?_) (fun hc5 => ?_)
  · have h := hf7 hc5
    refine dr_aload_n p0 dX12_blows_11 rfl ?_
    refine dr_aload_n p0 dX12_blows_12 rfl ?_
    obtain ⟨x8, e9, h⟩ := dtBind h
    refine dr_getR x8 dX12_blows_13 fl_RX12_7 e9 ?_
    refine dr_iconst (1 : Int32) dX12_blows_16 (by decide) ?_
    obtain ⟨x10, e11, h⟩ := dtBind h
    refine dr_iaload x10 dX12_blows_17 e11 ?_
    obtain ⟨_, hb12, h⟩ := dtBind h
    obtain ⟨x15, μ13, e14, h⟩ := dtCall h
    refine dr_callV_i (S0 := []) [.int x10] x15 μ13 dX12_blows_18 (c_X12_draw p0 x10 μ e14) mf_X12_draw wt_2052 ws_134 wt_2050 rfl (dtRv hb12) (by decide) rfl (Nat.le_of_ble_eq_true rfl) (Nat.le_of_ble_eq_true rfl) rfl ?_
    refine dr_istore_n 1 [some (.ref p0), some (.int x15)] dX12_blows_21 rfl rfl rfl rfl ?_
    refine dr_aload_n p0 dX12_blows_22 rfl ?_
    refine dr_iload_n x15 dX12_blows_23 rfl ?_
    obtain ⟨_, hb16, h⟩ := dtBind h
    obtain ⟨x19, μ17, e18, h⟩ := dtCall h
    refine dr_callV_i (S0 := []) [.int x15] x19 μ17 dX12_blows_24 (c_X12_isOpen p0 x15 μ13 e18) mf_X12_isOpen wt_1757 ws_99 wt_1755 rfl (dtRv hb16) (by decide) rfl (Nat.le_of_ble_eq_true rfl) (Nat.le_of_ble_eq_true rfl) rfl ?_
    obtain ⟨ht21, hf22⟩ := dtIte h
    refine dr_if_eq 41 dX12_blows_27 (by decide) (fun hc20 => ?_) (fun hc20 => ?_)
    · have h := ht21 hc20
      exact c_X12_blows_41 p0 x15 μ17 h
    · have h := hf22 hc20
      refine dr_aload_n p0 dX12_blows_30 rfl ?_
      refine dr_aload_n p0 dX12_blows_31 rfl ?_
      refine dr_iload_n x15 dX12_blows_32 rfl ?_
      refine dr_iconst (0 : Int32) dX12_blows_33 (by decide) ?_
      refine dr_iconst (-1 : Int32) dX12_blows_34 (by decide) ?_
      obtain ⟨_, hb23, h⟩ := dtBind h
      obtain ⟨x26, μ24, e25, h⟩ := dtCall h
      refine dr_callV_i (S0 := [.ref p0]) [.int x15, .int (0 : Int32), .int (-1 : Int32)] x26 μ24 dX12_blows_35 (c_X12_sounds p0 x15 (0 : Int32) (-1 : Int32) μ17 e25) mf_X12_sounds wt_1811 ws_106 wt_1809 rfl (dtRv hb23) (by decide) rfl (Nat.le_of_ble_eq_true rfl) (Nat.le_of_ble_eq_true rfl) rfl ?_
      obtain ⟨_, hb27, h⟩ := dtBind h
      obtain ⟨μ28, e29, h⟩ := dtBind h
      refine dr_callV_v (S0 := []) [.int x26] μ28 dX12_blows_38 (c_X12_counts p0 x26 μ24 e29) mf_X12_counts wt_2040 ws_131 wt_2038 rfl (dtRv hb27) (by decide) rfl (Nat.le_of_ble_eq_true rfl) (Nat.le_of_ble_eq_true rfl) rfl ?_
      exact c_X12_blows_41 p0 x15 μ28 h
  · have h := ht6 hc5
    refine dr_iconst (0 : Int32) dX12_blows_9 (by decide) ?_
    obtain ⟨hz, rfl, rfl⟩ := dtRet h
    exact dr_ireturn dX12_blows_10 (dtNz hz)
/-! X12_does -/
theorem dX12_does_0 : decode cX12_does 0 = .ok (.aload_n 0, 1) := by decide +kernel
theorem dX12_does_1 : decode cX12_does 1 = .ok (.getfield 7, 3) := by decide +kernel
theorem dX12_does_4 : decode cX12_does 4 = .ok (.iload_n 1, 1) := by decide +kernel
theorem dX12_does_5 : decode cX12_does 5 = .ok (.iconst 1, 1) := by decide +kernel
theorem dX12_does_6 : decode cX12_does 6 = .ok (.iadd, 1) := by decide +kernel
theorem dX12_does_7 : decode cX12_does 7 = .ok (.iaload, 1) := by decide +kernel
theorem dX12_does_8 : decode cX12_does 8 = .ok (.istore_n 2, 1) := by decide +kernel
theorem dX12_does_9 : decode cX12_does 9 = .ok (.aload_n 0, 1) := by decide +kernel
theorem dX12_does_10 : decode cX12_does 10 = .ok (.getfield 7, 3) := by decide +kernel
theorem dX12_does_13 : decode cX12_does 13 = .ok (.iload_n 1, 1) := by decide +kernel
theorem dX12_does_14 : decode cX12_does 14 = .ok (.iconst 2, 1) := by decide +kernel
theorem dX12_does_15 : decode cX12_does 15 = .ok (.iadd, 1) := by decide +kernel
theorem dX12_does_16 : decode cX12_does 16 = .ok (.iaload, 1) := by decide +kernel
theorem dX12_does_17 : decode cX12_does 17 = .ok (.istore_n 3, 1) := by decide +kernel
theorem dX12_does_18 : decode cX12_does 18 = .ok (.aload_n 0, 1) := by decide +kernel
theorem dX12_does_19 : decode cX12_does 19 = .ok (.getfield 7, 3) := by decide +kernel
theorem dX12_does_22 : decode cX12_does 22 = .ok (.iload_n 1, 1) := by decide +kernel
theorem dX12_does_23 : decode cX12_does 23 = .ok (.iaload, 1) := by decide +kernel
theorem dX12_does_24 : decode cX12_does 24 = .ok (.tableswitch 116 6 18 #[83, 116, 116, 116, 116, 116, 116, 116, 116, 68, 90, 97, 111], 68) := by decide +kernel
theorem dX12_does_92 : decode cX12_does 92 = .ok (.aload_n 0, 1) := by decide +kernel
theorem dX12_does_93 : decode cX12_does 93 = .ok (.iload_n 2, 1) := by decide +kernel
theorem dX12_does_94 : decode cX12_does 94 = .ok (.iload_n 3, 1) := by decide +kernel
theorem dX12_does_95 : decode cX12_does 95 = .ok (.aload_n 0, 1) := by decide +kernel
theorem dX12_does_96 : decode cX12_does 96 = .ok (.getfield 7, 3) := by decide +kernel
theorem dX12_does_99 : decode cX12_does 99 = .ok (.iload_n 1, 1) := by decide +kernel
theorem dX12_does_100 : decode cX12_does 100 = .ok (.iconst 3, 1) := by decide +kernel
theorem dX12_does_101 : decode cX12_does 101 = .ok (.iadd, 1) := by decide +kernel
theorem dX12_does_102 : decode cX12_does 102 = .ok (.iaload, 1) := by decide +kernel
theorem dX12_does_103 : decode cX12_does 103 = .ok (.invokevirtual 447, 3) := by decide +kernel
theorem dX12_does_106 : decode cX12_does 106 = .ok (.ireturn, 1) := by decide +kernel
theorem dX12_does_107 : decode cX12_does 107 = .ok (.aload_n 0, 1) := by decide +kernel
theorem dX12_does_108 : decode cX12_does 108 = .ok (.iload_n 2, 1) := by decide +kernel
theorem dX12_does_109 : decode cX12_does 109 = .ok (.iload_n 3, 1) := by decide +kernel
theorem dX12_does_110 : decode cX12_does 110 = .ok (.invokevirtual 352, 3) := by decide +kernel
theorem dX12_does_113 : decode cX12_does 113 = .ok (.ireturn, 1) := by decide +kernel
theorem dX12_does_114 : decode cX12_does 114 = .ok (.aload_n 0, 1) := by decide +kernel
theorem dX12_does_115 : decode cX12_does 115 = .ok (.iload_n 2, 1) := by decide +kernel
theorem dX12_does_116 : decode cX12_does 116 = .ok (.iload_n 3, 1) := by decide +kernel
theorem dX12_does_117 : decode cX12_does 117 = .ok (.invokevirtual 450, 3) := by decide +kernel
theorem dX12_does_120 : decode cX12_does 120 = .ok (.ireturn, 1) := by decide +kernel
theorem dX12_does_121 : decode cX12_does 121 = .ok (.aload_n 0, 1) := by decide +kernel
theorem dX12_does_122 : decode cX12_does 122 = .ok (.iload_n 2, 1) := by decide +kernel
theorem dX12_does_123 : decode cX12_does 123 = .ok (.invokevirtual 361, 3) := by decide +kernel
theorem dX12_does_126 : decode cX12_does 126 = .ok (.ifCond .le 7, 3) := by decide +kernel
theorem dX12_does_129 : decode cX12_does 129 = .ok (.iconst 1, 1) := by decide +kernel
theorem dX12_does_130 : decode cX12_does 130 = .ok (.goto 4, 3) := by decide +kernel
theorem dX12_does_133 : decode cX12_does 133 = .ok (.iconst 0, 1) := by decide +kernel
theorem dX12_does_134 : decode cX12_does 134 = .ok (.ireturn, 1) := by decide +kernel
theorem dX12_does_135 : decode cX12_does 135 = .ok (.aload_n 0, 1) := by decide +kernel
theorem dX12_does_136 : decode cX12_does 136 = .ok (.invokevirtual 453, 3) := by decide +kernel
theorem dX12_does_139 : decode cX12_does 139 = .ok (.ireturn, 1) := by decide +kernel
theorem dX12_does_140 : decode cX12_does 140 = .ok (.iconst 1, 1) := by decide +kernel
theorem dX12_does_141 : decode cX12_does 141 = .ok (.ireturn, 1) := by decide +kernel
set_option maxRecDepth 100000 in
def f_X12_does_140  (μ : dtM) : Option (Int32 × dtM) :=
  opRet (1 : Int32) μ
set_option maxRecDepth 100000 in
def f_X12_does_107 (l0 : Nat) (l2 : Int32) (l3 : Int32) (μ : dtM) : Option (Int32 × dtM) :=
  (opRv 12 μ l0).bind fun _ => opCall (f_X12_opens l0 l2 l3 μ) fun x4 μ2 => opRet x4 μ2
set_option maxRecDepth 100000 in
def f_X12_does_92 (l0 : Nat) (l1 : Int32) (l2 : Int32) (l3 : Int32) (μ : dtM) : Option (Int32 × dtM) :=
  (opGR 12 0 μ l0).bind fun x1 => (opLI 1 μ x1 (l1 + (3 : Int32))).bind fun x3 => (opRv 12 μ l0).bind fun _ => opCall (f_X12_closesBy l0 l2 l3 x3 μ) fun x8 μ6 => opRet x8 μ6
set_option maxRecDepth 100000 in
def f_X12_does_114 (l0 : Nat) (l2 : Int32) (l3 : Int32) (μ : dtM) : Option (Int32 × dtM) :=
  (opRv 12 μ l0).bind fun _ => opCall (f_X12_goesBy l0 l2 l3 μ) fun x4 μ2 => opRet x4 μ2
set_option maxRecDepth 100000 in
def f_X12_does_134 (s0 : Int32) (μ : dtM) : Option (Int32 × dtM) :=
  opRet s0 μ
set_option maxRecDepth 100000 in
def f_X12_does_121 (l0 : Nat) (l2 : Int32) (μ : dtM) : Option (Int32 × dtM) :=
  (opRv 12 μ l0).bind fun _ => opCall (f_X12_forgets l0 l2 μ) fun x4 μ2 => if x4 ≤ 0 then (f_X12_does_134 (0 : Int32) μ2) else (f_X12_does_134 (1 : Int32) μ2)
set_option maxRecDepth 100000 in
def f_X12_does_135 (l0 : Nat) (μ : dtM) : Option (Int32 × dtM) :=
  (opRv 12 μ l0).bind fun _ => opCall (f_X12_blows l0 μ) fun x4 μ2 => opRet x4 μ2
set_option maxRecDepth 100000 in
def f_X12_does (p0 : Nat) (p1 : Int32) (μ : dtM) : Option (Int32 × dtM) :=
  (opGR 12 0 μ p0).bind fun x1 => (opLI 1 μ x1 (p1 + (1 : Int32))).bind fun x3 => (opGR 12 0 μ p0).bind fun x5 => (opLI 1 μ x5 (p1 + (2 : Int32))).bind fun x7 => (opGR 12 0 μ p0).bind fun x9 => (opLI 1 μ x9 p1).bind fun x11 => if x11 = 6 then (f_X12_does_107 p0 x3 x7 μ) else if x11 = 15 then (f_X12_does_92 p0 p1 x3 x7 μ) else if x11 = 16 then (f_X12_does_114 p0 x3 x7 μ) else if x11 = 17 then (f_X12_does_121 p0 x3 μ) else if x11 = 18 then (f_X12_does_135 p0 μ) else f_X12_does_140 μ
set_option maxRecDepth 100000 in
theorem c_X12_does_140 {r : Int32} {F : dtM}  (μ : dtM) (h : f_X12_does_140  μ = some (r, F)) : dtW yX12_does cX12_does 4 (some .boolean) 8 (some (.int r)) F 140 [] [] μ := by
  rw [f_X12_does_140] at h
  refine dr_iconst (1 : Int32) dX12_does_140 (by decide) ?_
  obtain ⟨hz, rfl, rfl⟩ := dtRet h
  exact dr_ireturn dX12_does_141 (dtNz hz)
set_option maxRecDepth 100000 in
theorem c_X12_does_107 {r : Int32} {F : dtM} (l0 : Nat) (l2 : Int32) (l3 : Int32) (μ : dtM) (h : f_X12_does_107 l0 l2 l3 μ = some (r, F)) : dtW yX12_does cX12_does 4 (some .boolean) 8 (some (.int r)) F 107 [some (.ref l0), none, some (.int l2), some (.int l3)] [] μ := by
  rw [f_X12_does_107] at h
  refine dr_aload_n l0 dX12_does_107 rfl ?_
  refine dr_iload_n l2 dX12_does_108 rfl ?_
  refine dr_iload_n l3 dX12_does_109 rfl ?_
  obtain ⟨_, hb1, h⟩ := dtBind h
  obtain ⟨x4, μ2, e3, h⟩ := dtCall h
  refine dr_callV_i (S0 := []) [.int l2, .int l3] x4 μ2 dX12_does_110 (c_X12_opens l0 l2 l3 μ e3) mf_X12_opens wt_1823 ws_108 wt_1821 rfl (dtRv hb1) (by decide) rfl (Nat.le_of_ble_eq_true rfl) (Nat.le_of_ble_eq_true rfl) rfl ?_
  obtain ⟨hz, rfl, rfl⟩ := dtRet h
  exact dr_ireturn dX12_does_113 (dtNz hz)
set_option maxRecDepth 100000 in
theorem c_X12_does_92 {r : Int32} {F : dtM} (l0 : Nat) (l1 : Int32) (l2 : Int32) (l3 : Int32) (μ : dtM) (h : f_X12_does_92 l0 l1 l2 l3 μ = some (r, F)) : dtW yX12_does cX12_does 4 (some .boolean) 8 (some (.int r)) F 92 [some (.ref l0), some (.int l1), some (.int l2), some (.int l3)] [] μ := by
  rw [f_X12_does_92] at h
  refine dr_aload_n l0 dX12_does_92 rfl ?_
  refine dr_iload_n l2 dX12_does_93 rfl ?_
  refine dr_iload_n l3 dX12_does_94 rfl ?_
  refine dr_aload_n l0 dX12_does_95 rfl ?_
  obtain ⟨x1, e2, h⟩ := dtBind h
  refine dr_getR x1 dX12_does_96 fl_RX12_7 e2 ?_
  refine dr_iload_n l1 dX12_does_99 rfl ?_
  refine dr_iconst (3 : Int32) dX12_does_100 (by decide) ?_
  refine dr_iadd dX12_does_101 ?_
  obtain ⟨x3, e4, h⟩ := dtBind h
  refine dr_iaload x3 dX12_does_102 e4 ?_
  obtain ⟨_, hb5, h⟩ := dtBind h
  obtain ⟨x8, μ6, e7, h⟩ := dtCall h
  refine dr_callV_i (S0 := []) [.int l2, .int l3, .int x3] x8 μ6 dX12_does_103 (c_X12_closesBy l0 l2 l3 x3 μ e7) mf_X12_closesBy wt_2036 ws_130 wt_2034 rfl (dtRv hb5) (by decide) rfl (Nat.le_of_ble_eq_true rfl) (Nat.le_of_ble_eq_true rfl) rfl ?_
  obtain ⟨hz, rfl, rfl⟩ := dtRet h
  exact dr_ireturn dX12_does_106 (dtNz hz)
set_option maxRecDepth 100000 in
theorem c_X12_does_114 {r : Int32} {F : dtM} (l0 : Nat) (l2 : Int32) (l3 : Int32) (μ : dtM) (h : f_X12_does_114 l0 l2 l3 μ = some (r, F)) : dtW yX12_does cX12_does 4 (some .boolean) 8 (some (.int r)) F 114 [some (.ref l0), none, some (.int l2), some (.int l3)] [] μ := by
  rw [f_X12_does_114] at h
  refine dr_aload_n l0 dX12_does_114 rfl ?_
  refine dr_iload_n l2 dX12_does_115 rfl ?_
  refine dr_iload_n l3 dX12_does_116 rfl ?_
  obtain ⟨_, hb1, h⟩ := dtBind h
  obtain ⟨x4, μ2, e3, h⟩ := dtCall h
  refine dr_callV_i (S0 := []) [.int l2, .int l3] x4 μ2 dX12_does_117 (c_X12_goesBy l0 l2 l3 μ e3) mf_X12_goesBy wt_2044 ws_132 wt_2042 rfl (dtRv hb1) (by decide) rfl (Nat.le_of_ble_eq_true rfl) (Nat.le_of_ble_eq_true rfl) rfl ?_
  obtain ⟨hz, rfl, rfl⟩ := dtRet h
  exact dr_ireturn dX12_does_120 (dtNz hz)
set_option maxRecDepth 100000 in
theorem c_X12_does_134 {r : Int32} {F : dtM} (s0 : Int32) (μ : dtM) (h : f_X12_does_134 s0 μ = some (r, F)) : dtW yX12_does cX12_does 4 (some .boolean) 8 (some (.int r)) F 134 [] [.int s0] μ := by
  rw [f_X12_does_134] at h
  obtain ⟨hz, rfl, rfl⟩ := dtRet h
  exact dr_ireturn dX12_does_134 (dtNz hz)
set_option maxRecDepth 100000 in
theorem c_X12_does_121 {r : Int32} {F : dtM} (l0 : Nat) (l2 : Int32) (μ : dtM) (h : f_X12_does_121 l0 l2 μ = some (r, F)) : dtW yX12_does cX12_does 4 (some .boolean) 8 (some (.int r)) F 121 [some (.ref l0), none, some (.int l2)] [] μ := by
  rw [f_X12_does_121] at h
  refine dr_aload_n l0 dX12_does_121 rfl ?_
  refine dr_iload_n l2 dX12_does_122 rfl ?_
  obtain ⟨_, hb1, h⟩ := dtBind h
  obtain ⟨x4, μ2, e3, h⟩ := dtCall h
  refine dr_callV_i (S0 := []) [.int l2] x4 μ2 dX12_does_123 (c_X12_forgets l0 l2 μ e3) mf_X12_forgets wt_1842 ws_110 wt_1840 rfl (dtRv hb1) (by decide) rfl (Nat.le_of_ble_eq_true rfl) (Nat.le_of_ble_eq_true rfl) rfl ?_
  obtain ⟨ht6, hf7⟩ := dtIte h
  refine dr_if_le 133 dX12_does_126 (by decide) (fun hc5 => ?_) (fun hc5 => ?_)
  · have h := ht6 hc5
    refine dr_iconst (0 : Int32) dX12_does_133 (by decide) ?_
    refine dr_mask [] [] rfl ?_
    exact c_X12_does_134 (0 : Int32) μ2 h
  · have h := hf7 hc5
    refine dr_iconst (1 : Int32) dX12_does_129 (by decide) ?_
    refine dr_goto 134 dX12_does_130 (by decide) ?_
    refine dr_mask [] [] rfl ?_
    exact c_X12_does_134 (1 : Int32) μ2 h
set_option maxRecDepth 100000 in
theorem c_X12_does_135 {r : Int32} {F : dtM} (l0 : Nat) (μ : dtM) (h : f_X12_does_135 l0 μ = some (r, F)) : dtW yX12_does cX12_does 4 (some .boolean) 8 (some (.int r)) F 135 [some (.ref l0)] [] μ := by
  rw [f_X12_does_135] at h
  refine dr_aload_n l0 dX12_does_135 rfl ?_
  obtain ⟨_, hb1, h⟩ := dtBind h
  obtain ⟨x4, μ2, e3, h⟩ := dtCall h
  refine dr_callV_i (S0 := []) [] x4 μ2 dX12_does_136 (c_X12_blows l0 μ e3) mf_X12_blows wt_2048 ws_133 wt_2046 rfl (dtRv hb1) (by decide) rfl (Nat.le_of_ble_eq_true rfl) (Nat.le_of_ble_eq_true rfl) rfl ?_
  obtain ⟨hz, rfl, rfl⟩ := dtRet h
  exact dr_ireturn dX12_does_139 (dtNz hz)
set_option maxRecDepth 100000 in
theorem c_X12_does {r : Int32} {F : dtM} (p0 : Nat) (p1 : Int32) (μ : dtM) (h : f_X12_does p0 p1 μ = some (r, F)) : dtMet yX12_does cX12_does 4 (some .boolean) 8 [.ref p0, .int p1] μ (some (.int r)) F := by
  refine dtMet.of (by decide +kernel) (Nat.le_of_ble_eq_true rfl) (show dtW yX12_does cX12_does 4 (some .boolean) 8 (some (.int r)) F 0 [some (.ref p0), some (.int p1)] [] μ from ?_)
  rw [f_X12_does] at h
  refine dr_aload_n p0 dX12_does_0 rfl ?_
  obtain ⟨x1, e2, h⟩ := dtBind h
  refine dr_getR x1 dX12_does_1 fl_RX12_7 e2 ?_
  refine dr_iload_n p1 dX12_does_4 rfl ?_
  refine dr_iconst (1 : Int32) dX12_does_5 (by decide) ?_
  refine dr_iadd dX12_does_6 ?_
  obtain ⟨x3, e4, h⟩ := dtBind h
  refine dr_iaload x3 dX12_does_7 e4 ?_
  refine dr_istore_n 2 [some (.ref p0), some (.int p1), some (.int x3)] dX12_does_8 rfl rfl rfl rfl ?_
  refine dr_aload_n p0 dX12_does_9 rfl ?_
  obtain ⟨x5, e6, h⟩ := dtBind h
  refine dr_getR x5 dX12_does_10 fl_RX12_7 e6 ?_
  refine dr_iload_n p1 dX12_does_13 rfl ?_
  refine dr_iconst (2 : Int32) dX12_does_14 (by decide) ?_
  refine dr_iadd dX12_does_15 ?_
  obtain ⟨x7, e8, h⟩ := dtBind h
  refine dr_iaload x7 dX12_does_16 e8 ?_
  refine dr_istore_n 3 [some (.ref p0), some (.int p1), some (.int x3), some (.int x7)] dX12_does_17 rfl rfl rfl rfl ?_
  refine dr_aload_n p0 dX12_does_18 rfl ?_
  obtain ⟨x9, e10, h⟩ := dtBind h
  refine dr_getR x9 dX12_does_19 fl_RX12_7 e10 ?_
  refine dr_iload_n p1 dX12_does_22 rfl ?_
  obtain ⟨x11, e12, h⟩ := dtBind h
  refine dr_iaload x11 dX12_does_23 e12 ?_
  obtain ⟨ht13, h⟩ := dtIte h
  refine Decidable.byCases (dec := inferInstance) (fun hc15 : x11 = 6 => ?_) (fun hc15 => ?_)
  · have h := ht13 hc15
    refine dr_tableIn (off := 83) 107 dX12_does_24 (by rw [hc15]; decide) (by rw [hc15]; decide) (by rw [hc15]; rfl) (by decide) ?_
    refine dr_mask [true, false, true, true] [some (.ref p0), none, some (.int x3), some (.int x7)] rfl ?_
    exact c_X12_does_107 p0 x3 x7 μ h
  have h := h hc15
  obtain ⟨ht16, h⟩ := dtIte h
  refine Decidable.byCases (dec := inferInstance) (fun hc18 : x11 = 15 => ?_) (fun hc18 => ?_)
  · have h := ht16 hc18
    refine dr_tableIn (off := 68) 92 dX12_does_24 (by rw [hc18]; decide) (by rw [hc18]; decide) (by rw [hc18]; rfl) (by decide) ?_
    exact c_X12_does_92 p0 p1 x3 x7 μ h
  have h := h hc18
  obtain ⟨ht19, h⟩ := dtIte h
  refine Decidable.byCases (dec := inferInstance) (fun hc21 : x11 = 16 => ?_) (fun hc21 => ?_)
  · have h := ht19 hc21
    refine dr_tableIn (off := 90) 114 dX12_does_24 (by rw [hc21]; decide) (by rw [hc21]; decide) (by rw [hc21]; rfl) (by decide) ?_
    refine dr_mask [true, false, true, true] [some (.ref p0), none, some (.int x3), some (.int x7)] rfl ?_
    exact c_X12_does_114 p0 x3 x7 μ h
  have h := h hc21
  obtain ⟨ht22, h⟩ := dtIte h
  refine Decidable.byCases (dec := inferInstance) (fun hc24 : x11 = 17 => ?_) (fun hc24 => ?_)
  · have h := ht22 hc24
    refine dr_tableIn (off := 97) 121 dX12_does_24 (by rw [hc24]; decide) (by rw [hc24]; decide) (by rw [hc24]; rfl) (by decide) ?_
    refine dr_mask [true, false, true] [some (.ref p0), none, some (.int x3)] rfl ?_
    exact c_X12_does_121 p0 x3 μ h
  have h := h hc24
  obtain ⟨ht25, h⟩ := dtIte h
  refine Decidable.byCases (dec := inferInstance) (fun hc27 : x11 = 18 => ?_) (fun hc27 => ?_)
  · have h := ht25 hc27
    refine dr_tableIn (off := 111) 135 dX12_does_24 (by rw [hc27]; decide) (by rw [hc27]; decide) (by rw [hc27]; rfl) (by decide) ?_
    refine dr_mask [true] [some (.ref p0)] rfl ?_
    exact c_X12_does_135 p0 μ h
  have h := h hc27
  have kd28 : dtW yX12_does cX12_does 4 (some .boolean) 8 (some (.int r)) F 140 [some (.ref p0), some (.int p1), some (.int x3), some (.int x7)] [] μ := by
    refine dr_mask [] [] rfl ?_
    exact c_X12_does_140 μ h
  refine Decidable.byCases (dec := inferInstance) (fun hlo : (x11).toInt < 6 ∨ 18 < (x11).toInt => dr_tableOut 140 dX12_does_24 hlo (by decide) kd28) (fun hlo => ?_)
  obtain ⟨hl1, hl2⟩ := not_or.mp hlo
  have hv : (x11).toInt = 6 ∨ (x11).toInt = 7 ∨ (x11).toInt = 8 ∨ (x11).toInt = 9 ∨ (x11).toInt = 10 ∨ (x11).toInt = 11 ∨ (x11).toInt = 12 ∨ (x11).toInt = 13 ∨ (x11).toInt = 14 ∨ (x11).toInt = 15 ∨ (x11).toInt = 16 ∨ (x11).toInt = 17 ∨ (x11).toInt = 18 := by omega
  rcases hv with hv | hv | hv | hv | hv | hv | hv | hv | hv | hv | hv | hv | hv
  · exact absurd (Int32.toInt_inj.mp (hv.trans (show (6 : Int) = (6 : Int32).toInt by decide))) hc15
  · exact dr_tableIn (off := 116) 140 dX12_does_24 hl1 hl2 (by rw [hv]; rfl) (by decide) kd28
  · exact dr_tableIn (off := 116) 140 dX12_does_24 hl1 hl2 (by rw [hv]; rfl) (by decide) kd28
  · exact dr_tableIn (off := 116) 140 dX12_does_24 hl1 hl2 (by rw [hv]; rfl) (by decide) kd28
  · exact dr_tableIn (off := 116) 140 dX12_does_24 hl1 hl2 (by rw [hv]; rfl) (by decide) kd28
  · exact dr_tableIn (off := 116) 140 dX12_does_24 hl1 hl2 (by rw [hv]; rfl) (by decide) kd28
  · exact dr_tableIn (off := 116) 140 dX12_does_24 hl1 hl2 (by rw [hv]; rfl) (by decide) kd28
  · exact dr_tableIn (off := 116) 140 dX12_does_24 hl1 hl2 (by rw [hv]; rfl) (by decide) kd28
  · exact dr_tableIn (off := 116) 140 dX12_does_24 hl1 hl2 (by rw [hv]; rfl) (by decide) kd28
  · exact absurd (Int32.toInt_inj.mp (hv.trans (show (15 : Int) = (15 : Int32).toInt by decide))) hc18
  · exact absurd (Int32.toInt_inj.mp (hv.trans (show (16 : Int) = (16 : Int32).toInt by decide))) hc21
  · exact absurd (Int32.toInt_inj.mp (hv.trans (show (17 : Int) = (17 : Int32).toInt by decide))) hc24
  · exact absurd (Int32.toInt_inj.mp (hv.trans (show (18 : Int) = (18 : Int32).toInt by decide))) hc27
/-! X12_holds -/
theorem dX12_holds_0 : decode cX12_holds 0 = .ok (.aload_n 0, 1) := by decide +kernel
theorem dX12_holds_1 : decode cX12_holds 1 = .ok (.getfield 7, 3) := by decide +kernel
theorem dX12_holds_4 : decode cX12_holds 4 = .ok (.iload_n 1, 1) := by decide +kernel
theorem dX12_holds_5 : decode cX12_holds 5 = .ok (.iaload, 1) := by decide +kernel
theorem dX12_holds_6 : decode cX12_holds 6 = .ok (.sipush 1900, 3) := by decide +kernel
theorem dX12_holds_9 : decode cX12_holds 9 = .ok (.isub, 1) := by decide +kernel
theorem dX12_holds_10 : decode cX12_holds 10 = .ok (.istore_n 2, 1) := by decide +kernel
theorem dX12_holds_11 : decode cX12_holds 11 = .ok (.aload_n 0, 1) := by decide +kernel
theorem dX12_holds_12 : decode cX12_holds 12 = .ok (.getfield 7, 3) := by decide +kernel
theorem dX12_holds_15 : decode cX12_holds 15 = .ok (.iload_n 1, 1) := by decide +kernel
theorem dX12_holds_16 : decode cX12_holds 16 = .ok (.iconst 1, 1) := by decide +kernel
theorem dX12_holds_17 : decode cX12_holds 17 = .ok (.iadd, 1) := by decide +kernel
theorem dX12_holds_18 : decode cX12_holds 18 = .ok (.iaload, 1) := by decide +kernel
theorem dX12_holds_19 : decode cX12_holds 19 = .ok (.istore_n 3, 1) := by decide +kernel
theorem dX12_holds_20 : decode cX12_holds 20 = .ok (.iload_n 2, 1) := by decide +kernel
theorem dX12_holds_21 : decode cX12_holds 21 = .ok (.bipush 6, 2) := by decide +kernel
theorem dX12_holds_23 : decode cX12_holds 23 = .ok (.if_icmp .ne 9, 3) := by decide +kernel
theorem dX12_holds_26 : decode cX12_holds 26 = .ok (.aload_n 0, 1) := by decide +kernel
theorem dX12_holds_27 : decode cX12_holds 27 = .ok (.iload_n 3, 1) := by decide +kernel
theorem dX12_holds_28 : decode cX12_holds 28 = .ok (.invokevirtual 311, 3) := by decide +kernel
theorem dX12_holds_31 : decode cX12_holds 31 = .ok (.ireturn, 1) := by decide +kernel
theorem dX12_holds_32 : decode cX12_holds 32 = .ok (.iload_n 2, 1) := by decide +kernel
theorem dX12_holds_33 : decode cX12_holds 33 = .ok (.bipush 12, 2) := by decide +kernel
theorem dX12_holds_35 : decode cX12_holds 35 = .ok (.if_icmp .ne 26, 3) := by decide +kernel
theorem dX12_holds_38 : decode cX12_holds 38 = .ok (.aload_n 0, 1) := by decide +kernel
theorem dX12_holds_39 : decode cX12_holds 39 = .ok (.iload_n 3, 1) := by decide +kernel
theorem dX12_holds_40 : decode cX12_holds 40 = .ok (.iconst 0, 1) := by decide +kernel
theorem dX12_holds_41 : decode cX12_holds 41 = .ok (.invokevirtual 295, 3) := by decide +kernel
theorem dX12_holds_44 : decode cX12_holds 44 = .ok (.aload_n 0, 1) := by decide +kernel
theorem dX12_holds_45 : decode cX12_holds 45 = .ok (.getfield 7, 3) := by decide +kernel
theorem dX12_holds_48 : decode cX12_holds 48 = .ok (.iload_n 1, 1) := by decide +kernel
theorem dX12_holds_49 : decode cX12_holds 49 = .ok (.iconst 2, 1) := by decide +kernel
theorem dX12_holds_50 : decode cX12_holds 50 = .ok (.iadd, 1) := by decide +kernel
theorem dX12_holds_51 : decode cX12_holds 51 = .ok (.iaload, 1) := by decide +kernel
theorem dX12_holds_52 : decode cX12_holds 52 = .ok (.if_icmp .ne 7, 3) := by decide +kernel
theorem dX12_holds_55 : decode cX12_holds 55 = .ok (.iconst 1, 1) := by decide +kernel
theorem dX12_holds_56 : decode cX12_holds 56 = .ok (.goto 4, 3) := by decide +kernel
theorem dX12_holds_59 : decode cX12_holds 59 = .ok (.iconst 0, 1) := by decide +kernel
theorem dX12_holds_60 : decode cX12_holds 60 = .ok (.ireturn, 1) := by decide +kernel
theorem dX12_holds_61 : decode cX12_holds 61 = .ok (.aload_n 0, 1) := by decide +kernel
theorem dX12_holds_62 : decode cX12_holds 62 = .ok (.iload_n 3, 1) := by decide +kernel
theorem dX12_holds_63 : decode cX12_holds 63 = .ok (.iconst 3, 1) := by decide +kernel
theorem dX12_holds_64 : decode cX12_holds 64 = .ok (.invokevirtual 295, 3) := by decide +kernel
theorem dX12_holds_67 : decode cX12_holds 67 = .ok (.istore 4, 2) := by decide +kernel
theorem dX12_holds_69 : decode cX12_holds 69 = .ok (.aload_n 0, 1) := by decide +kernel
theorem dX12_holds_70 : decode cX12_holds 70 = .ok (.getfield 7, 3) := by decide +kernel
theorem dX12_holds_73 : decode cX12_holds 73 = .ok (.iload_n 1, 1) := by decide +kernel
theorem dX12_holds_74 : decode cX12_holds 74 = .ok (.iconst 5, 1) := by decide +kernel
theorem dX12_holds_75 : decode cX12_holds 75 = .ok (.iadd, 1) := by decide +kernel
theorem dX12_holds_76 : decode cX12_holds 76 = .ok (.iaload, 1) := by decide +kernel
theorem dX12_holds_77 : decode cX12_holds 77 = .ok (.bipush 60, 2) := by decide +kernel
theorem dX12_holds_79 : decode cX12_holds 79 = .ok (.if_icmp .ne 24, 3) := by decide +kernel
theorem dX12_holds_82 : decode cX12_holds 82 = .ok (.iload 4, 2) := by decide +kernel
theorem dX12_holds_84 : decode cX12_holds 84 = .ok (.aload_n 0, 1) := by decide +kernel
theorem dX12_holds_85 : decode cX12_holds 85 = .ok (.getfield 7, 3) := by decide +kernel
theorem dX12_holds_88 : decode cX12_holds 88 = .ok (.iload_n 1, 1) := by decide +kernel
theorem dX12_holds_89 : decode cX12_holds 89 = .ok (.iconst 2, 1) := by decide +kernel
theorem dX12_holds_90 : decode cX12_holds 90 = .ok (.iadd, 1) := by decide +kernel
theorem dX12_holds_91 : decode cX12_holds 91 = .ok (.iaload, 1) := by decide +kernel
theorem dX12_holds_92 : decode cX12_holds 92 = .ok (.if_icmp .ge 7, 3) := by decide +kernel
theorem dX12_holds_95 : decode cX12_holds 95 = .ok (.iconst 1, 1) := by decide +kernel
theorem dX12_holds_96 : decode cX12_holds 96 = .ok (.goto 59, 3) := by decide +kernel
theorem dX12_holds_99 : decode cX12_holds 99 = .ok (.iconst 0, 1) := by decide +kernel
theorem dX12_holds_100 : decode cX12_holds 100 = .ok (.goto 55, 3) := by decide +kernel
theorem dX12_holds_103 : decode cX12_holds 103 = .ok (.aload_n 0, 1) := by decide +kernel
theorem dX12_holds_104 : decode cX12_holds 104 = .ok (.getfield 7, 3) := by decide +kernel
theorem dX12_holds_107 : decode cX12_holds 107 = .ok (.iload_n 1, 1) := by decide +kernel
theorem dX12_holds_108 : decode cX12_holds 108 = .ok (.iconst 5, 1) := by decide +kernel
theorem dX12_holds_109 : decode cX12_holds 109 = .ok (.iadd, 1) := by decide +kernel
theorem dX12_holds_110 : decode cX12_holds 110 = .ok (.iaload, 1) := by decide +kernel
theorem dX12_holds_111 : decode cX12_holds 111 = .ok (.bipush 62, 2) := by decide +kernel
theorem dX12_holds_113 : decode cX12_holds 113 = .ok (.if_icmp .ne 24, 3) := by decide +kernel
theorem dX12_holds_116 : decode cX12_holds 116 = .ok (.iload 4, 2) := by decide +kernel
theorem dX12_holds_118 : decode cX12_holds 118 = .ok (.aload_n 0, 1) := by decide +kernel
theorem dX12_holds_119 : decode cX12_holds 119 = .ok (.getfield 7, 3) := by decide +kernel
theorem dX12_holds_122 : decode cX12_holds 122 = .ok (.iload_n 1, 1) := by decide +kernel
theorem dX12_holds_123 : decode cX12_holds 123 = .ok (.iconst 2, 1) := by decide +kernel
theorem dX12_holds_124 : decode cX12_holds 124 = .ok (.iadd, 1) := by decide +kernel
theorem dX12_holds_125 : decode cX12_holds 125 = .ok (.iaload, 1) := by decide +kernel
theorem dX12_holds_126 : decode cX12_holds 126 = .ok (.if_icmp .le 7, 3) := by decide +kernel
theorem dX12_holds_129 : decode cX12_holds 129 = .ok (.iconst 1, 1) := by decide +kernel
theorem dX12_holds_130 : decode cX12_holds 130 = .ok (.goto 25, 3) := by decide +kernel
theorem dX12_holds_133 : decode cX12_holds 133 = .ok (.iconst 0, 1) := by decide +kernel
theorem dX12_holds_134 : decode cX12_holds 134 = .ok (.goto 21, 3) := by decide +kernel
theorem dX12_holds_137 : decode cX12_holds 137 = .ok (.iload 4, 2) := by decide +kernel
theorem dX12_holds_139 : decode cX12_holds 139 = .ok (.aload_n 0, 1) := by decide +kernel
theorem dX12_holds_140 : decode cX12_holds 140 = .ok (.getfield 7, 3) := by decide +kernel
theorem dX12_holds_143 : decode cX12_holds 143 = .ok (.iload_n 1, 1) := by decide +kernel
theorem dX12_holds_144 : decode cX12_holds 144 = .ok (.iconst 2, 1) := by decide +kernel
theorem dX12_holds_145 : decode cX12_holds 145 = .ok (.iadd, 1) := by decide +kernel
theorem dX12_holds_146 : decode cX12_holds 146 = .ok (.iaload, 1) := by decide +kernel
theorem dX12_holds_147 : decode cX12_holds 147 = .ok (.if_icmp .ne 7, 3) := by decide +kernel
theorem dX12_holds_150 : decode cX12_holds 150 = .ok (.iconst 1, 1) := by decide +kernel
theorem dX12_holds_151 : decode cX12_holds 151 = .ok (.goto 4, 3) := by decide +kernel
theorem dX12_holds_154 : decode cX12_holds 154 = .ok (.iconst 0, 1) := by decide +kernel
theorem dX12_holds_155 : decode cX12_holds 155 = .ok (.ireturn, 1) := by decide +kernel
set_option maxRecDepth 100000 in
def f_X12_holds_155 (s0 : Int32) (μ : dtM) : Option (Int32 × dtM) :=
  opRet s0 μ
set_option maxRecDepth 100000 in
def f_X12_holds_60 (s0 : Int32) (μ : dtM) : Option (Int32 × dtM) :=
  opRet s0 μ
set_option maxRecDepth 100000 in
def f_X12_holds (p0 : Nat) (p1 : Int32) (μ : dtM) : Option (Int32 × dtM) :=
  (opGR 12 0 μ p0).bind fun x1 => (opLI 1 μ x1 p1).bind fun x3 => (some (x3 - (1900 : Int32))).bind fun x5 => (opGR 12 0 μ p0).bind fun x7 => (opLI 1 μ x7 (p1 + (1 : Int32))).bind fun x9 => if x5 = (6 : Int32) then ((opRv 12 μ p0).bind fun _ => opCall (f_X12_isOpen p0 x9 μ) fun x70 μ68 => opRet x70 μ68) else (if x5 = (12 : Int32) then ((opRv 12 μ p0).bind fun _ => opCall (f_X12_personOf p0 x9 (0 : Int32) μ) fun x59 μ57 => (opGR 12 0 μ57 p0).bind fun x60 => (opLI 1 μ57 x60 (p1 + (2 : Int32))).bind fun x62 => if x59 = x62 then (f_X12_holds_60 (1 : Int32) μ57) else (f_X12_holds_60 (0 : Int32) μ57)) else ((opRv 12 μ p0).bind fun _ => opCall (f_X12_personOf p0 x9 (3 : Int32) μ) fun x20 μ18 => (opGR 12 0 μ18 p0).bind fun x21 => (opLI 1 μ18 x21 (p1 + (5 : Int32))).bind fun x23 => if x23 = (60 : Int32) then ((opGR 12 0 μ18 p0).bind fun x49 => (opLI 1 μ18 x49 (p1 + (2 : Int32))).bind fun x51 => if x51 ≤ x20 then (f_X12_holds_155 (0 : Int32) μ18) else (f_X12_holds_155 (1 : Int32) μ18)) else ((opGR 12 0 μ18 p0).bind fun x28 => (opLI 1 μ18 x28 (p1 + (5 : Int32))).bind fun x30 => if x30 = (62 : Int32) then ((opGR 12 0 μ18 p0).bind fun x42 => (opLI 1 μ18 x42 (p1 + (2 : Int32))).bind fun x44 => if x20 ≤ x44 then (f_X12_holds_155 (0 : Int32) μ18) else (f_X12_holds_155 (1 : Int32) μ18)) else ((opGR 12 0 μ18 p0).bind fun x35 => (opLI 1 μ18 x35 (p1 + (2 : Int32))).bind fun x37 => if x20 = x37 then (f_X12_holds_155 (1 : Int32) μ18) else (f_X12_holds_155 (0 : Int32) μ18)))))
set_option maxRecDepth 100000 in
theorem c_X12_holds_155 {r : Int32} {F : dtM} (s0 : Int32) (μ : dtM) (h : f_X12_holds_155 s0 μ = some (r, F)) : dtW yX12_holds cX12_holds 5 (some .boolean) 3 (some (.int r)) F 155 [] [.int s0] μ := by
  rw [f_X12_holds_155] at h
  obtain ⟨hz, rfl, rfl⟩ := dtRet h
  exact dr_ireturn dX12_holds_155 (dtNz hz)
set_option maxRecDepth 100000 in
theorem c_X12_holds_60 {r : Int32} {F : dtM} (s0 : Int32) (μ : dtM) (h : f_X12_holds_60 s0 μ = some (r, F)) : dtW yX12_holds cX12_holds 5 (some .boolean) 3 (some (.int r)) F 60 [] [.int s0] μ := by
  rw [f_X12_holds_60] at h
  obtain ⟨hz, rfl, rfl⟩ := dtRet h
  exact dr_ireturn dX12_holds_60 (dtNz hz)
set_option maxRecDepth 100000 in
theorem c_X12_holds {r : Int32} {F : dtM} (p0 : Nat) (p1 : Int32) (μ : dtM) (h : f_X12_holds p0 p1 μ = some (r, F)) : dtMet yX12_holds cX12_holds 5 (some .boolean) 3 [.ref p0, .int p1] μ (some (.int r)) F := by
  refine dtMet.of (by decide +kernel) (Nat.le_of_ble_eq_true rfl) (show dtW yX12_holds cX12_holds 5 (some .boolean) 3 (some (.int r)) F 0 [some (.ref p0), some (.int p1)] [] μ from ?_)
  rw [f_X12_holds] at h
  refine dr_aload_n p0 dX12_holds_0 rfl ?_
  obtain ⟨x1, e2, h⟩ := dtBind h
  refine dr_getR x1 dX12_holds_1 fl_RX12_7 e2 ?_
  refine dr_iload_n p1 dX12_holds_4 rfl ?_
  obtain ⟨x3, e4, h⟩ := dtBind h
  refine dr_iaload x3 dX12_holds_5 e4 ?_
  refine dr_sipush (1900 : Int32) dX12_holds_6 (by decide) ?_
  refine dr_isub dX12_holds_9 ?_
  obtain ⟨x5, e6, h⟩ := dtBind h
  refine dr_nmi e6 ?_
  refine dr_istore_n 2 [some (.ref p0), some (.int p1), some (.int x5)] dX12_holds_10 rfl rfl rfl rfl ?_
  refine dr_aload_n p0 dX12_holds_11 rfl ?_
  obtain ⟨x7, e8, h⟩ := dtBind h
  refine dr_getR x7 dX12_holds_12 fl_RX12_7 e8 ?_
  refine dr_iload_n p1 dX12_holds_15 rfl ?_
  refine dr_iconst (1 : Int32) dX12_holds_16 (by decide) ?_
  refine dr_iadd dX12_holds_17 ?_
  obtain ⟨x9, e10, h⟩ := dtBind h
  refine dr_iaload x9 dX12_holds_18 e10 ?_
  refine dr_istore_n 3 [some (.ref p0), some (.int p1), some (.int x5), some (.int x9)] dX12_holds_19 rfl rfl rfl rfl ?_
  refine dr_iload_n x5 dX12_holds_20 rfl ?_
  refine dr_bipush (6 : Int32) dX12_holds_21 (by decide) ?_
  obtain ⟨ht12, hf13⟩ := dtIte h
  refine dr_icmp_ne 32 dX12_holds_23 (by decide) (fun hc11 => ?_) (fun hc11 => ?_)
  · have h := hf13 hc11
    refine dr_iload_n x5 dX12_holds_32 rfl ?_
    refine dr_bipush (12 : Int32) dX12_holds_33 (by decide) ?_
    obtain ⟨ht15, hf16⟩ := dtIte h
    refine dr_icmp_ne 61 dX12_holds_35 (by decide) (fun hc14 => ?_) (fun hc14 => ?_)
    · have h := hf16 hc14
      refine dr_aload_n p0 dX12_holds_61 rfl ?_
      refine dr_iload_n x9 dX12_holds_62 rfl ?_
      refine dr_iconst (3 : Int32) dX12_holds_63 (by decide) ?_
      obtain ⟨_, hb17, h⟩ := dtBind h
      obtain ⟨x20, μ18, e19, h⟩ := dtCall h
      refine dr_callV_i (S0 := []) [.int x9, .int (3 : Int32)] x20 μ18 dX12_holds_64 (c_X12_personOf p0 x9 (3 : Int32) μ e19) mf_X12_personOf wt_1736 ws_96 wt_1734 rfl (dtRv hb17) (by decide) rfl (Nat.le_of_ble_eq_true rfl) (Nat.le_of_ble_eq_true rfl) rfl ?_
      refine dr_istore [some (.ref p0), some (.int p1), some (.int x5), some (.int x9), some (.int x20)] dX12_holds_67 rfl rfl rfl ?_
      refine dr_aload_n p0 dX12_holds_69 rfl ?_
      obtain ⟨x21, e22, h⟩ := dtBind h
      refine dr_getR x21 dX12_holds_70 fl_RX12_7 e22 ?_
      refine dr_iload_n p1 dX12_holds_73 rfl ?_
      refine dr_iconst (5 : Int32) dX12_holds_74 (by decide) ?_
      refine dr_iadd dX12_holds_75 ?_
      obtain ⟨x23, e24, h⟩ := dtBind h
      refine dr_iaload x23 dX12_holds_76 e24 ?_
      refine dr_bipush (60 : Int32) dX12_holds_77 (by decide) ?_
      obtain ⟨ht26, hf27⟩ := dtIte h
      refine dr_icmp_ne 103 dX12_holds_79 (by decide) (fun hc25 => ?_) (fun hc25 => ?_)
      · have h := hf27 hc25
        refine dr_aload_n p0 dX12_holds_103 rfl ?_
        obtain ⟨x28, e29, h⟩ := dtBind h
        refine dr_getR x28 dX12_holds_104 fl_RX12_7 e29 ?_
        refine dr_iload_n p1 dX12_holds_107 rfl ?_
        refine dr_iconst (5 : Int32) dX12_holds_108 (by decide) ?_
        refine dr_iadd dX12_holds_109 ?_
        obtain ⟨x30, e31, h⟩ := dtBind h
        refine dr_iaload x30 dX12_holds_110 e31 ?_
        refine dr_bipush (62 : Int32) dX12_holds_111 (by decide) ?_
        obtain ⟨ht33, hf34⟩ := dtIte h
        refine dr_icmp_ne 137 dX12_holds_113 (by decide) (fun hc32 => ?_) (fun hc32 => ?_)
        · have h := hf34 hc32
          refine dr_iload x20 dX12_holds_137 rfl ?_
          refine dr_aload_n p0 dX12_holds_139 rfl ?_
          obtain ⟨x35, e36, h⟩ := dtBind h
          refine dr_getR x35 dX12_holds_140 fl_RX12_7 e36 ?_
          refine dr_iload_n p1 dX12_holds_143 rfl ?_
          refine dr_iconst (2 : Int32) dX12_holds_144 (by decide) ?_
          refine dr_iadd dX12_holds_145 ?_
          obtain ⟨x37, e38, h⟩ := dtBind h
          refine dr_iaload x37 dX12_holds_146 e38 ?_
          obtain ⟨ht40, hf41⟩ := dtIte h
          refine dr_icmp_ne 154 dX12_holds_147 (by decide) (fun hc39 => ?_) (fun hc39 => ?_)
          · have h := hf41 hc39
            refine dr_iconst (0 : Int32) dX12_holds_154 (by decide) ?_
            refine dr_mask [] [] rfl ?_
            exact c_X12_holds_155 (0 : Int32) μ18 h
          · have h := ht40 hc39
            refine dr_iconst (1 : Int32) dX12_holds_150 (by decide) ?_
            refine dr_goto 155 dX12_holds_151 (by decide) ?_
            refine dr_mask [] [] rfl ?_
            exact c_X12_holds_155 (1 : Int32) μ18 h
        · have h := ht33 hc32
          refine dr_iload x20 dX12_holds_116 rfl ?_
          refine dr_aload_n p0 dX12_holds_118 rfl ?_
          obtain ⟨x42, e43, h⟩ := dtBind h
          refine dr_getR x42 dX12_holds_119 fl_RX12_7 e43 ?_
          refine dr_iload_n p1 dX12_holds_122 rfl ?_
          refine dr_iconst (2 : Int32) dX12_holds_123 (by decide) ?_
          refine dr_iadd dX12_holds_124 ?_
          obtain ⟨x44, e45, h⟩ := dtBind h
          refine dr_iaload x44 dX12_holds_125 e45 ?_
          obtain ⟨ht47, hf48⟩ := dtIte h
          refine dr_icmp_le 133 dX12_holds_126 (by decide) (fun hc46 => ?_) (fun hc46 => ?_)
          · have h := ht47 hc46
            refine dr_iconst (0 : Int32) dX12_holds_133 (by decide) ?_
            refine dr_goto 155 dX12_holds_134 (by decide) ?_
            refine dr_mask [] [] rfl ?_
            exact c_X12_holds_155 (0 : Int32) μ18 h
          · have h := hf48 hc46
            refine dr_iconst (1 : Int32) dX12_holds_129 (by decide) ?_
            refine dr_goto 155 dX12_holds_130 (by decide) ?_
            refine dr_mask [] [] rfl ?_
            exact c_X12_holds_155 (1 : Int32) μ18 h
      · have h := ht26 hc25
        refine dr_iload x20 dX12_holds_82 rfl ?_
        refine dr_aload_n p0 dX12_holds_84 rfl ?_
        obtain ⟨x49, e50, h⟩ := dtBind h
        refine dr_getR x49 dX12_holds_85 fl_RX12_7 e50 ?_
        refine dr_iload_n p1 dX12_holds_88 rfl ?_
        refine dr_iconst (2 : Int32) dX12_holds_89 (by decide) ?_
        refine dr_iadd dX12_holds_90 ?_
        obtain ⟨x51, e52, h⟩ := dtBind h
        refine dr_iaload x51 dX12_holds_91 e52 ?_
        obtain ⟨ht54, hf55⟩ := dtIte h
        refine dr_icmp_ge 99 dX12_holds_92 (by decide) (fun hc53 => ?_) (fun hc53 => ?_)
        · have h := ht54 hc53
          refine dr_iconst (0 : Int32) dX12_holds_99 (by decide) ?_
          refine dr_goto 155 dX12_holds_100 (by decide) ?_
          refine dr_mask [] [] rfl ?_
          exact c_X12_holds_155 (0 : Int32) μ18 h
        · have h := hf55 hc53
          refine dr_iconst (1 : Int32) dX12_holds_95 (by decide) ?_
          refine dr_goto 155 dX12_holds_96 (by decide) ?_
          refine dr_mask [] [] rfl ?_
          exact c_X12_holds_155 (1 : Int32) μ18 h
    · have h := ht15 hc14
      refine dr_aload_n p0 dX12_holds_38 rfl ?_
      refine dr_iload_n x9 dX12_holds_39 rfl ?_
      refine dr_iconst (0 : Int32) dX12_holds_40 (by decide) ?_
      obtain ⟨_, hb56, h⟩ := dtBind h
      obtain ⟨x59, μ57, e58, h⟩ := dtCall h
      refine dr_callV_i (S0 := []) [.int x9, .int (0 : Int32)] x59 μ57 dX12_holds_41 (c_X12_personOf p0 x9 (0 : Int32) μ e58) mf_X12_personOf wt_1736 ws_96 wt_1734 rfl (dtRv hb56) (by decide) rfl (Nat.le_of_ble_eq_true rfl) (Nat.le_of_ble_eq_true rfl) rfl ?_
      refine dr_aload_n p0 dX12_holds_44 rfl ?_
      obtain ⟨x60, e61, h⟩ := dtBind h
      refine dr_getR x60 dX12_holds_45 fl_RX12_7 e61 ?_
      refine dr_iload_n p1 dX12_holds_48 rfl ?_
      refine dr_iconst (2 : Int32) dX12_holds_49 (by decide) ?_
      refine dr_iadd dX12_holds_50 ?_
      obtain ⟨x62, e63, h⟩ := dtBind h
      refine dr_iaload x62 dX12_holds_51 e63 ?_
      obtain ⟨ht65, hf66⟩ := dtIte h
      refine dr_icmp_ne 59 dX12_holds_52 (by decide) (fun hc64 => ?_) (fun hc64 => ?_)
      · have h := hf66 hc64
        refine dr_iconst (0 : Int32) dX12_holds_59 (by decide) ?_
        refine dr_mask [] [] rfl ?_
        exact c_X12_holds_60 (0 : Int32) μ57 h
      · have h := ht65 hc64
        refine dr_iconst (1 : Int32) dX12_holds_55 (by decide) ?_
        refine dr_goto 60 dX12_holds_56 (by decide) ?_
        refine dr_mask [] [] rfl ?_
        exact c_X12_holds_60 (1 : Int32) μ57 h
  · have h := ht12 hc11
    refine dr_aload_n p0 dX12_holds_26 rfl ?_
    refine dr_iload_n x9 dX12_holds_27 rfl ?_
    obtain ⟨_, hb67, h⟩ := dtBind h
    obtain ⟨x70, μ68, e69, h⟩ := dtCall h
    refine dr_callV_i (S0 := []) [.int x9] x70 μ68 dX12_holds_28 (c_X12_isOpen p0 x9 μ e69) mf_X12_isOpen wt_1757 ws_99 wt_1755 rfl (dtRv hb67) (by decide) rfl (Nat.le_of_ble_eq_true rfl) (Nat.le_of_ble_eq_true rfl) rfl ?_
    obtain ⟨hz, rfl, rfl⟩ := dtRet h
    exact dr_ireturn dX12_holds_31 (dtNz hz)
/-! X12_behindEnds -/
theorem dX12_behindEnds_0 : decode cX12_behindEnds 0 = .ok (.iload_n 1, 1) := by decide +kernel
theorem dX12_behindEnds_1 : decode cX12_behindEnds 1 = .ok (.istore_n 2, 1) := by decide +kernel
theorem dX12_behindEnds_2 : decode cX12_behindEnds 2 = .ok (.iload_n 2, 1) := by decide +kernel
theorem dX12_behindEnds_3 : decode cX12_behindEnds 3 = .ok (.aload_n 0, 1) := by decide +kernel
theorem dX12_behindEnds_4 : decode cX12_behindEnds 4 = .ok (.getfield 7, 3) := by decide +kernel
theorem dX12_behindEnds_7 : decode cX12_behindEnds 7 = .ok (.bipush 7, 2) := by decide +kernel
theorem dX12_behindEnds_9 : decode cX12_behindEnds 9 = .ok (.iaload, 1) := by decide +kernel
theorem dX12_behindEnds_10 : decode cX12_behindEnds 10 = .ok (.if_icmp .ge 108, 3) := by decide +kernel
theorem dX12_behindEnds_13 : decode cX12_behindEnds 13 = .ok (.aload_n 0, 1) := by decide +kernel
theorem dX12_behindEnds_14 : decode cX12_behindEnds 14 = .ok (.getfield 7, 3) := by decide +kernel
theorem dX12_behindEnds_17 : decode cX12_behindEnds 17 = .ok (.sipush 136, 3) := by decide +kernel
theorem dX12_behindEnds_20 : decode cX12_behindEnds 20 = .ok (.bipush 6, 2) := by decide +kernel
theorem dX12_behindEnds_22 : decode cX12_behindEnds 22 = .ok (.iload_n 2, 1) := by decide +kernel
theorem dX12_behindEnds_23 : decode cX12_behindEnds 23 = .ok (.imul, 1) := by decide +kernel
theorem dX12_behindEnds_24 : decode cX12_behindEnds 24 = .ok (.iadd, 1) := by decide +kernel
theorem dX12_behindEnds_25 : decode cX12_behindEnds 25 = .ok (.iaload, 1) := by decide +kernel
theorem dX12_behindEnds_26 : decode cX12_behindEnds 26 = .ok (.bipush 21, 2) := by decide +kernel
theorem dX12_behindEnds_28 : decode cX12_behindEnds 28 = .ok (.if_icmp .ne 90, 3) := by decide +kernel
theorem dX12_behindEnds_31 : decode cX12_behindEnds 31 = .ok (.aload_n 0, 1) := by decide +kernel
theorem dX12_behindEnds_32 : decode cX12_behindEnds 32 = .ok (.getfield 7, 3) := by decide +kernel
theorem dX12_behindEnds_35 : decode cX12_behindEnds 35 = .ok (.sipush 136, 3) := by decide +kernel
theorem dX12_behindEnds_38 : decode cX12_behindEnds 38 = .ok (.bipush 6, 2) := by decide +kernel
theorem dX12_behindEnds_40 : decode cX12_behindEnds 40 = .ok (.iload_n 2, 1) := by decide +kernel
theorem dX12_behindEnds_41 : decode cX12_behindEnds 41 = .ok (.imul, 1) := by decide +kernel
theorem dX12_behindEnds_42 : decode cX12_behindEnds 42 = .ok (.iadd, 1) := by decide +kernel
theorem dX12_behindEnds_43 : decode cX12_behindEnds 43 = .ok (.iconst 4, 1) := by decide +kernel
theorem dX12_behindEnds_44 : decode cX12_behindEnds 44 = .ok (.iadd, 1) := by decide +kernel
theorem dX12_behindEnds_45 : decode cX12_behindEnds 45 = .ok (.iaload, 1) := by decide +kernel
theorem dX12_behindEnds_46 : decode cX12_behindEnds 46 = .ok (.istore_n 3, 1) := by decide +kernel
theorem dX12_behindEnds_47 : decode cX12_behindEnds 47 = .ok (.aload_n 0, 1) := by decide +kernel
theorem dX12_behindEnds_48 : decode cX12_behindEnds 48 = .ok (.getfield 7, 3) := by decide +kernel
theorem dX12_behindEnds_51 : decode cX12_behindEnds 51 = .ok (.sipush 136, 3) := by decide +kernel
theorem dX12_behindEnds_54 : decode cX12_behindEnds 54 = .ok (.bipush 6, 2) := by decide +kernel
theorem dX12_behindEnds_56 : decode cX12_behindEnds 56 = .ok (.iload_n 3, 1) := by decide +kernel
theorem dX12_behindEnds_57 : decode cX12_behindEnds 57 = .ok (.imul, 1) := by decide +kernel
theorem dX12_behindEnds_58 : decode cX12_behindEnds 58 = .ok (.iadd, 1) := by decide +kernel
theorem dX12_behindEnds_59 : decode cX12_behindEnds 59 = .ok (.iaload, 1) := by decide +kernel
theorem dX12_behindEnds_60 : decode cX12_behindEnds 60 = .ok (.bipush 20, 2) := by decide +kernel
theorem dX12_behindEnds_62 : decode cX12_behindEnds 62 = .ok (.if_icmp .ne 16, 3) := by decide +kernel
theorem dX12_behindEnds_65 : decode cX12_behindEnds 65 = .ok (.aload_n 0, 1) := by decide +kernel
theorem dX12_behindEnds_66 : decode cX12_behindEnds 66 = .ok (.getfield 74, 3) := by decide +kernel
theorem dX12_behindEnds_69 : decode cX12_behindEnds 69 = .ok (.iload_n 3, 1) := by decide +kernel
theorem dX12_behindEnds_70 : decode cX12_behindEnds 70 = .ok (.iaload, 1) := by decide +kernel
theorem dX12_behindEnds_71 : decode cX12_behindEnds 71 = .ok (.ifCond .le 7, 3) := by decide +kernel
theorem dX12_behindEnds_74 : decode cX12_behindEnds 74 = .ok (.iconst 1, 1) := by decide +kernel
theorem dX12_behindEnds_75 : decode cX12_behindEnds 75 = .ok (.goto 4, 3) := by decide +kernel
theorem dX12_behindEnds_78 : decode cX12_behindEnds 78 = .ok (.iconst 0, 1) := by decide +kernel
theorem dX12_behindEnds_79 : decode cX12_behindEnds 79 = .ok (.istore 4, 2) := by decide +kernel
theorem dX12_behindEnds_81 : decode cX12_behindEnds 81 = .ok (.aload_n 0, 1) := by decide +kernel
theorem dX12_behindEnds_82 : decode cX12_behindEnds 82 = .ok (.getfield 74, 3) := by decide +kernel
theorem dX12_behindEnds_85 : decode cX12_behindEnds 85 = .ok (.iload_n 3, 1) := by decide +kernel
theorem dX12_behindEnds_86 : decode cX12_behindEnds 86 = .ok (.dup2, 1) := by decide +kernel
theorem dX12_behindEnds_87 : decode cX12_behindEnds 87 = .ok (.iaload, 1) := by decide +kernel
theorem dX12_behindEnds_88 : decode cX12_behindEnds 88 = .ok (.iload 4, 2) := by decide +kernel
theorem dX12_behindEnds_90 : decode cX12_behindEnds 90 = .ok (.ifCond .eq 7, 3) := by decide +kernel
theorem dX12_behindEnds_93 : decode cX12_behindEnds 93 = .ok (.iconst 1, 1) := by decide +kernel
theorem dX12_behindEnds_94 : decode cX12_behindEnds 94 = .ok (.goto 4, 3) := by decide +kernel
theorem dX12_behindEnds_97 : decode cX12_behindEnds 97 = .ok (.iconst 0, 1) := by decide +kernel
theorem dX12_behindEnds_98 : decode cX12_behindEnds 98 = .ok (.isub, 1) := by decide +kernel
theorem dX12_behindEnds_99 : decode cX12_behindEnds 99 = .ok (.iastore, 1) := by decide +kernel
theorem dX12_behindEnds_100 : decode cX12_behindEnds 100 = .ok (.iload 4, 2) := by decide +kernel
theorem dX12_behindEnds_102 : decode cX12_behindEnds 102 = .ok (.ifCond .eq 9, 3) := by decide +kernel
theorem dX12_behindEnds_105 : decode cX12_behindEnds 105 = .ok (.iload_n 3, 1) := by decide +kernel
theorem dX12_behindEnds_106 : decode cX12_behindEnds 106 = .ok (.iconst 1, 1) := by decide +kernel
theorem dX12_behindEnds_107 : decode cX12_behindEnds 107 = .ok (.iadd, 1) := by decide +kernel
theorem dX12_behindEnds_108 : decode cX12_behindEnds 108 = .ok (.goto 6, 3) := by decide +kernel
theorem dX12_behindEnds_111 : decode cX12_behindEnds 111 = .ok (.iload_n 2, 1) := by decide +kernel
theorem dX12_behindEnds_112 : decode cX12_behindEnds 112 = .ok (.iconst 1, 1) := by decide +kernel
theorem dX12_behindEnds_113 : decode cX12_behindEnds 113 = .ok (.iadd, 1) := by decide +kernel
theorem dX12_behindEnds_114 : decode cX12_behindEnds 114 = .ok (.istore_n 2, 1) := by decide +kernel
theorem dX12_behindEnds_115 : decode cX12_behindEnds 115 = .ok (.goto (-113), 3) := by decide +kernel
theorem dX12_behindEnds_118 : decode cX12_behindEnds 118 = .ok (.iload_n 2, 1) := by decide +kernel
theorem dX12_behindEnds_119 : decode cX12_behindEnds 119 = .ok (.ireturn, 1) := by decide +kernel
set_option maxRecDepth 100000 in
def f_X12_behindEnds_118 (l2 : Int32) (μ : dtM) : Option (Int32 × dtM) :=
  some (l2, μ)
set_option maxRecDepth 100000 in
def f_X12_behindEnds_114 (k2 : Nat → Int32 → dtM → Option (Int32 × dtM)) (l0 : Nat) (s0 : Int32) (μ : dtM) : Option (Int32 × dtM) :=
  k2 l0 s0 μ
set_option maxRecDepth 100000 in
def f_X12_behindEnds_98 (k2 : Nat → Int32 → dtM → Option (Int32 × dtM)) (l0 : Nat) (l2 : Int32) (l3 : Int32) (l4 : Int32) (s0 : Nat) (s1 : Int32) (s2 : Int32) (s3 : Int32) (μ : dtM) : Option (Int32 × dtM) :=
  (opSI μ s0 s1 (s2 - s3)).bind fun μ1 => if l4 = 0 then (f_X12_behindEnds_114 k2 l0 (l2 + (1 : Int32)) μ1) else (f_X12_behindEnds_114 k2 l0 (l3 + (1 : Int32)) μ1)
set_option maxRecDepth 100000 in
def f_X12_behindEnds_79 (k2 : Nat → Int32 → dtM → Option (Int32 × dtM)) (l0 : Nat) (l2 : Int32) (l3 : Int32) (s0 : Int32) (μ : dtM) : Option (Int32 × dtM) :=
  (opGR 12 36 μ l0).bind fun x1 => (opLI 1 μ x1 l3).bind fun x3 => if s0 = 0 then (f_X12_behindEnds_98 k2 l0 l2 l3 s0 x1 l3 x3 (0 : Int32) μ) else (f_X12_behindEnds_98 k2 l0 l2 l3 s0 x1 l3 x3 (1 : Int32) μ)
set_option maxRecDepth 100000 in
def f_X12_behindEnds_78 (k2 : Nat → Int32 → dtM → Option (Int32 × dtM)) (l0 : Nat) (l2 : Int32) (l3 : Int32) (μ : dtM) : Option (Int32 × dtM) :=
  f_X12_behindEnds_79 k2 l0 l2 l3 (0 : Int32) μ
set_option maxRecDepth 100000 in
def f_X12_behindEnds_2 : Nat → Nat → Int32 → dtM → Option (Int32 × dtM)
  | 0, _, _, _ => none
  | n + 1, l0, l2, μ =>
    (opGR 12 0 μ l0).bind fun x1 => (opLI 1 μ x1 (7 : Int32)).bind fun x3 => if x3 ≤ l2 then (f_X12_behindEnds_118 l2 μ) else ((opGR 12 0 μ l0).bind fun x8 => (opLI 1 μ x8 ((136 : Int32) + ((6 : Int32) * l2))).bind fun x10 => if x10 = (21 : Int32) then ((opGR 12 0 μ l0).bind fun x15 => (opLI 1 μ x15 (((136 : Int32) + ((6 : Int32) * l2)) + (4 : Int32))).bind fun x17 => (opGR 12 0 μ l0).bind fun x19 => (opLI 1 μ x19 ((136 : Int32) + ((6 : Int32) * x17))).bind fun x21 => if x21 = (20 : Int32) then ((opGR 12 36 μ l0).bind fun x26 => (opLI 1 μ x26 x17).bind fun x28 => if x28 ≤ 0 then (f_X12_behindEnds_78 (f_X12_behindEnds_2 n) l0 l2 x17 μ) else (f_X12_behindEnds_79 (f_X12_behindEnds_2 n) l0 l2 x17 (1 : Int32) μ)) else (f_X12_behindEnds_78 (f_X12_behindEnds_2 n) l0 l2 x17 μ)) else (f_X12_behindEnds_118 l2 μ))
set_option maxRecDepth 100000 in
def f_X12_behindEnds (p0 : Nat) (p1 : Int32) (μ : dtM) : Option (Int32 × dtM) :=
  f_X12_behindEnds_2 dtFuel p0 p1 μ
set_option maxRecDepth 100000 in
theorem c_X12_behindEnds_118 {r : Int32} {F : dtM} (l2 : Int32) (μ : dtM) (h : f_X12_behindEnds_118 l2 μ = some (r, F)) : dtW yX12_behindEnds cX12_behindEnds 5 (some .int) 1 (some (.int r)) F 118 [none, none, some (.int l2)] [] μ := by
  rw [f_X12_behindEnds_118] at h
  refine dr_iload_n l2 dX12_behindEnds_118 rfl ?_
  cases h
  exact dr_ireturn dX12_behindEnds_119 rfl
set_option maxRecDepth 100000 in
theorem c_X12_behindEnds_114 {r : Int32} {F : dtM} (k2 : Nat → Int32 → dtM → Option (Int32 × dtM)) (hk2 : ∀ (l0 : Nat) (l2 : Int32) (μ : dtM), k2 l0 l2 μ = some (r, F) → dtW yX12_behindEnds cX12_behindEnds 5 (some .int) 1 (some (.int r)) F 2 [some (.ref l0), none, some (.int l2)] [] μ) (l0 : Nat) (s0 : Int32) (μ : dtM) (h : f_X12_behindEnds_114 k2 l0 s0 μ = some (r, F)) : dtW yX12_behindEnds cX12_behindEnds 5 (some .int) 1 (some (.int r)) F 114 [some (.ref l0)] [.int s0] μ := by
  rw [f_X12_behindEnds_114] at h
  refine dr_istore_n 2 [some (.ref l0), none, some (.int s0)] dX12_behindEnds_114 rfl rfl rfl rfl ?_
  refine dr_goto 2 dX12_behindEnds_115 (by decide) ?_
  exact hk2 l0 s0 μ h
set_option maxRecDepth 100000 in
theorem c_X12_behindEnds_98 {r : Int32} {F : dtM} (k2 : Nat → Int32 → dtM → Option (Int32 × dtM)) (hk2 : ∀ (l0 : Nat) (l2 : Int32) (μ : dtM), k2 l0 l2 μ = some (r, F) → dtW yX12_behindEnds cX12_behindEnds 5 (some .int) 1 (some (.int r)) F 2 [some (.ref l0), none, some (.int l2)] [] μ) (l0 : Nat) (l2 : Int32) (l3 : Int32) (l4 : Int32) (s0 : Nat) (s1 : Int32) (s2 : Int32) (s3 : Int32) (μ : dtM) (h : f_X12_behindEnds_98 k2 l0 l2 l3 l4 s0 s1 s2 s3 μ = some (r, F)) : dtW yX12_behindEnds cX12_behindEnds 5 (some .int) 1 (some (.int r)) F 98 [some (.ref l0), none, some (.int l2), some (.int l3), some (.int l4)] [.int s3, .int s2, .int s1, .ref s0] μ := by
  rw [f_X12_behindEnds_98] at h
  refine dr_isub dX12_behindEnds_98 ?_
  obtain ⟨μ1, e2, h⟩ := dtBind h
  refine dr_iastore μ1 dX12_behindEnds_99 e2 ?_
  refine dr_iload l4 dX12_behindEnds_100 rfl ?_
  obtain ⟨ht4, hf5⟩ := dtIte h
  refine dr_if_eq 111 dX12_behindEnds_102 (by decide) (fun hc3 => ?_) (fun hc3 => ?_)
  · have h := ht4 hc3
    refine dr_iload_n l2 dX12_behindEnds_111 rfl ?_
    refine dr_iconst (1 : Int32) dX12_behindEnds_112 (by decide) ?_
    refine dr_iadd dX12_behindEnds_113 ?_
    refine dr_mask [true] [some (.ref l0)] rfl ?_
    exact c_X12_behindEnds_114 k2 hk2 l0 (l2 + (1 : Int32)) μ1 h
  · have h := hf5 hc3
    refine dr_iload_n l3 dX12_behindEnds_105 rfl ?_
    refine dr_iconst (1 : Int32) dX12_behindEnds_106 (by decide) ?_
    refine dr_iadd dX12_behindEnds_107 ?_
    refine dr_goto 114 dX12_behindEnds_108 (by decide) ?_
    refine dr_mask [true] [some (.ref l0)] rfl ?_
    exact c_X12_behindEnds_114 k2 hk2 l0 (l3 + (1 : Int32)) μ1 h
set_option maxRecDepth 100000 in
theorem c_X12_behindEnds_79 {r : Int32} {F : dtM} (k2 : Nat → Int32 → dtM → Option (Int32 × dtM)) (hk2 : ∀ (l0 : Nat) (l2 : Int32) (μ : dtM), k2 l0 l2 μ = some (r, F) → dtW yX12_behindEnds cX12_behindEnds 5 (some .int) 1 (some (.int r)) F 2 [some (.ref l0), none, some (.int l2)] [] μ) (l0 : Nat) (l2 : Int32) (l3 : Int32) (s0 : Int32) (μ : dtM) (h : f_X12_behindEnds_79 k2 l0 l2 l3 s0 μ = some (r, F)) : dtW yX12_behindEnds cX12_behindEnds 5 (some .int) 1 (some (.int r)) F 79 [some (.ref l0), none, some (.int l2), some (.int l3)] [.int s0] μ := by
  rw [f_X12_behindEnds_79] at h
  refine dr_istore [some (.ref l0), none, some (.int l2), some (.int l3), some (.int s0)] dX12_behindEnds_79 rfl rfl rfl ?_
  refine dr_aload_n l0 dX12_behindEnds_81 rfl ?_
  obtain ⟨x1, e2, h⟩ := dtBind h
  refine dr_getR x1 dX12_behindEnds_82 fl_RX12_74 e2 ?_
  refine dr_iload_n l3 dX12_behindEnds_85 rfl ?_
  refine dr_dup2 dX12_behindEnds_86 rfl rfl ?_
  obtain ⟨x3, e4, h⟩ := dtBind h
  refine dr_iaload x3 dX12_behindEnds_87 e4 ?_
  refine dr_iload s0 dX12_behindEnds_88 rfl ?_
  obtain ⟨ht6, hf7⟩ := dtIte h
  refine dr_if_eq 97 dX12_behindEnds_90 (by decide) (fun hc5 => ?_) (fun hc5 => ?_)
  · have h := ht6 hc5
    refine dr_iconst (0 : Int32) dX12_behindEnds_97 (by decide) ?_
    exact c_X12_behindEnds_98 k2 hk2 l0 l2 l3 s0 x1 l3 x3 (0 : Int32) μ h
  · have h := hf7 hc5
    refine dr_iconst (1 : Int32) dX12_behindEnds_93 (by decide) ?_
    refine dr_goto 98 dX12_behindEnds_94 (by decide) ?_
    exact c_X12_behindEnds_98 k2 hk2 l0 l2 l3 s0 x1 l3 x3 (1 : Int32) μ h
set_option maxRecDepth 100000 in
theorem c_X12_behindEnds_78 {r : Int32} {F : dtM} (k2 : Nat → Int32 → dtM → Option (Int32 × dtM)) (hk2 : ∀ (l0 : Nat) (l2 : Int32) (μ : dtM), k2 l0 l2 μ = some (r, F) → dtW yX12_behindEnds cX12_behindEnds 5 (some .int) 1 (some (.int r)) F 2 [some (.ref l0), none, some (.int l2)] [] μ) (l0 : Nat) (l2 : Int32) (l3 : Int32) (μ : dtM) (h : f_X12_behindEnds_78 k2 l0 l2 l3 μ = some (r, F)) : dtW yX12_behindEnds cX12_behindEnds 5 (some .int) 1 (some (.int r)) F 78 [some (.ref l0), none, some (.int l2), some (.int l3)] [] μ := by
  rw [f_X12_behindEnds_78] at h
  refine dr_iconst (0 : Int32) dX12_behindEnds_78 (by decide) ?_
  exact c_X12_behindEnds_79 k2 hk2 l0 l2 l3 (0 : Int32) μ h
set_option maxRecDepth 100000 in
theorem c_X12_behindEnds_2 {r : Int32} {F : dtM} : ∀ (n : Nat) (l0 : Nat) (l2 : Int32) (μ : dtM), f_X12_behindEnds_2 n l0 l2 μ = some (r, F) → dtW yX12_behindEnds cX12_behindEnds 5 (some .int) 1 (some (.int r)) F 2 [some (.ref l0), none, some (.int l2)] [] μ := by
  intro n
  induction n with
  | zero => intro l0 l2 μ h; cases h
  | succ n ih =>
    intro l0 l2 μ h
    have h := (show f_X12_behindEnds_2 (n + 1) l0 l2 μ = some _ from h)
    rw [f_X12_behindEnds_2] at h
    refine dr_iload_n l2 dX12_behindEnds_2 rfl ?_
    refine dr_aload_n l0 dX12_behindEnds_3 rfl ?_
    obtain ⟨x1, e2, h⟩ := dtBind h
    refine dr_getR x1 dX12_behindEnds_4 fl_RX12_7 e2 ?_
    refine dr_bipush (7 : Int32) dX12_behindEnds_7 (by decide) ?_
    obtain ⟨x3, e4, h⟩ := dtBind h
    refine dr_iaload x3 dX12_behindEnds_9 e4 ?_
    obtain ⟨ht6, hf7⟩ := dtIte h
    refine dr_icmp_ge 118 dX12_behindEnds_10 (by decide) (fun hc5 => ?_) (fun hc5 => ?_)
    · have h := ht6 hc5
      refine dr_mask [false, false, true] [none, none, some (.int l2)] rfl ?_
      exact c_X12_behindEnds_118 l2 μ h
    · have h := hf7 hc5
      refine dr_aload_n l0 dX12_behindEnds_13 rfl ?_
      obtain ⟨x8, e9, h⟩ := dtBind h
      refine dr_getR x8 dX12_behindEnds_14 fl_RX12_7 e9 ?_
      refine dr_sipush (136 : Int32) dX12_behindEnds_17 (by decide) ?_
      refine dr_bipush (6 : Int32) dX12_behindEnds_20 (by decide) ?_
      refine dr_iload_n l2 dX12_behindEnds_22 rfl ?_
      refine dr_imul dX12_behindEnds_23 ?_
      refine dr_iadd dX12_behindEnds_24 ?_
      obtain ⟨x10, e11, h⟩ := dtBind h
      refine dr_iaload x10 dX12_behindEnds_25 e11 ?_
      refine dr_bipush (21 : Int32) dX12_behindEnds_26 (by decide) ?_
      obtain ⟨ht13, hf14⟩ := dtIte h
      refine dr_icmp_ne 118 dX12_behindEnds_28 (by decide) (fun hc12 => ?_) (fun hc12 => ?_)
      · have h := hf14 hc12
        refine dr_mask [false, false, true] [none, none, some (.int l2)] rfl ?_
        exact c_X12_behindEnds_118 l2 μ h
      · have h := ht13 hc12
        refine dr_aload_n l0 dX12_behindEnds_31 rfl ?_
        obtain ⟨x15, e16, h⟩ := dtBind h
        refine dr_getR x15 dX12_behindEnds_32 fl_RX12_7 e16 ?_
        refine dr_sipush (136 : Int32) dX12_behindEnds_35 (by decide) ?_
        refine dr_bipush (6 : Int32) dX12_behindEnds_38 (by decide) ?_
        refine dr_iload_n l2 dX12_behindEnds_40 rfl ?_
        refine dr_imul dX12_behindEnds_41 ?_
        refine dr_iadd dX12_behindEnds_42 ?_
        refine dr_iconst (4 : Int32) dX12_behindEnds_43 (by decide) ?_
        refine dr_iadd dX12_behindEnds_44 ?_
        obtain ⟨x17, e18, h⟩ := dtBind h
        refine dr_iaload x17 dX12_behindEnds_45 e18 ?_
        refine dr_istore_n 3 [some (.ref l0), none, some (.int l2), some (.int x17)] dX12_behindEnds_46 rfl rfl rfl rfl ?_
        refine dr_aload_n l0 dX12_behindEnds_47 rfl ?_
        obtain ⟨x19, e20, h⟩ := dtBind h
        refine dr_getR x19 dX12_behindEnds_48 fl_RX12_7 e20 ?_
        refine dr_sipush (136 : Int32) dX12_behindEnds_51 (by decide) ?_
        refine dr_bipush (6 : Int32) dX12_behindEnds_54 (by decide) ?_
        refine dr_iload_n x17 dX12_behindEnds_56 rfl ?_
        refine dr_imul dX12_behindEnds_57 ?_
        refine dr_iadd dX12_behindEnds_58 ?_
        obtain ⟨x21, e22, h⟩ := dtBind h
        refine dr_iaload x21 dX12_behindEnds_59 e22 ?_
        refine dr_bipush (20 : Int32) dX12_behindEnds_60 (by decide) ?_
        obtain ⟨ht24, hf25⟩ := dtIte h
        refine dr_icmp_ne 78 dX12_behindEnds_62 (by decide) (fun hc23 => ?_) (fun hc23 => ?_)
        · have h := hf25 hc23
          exact c_X12_behindEnds_78 (f_X12_behindEnds_2 n) ih l0 l2 x17 μ h
        · have h := ht24 hc23
          refine dr_aload_n l0 dX12_behindEnds_65 rfl ?_
          obtain ⟨x26, e27, h⟩ := dtBind h
          refine dr_getR x26 dX12_behindEnds_66 fl_RX12_74 e27 ?_
          refine dr_iload_n x17 dX12_behindEnds_69 rfl ?_
          obtain ⟨x28, e29, h⟩ := dtBind h
          refine dr_iaload x28 dX12_behindEnds_70 e29 ?_
          obtain ⟨ht31, hf32⟩ := dtIte h
          refine dr_if_le 78 dX12_behindEnds_71 (by decide) (fun hc30 => ?_) (fun hc30 => ?_)
          · have h := ht31 hc30
            exact c_X12_behindEnds_78 (f_X12_behindEnds_2 n) ih l0 l2 x17 μ h
          · have h := hf32 hc30
            refine dr_iconst (1 : Int32) dX12_behindEnds_74 (by decide) ?_
            refine dr_goto 79 dX12_behindEnds_75 (by decide) ?_
            exact c_X12_behindEnds_79 (f_X12_behindEnds_2 n) ih l0 l2 x17 (1 : Int32) μ h
set_option maxRecDepth 100000 in
theorem c_X12_behindEnds {r : Int32} {F : dtM} (p0 : Nat) (p1 : Int32) (μ : dtM) (h : f_X12_behindEnds p0 p1 μ = some (r, F)) : dtMet yX12_behindEnds cX12_behindEnds 5 (some .int) 1 [.ref p0, .int p1] μ (some (.int r)) F := by
  refine dtMet.of (by decide +kernel) (Nat.le_of_ble_eq_true rfl) (show dtW yX12_behindEnds cX12_behindEnds 5 (some .int) 1 (some (.int r)) F 0 [some (.ref p0), some (.int p1)] [] μ from ?_)
  rw [f_X12_behindEnds] at h
  refine dr_iload_n p1 dX12_behindEnds_0 rfl ?_
  refine dr_istore_n 2 [some (.ref p0), some (.int p1), some (.int p1)] dX12_behindEnds_1 rfl rfl rfl rfl ?_
  refine dr_mask [true, false, true] [some (.ref p0), none, some (.int p1)] rfl ?_
  exact c_X12_behindEnds_2 dtFuel p0 p1 μ h
/-! X12_lives -/
theorem dX12_lives_0 : decode cX12_lives 0 = .ok (.aload_n 0, 1) := by decide +kernel
theorem dX12_lives_1 : decode cX12_lives 1 = .ok (.iload_n 1, 1) := by decide +kernel
theorem dX12_lives_2 : decode cX12_lives 2 = .ok (.putfield 437, 3) := by decide +kernel
theorem dX12_lives_5 : decode cX12_lives 5 = .ok (.aload_n 0, 1) := by decide +kernel
theorem dX12_lives_6 : decode cX12_lives 6 = .ok (.iconst 0, 1) := by decide +kernel
theorem dX12_lives_7 : decode cX12_lives 7 = .ok (.putfield 456, 3) := by decide +kernel
theorem dX12_lives_10 : decode cX12_lives 10 = .ok (.iconst 0, 1) := by decide +kernel
theorem dX12_lives_11 : decode cX12_lives 11 = .ok (.istore_n 2, 1) := by decide +kernel
theorem dX12_lives_12 : decode cX12_lives 12 = .ok (.iload_n 2, 1) := by decide +kernel
theorem dX12_lives_13 : decode cX12_lives 13 = .ok (.iconst 5, 1) := by decide +kernel
theorem dX12_lives_14 : decode cX12_lives 14 = .ok (.if_icmp .ge 16, 3) := by decide +kernel
theorem dX12_lives_17 : decode cX12_lives 17 = .ok (.aload_n 0, 1) := by decide +kernel
theorem dX12_lives_18 : decode cX12_lives 18 = .ok (.getfield 77, 3) := by decide +kernel
theorem dX12_lives_21 : decode cX12_lives 21 = .ok (.iload_n 2, 1) := by decide +kernel
theorem dX12_lives_22 : decode cX12_lives 22 = .ok (.iconst 0, 1) := by decide +kernel
theorem dX12_lives_23 : decode cX12_lives 23 = .ok (.iastore, 1) := by decide +kernel
theorem dX12_lives_24 : decode cX12_lives 24 = .ok (.iinc 2 1, 3) := by decide +kernel
theorem dX12_lives_27 : decode cX12_lives 27 = .ok (.goto (-15), 3) := by decide +kernel
theorem dX12_lives_30 : decode cX12_lives 30 = .ok (.iconst 0, 1) := by decide +kernel
theorem dX12_lives_31 : decode cX12_lives 31 = .ok (.istore_n 2, 1) := by decide +kernel
theorem dX12_lives_32 : decode cX12_lives 32 = .ok (.iload_n 2, 1) := by decide +kernel
theorem dX12_lives_33 : decode cX12_lives 33 = .ok (.aload_n 0, 1) := by decide +kernel
theorem dX12_lives_34 : decode cX12_lives 34 = .ok (.getfield 7, 3) := by decide +kernel
theorem dX12_lives_37 : decode cX12_lives 37 = .ok (.bipush 7, 2) := by decide +kernel
theorem dX12_lives_39 : decode cX12_lives 39 = .ok (.iaload, 1) := by decide +kernel
theorem dX12_lives_40 : decode cX12_lives 40 = .ok (.if_icmp .ge 145, 3) := by decide +kernel
theorem dX12_lives_43 : decode cX12_lives 43 = .ok (.aload_n 0, 1) := by decide +kernel
theorem dX12_lives_44 : decode cX12_lives 44 = .ok (.getfield 456, 3) := by decide +kernel
theorem dX12_lives_47 : decode cX12_lives 47 = .ok (.sipush 300, 3) := by decide +kernel
theorem dX12_lives_50 : decode cX12_lives 50 = .ok (.if_icmp .ne 11, 3) := by decide +kernel
theorem dX12_lives_53 : decode cX12_lives 53 = .ok (.aload_n 0, 1) := by decide +kernel
theorem dX12_lives_54 : decode cX12_lives 54 = .ok (.getfield 77, 3) := by decide +kernel
theorem dX12_lives_57 : decode cX12_lives 57 = .ok (.iconst 4, 1) := by decide +kernel
theorem dX12_lives_58 : decode cX12_lives 58 = .ok (.iconst 1, 1) := by decide +kernel
theorem dX12_lives_59 : decode cX12_lives 59 = .ok (.iastore, 1) := by decide +kernel
theorem dX12_lives_60 : decode cX12_lives 60 = .ok (.return_, 1) := by decide +kernel
theorem dX12_lives_61 : decode cX12_lives 61 = .ok (.sipush 136, 3) := by decide +kernel
theorem dX12_lives_64 : decode cX12_lives 64 = .ok (.bipush 6, 2) := by decide +kernel
theorem dX12_lives_66 : decode cX12_lives 66 = .ok (.iload_n 2, 1) := by decide +kernel
theorem dX12_lives_67 : decode cX12_lives 67 = .ok (.imul, 1) := by decide +kernel
theorem dX12_lives_68 : decode cX12_lives 68 = .ok (.iadd, 1) := by decide +kernel
theorem dX12_lives_69 : decode cX12_lives 69 = .ok (.istore_n 3, 1) := by decide +kernel
theorem dX12_lives_70 : decode cX12_lives 70 = .ok (.aload_n 0, 1) := by decide +kernel
theorem dX12_lives_71 : decode cX12_lives 71 = .ok (.dup, 1) := by decide +kernel
theorem dX12_lives_72 : decode cX12_lives 72 = .ok (.getfield 456, 3) := by decide +kernel
theorem dX12_lives_75 : decode cX12_lives 75 = .ok (.iconst 1, 1) := by decide +kernel
theorem dX12_lives_76 : decode cX12_lives 76 = .ok (.iadd, 1) := by decide +kernel
theorem dX12_lives_77 : decode cX12_lives 77 = .ok (.putfield 456, 3) := by decide +kernel
theorem dX12_lives_80 : decode cX12_lives 80 = .ok (.aload_n 0, 1) := by decide +kernel
theorem dX12_lives_81 : decode cX12_lives 81 = .ok (.getfield 7, 3) := by decide +kernel
theorem dX12_lives_84 : decode cX12_lives 84 = .ok (.iload_n 3, 1) := by decide +kernel
theorem dX12_lives_85 : decode cX12_lives 85 = .ok (.iaload, 1) := by decide +kernel
theorem dX12_lives_86 : decode cX12_lives 86 = .ok (.bipush 22, 2) := by decide +kernel
theorem dX12_lives_88 : decode cX12_lives 88 = .ok (.if_icmp .ne 4, 3) := by decide +kernel
theorem dX12_lives_91 : decode cX12_lives 91 = .ok (.return_, 1) := by decide +kernel
theorem dX12_lives_92 : decode cX12_lives 92 = .ok (.aload_n 0, 1) := by decide +kernel
theorem dX12_lives_93 : decode cX12_lives 93 = .ok (.getfield 77, 3) := by decide +kernel
theorem dX12_lives_96 : decode cX12_lives 96 = .ok (.iconst 0, 1) := by decide +kernel
theorem dX12_lives_97 : decode cX12_lives 97 = .ok (.dup2, 1) := by decide +kernel
theorem dX12_lives_98 : decode cX12_lives 98 = .ok (.iaload, 1) := by decide +kernel
theorem dX12_lives_99 : decode cX12_lives 99 = .ok (.aload_n 0, 1) := by decide +kernel
theorem dX12_lives_100 : decode cX12_lives 100 = .ok (.iload_n 3, 1) := by decide +kernel
theorem dX12_lives_101 : decode cX12_lives 101 = .ok (.invokevirtual 459, 3) := by decide +kernel
theorem dX12_lives_104 : decode cX12_lives 104 = .ok (.ifCond .eq 7, 3) := by decide +kernel
theorem dX12_lives_107 : decode cX12_lives 107 = .ok (.iconst 0, 1) := by decide +kernel
theorem dX12_lives_108 : decode cX12_lives 108 = .ok (.goto 4, 3) := by decide +kernel
theorem dX12_lives_111 : decode cX12_lives 111 = .ok (.iconst 1, 1) := by decide +kernel
theorem dX12_lives_112 : decode cX12_lives 112 = .ok (.iadd, 1) := by decide +kernel
theorem dX12_lives_113 : decode cX12_lives 113 = .ok (.iastore, 1) := by decide +kernel
theorem dX12_lives_114 : decode cX12_lives 114 = .ok (.aload_n 0, 1) := by decide +kernel
theorem dX12_lives_115 : decode cX12_lives 115 = .ok (.getfield 7, 3) := by decide +kernel
theorem dX12_lives_118 : decode cX12_lives 118 = .ok (.iload_n 3, 1) := by decide +kernel
theorem dX12_lives_119 : decode cX12_lives 119 = .ok (.iaload, 1) := by decide +kernel
theorem dX12_lives_120 : decode cX12_lives 120 = .ok (.bipush 20, 2) := by decide +kernel
theorem dX12_lives_122 : decode cX12_lives 122 = .ok (.if_icmp .ne 19, 3) := by decide +kernel
theorem dX12_lives_125 : decode cX12_lives 125 = .ok (.aload_n 0, 1) := by decide +kernel
theorem dX12_lives_126 : decode cX12_lives 126 = .ok (.getfield 74, 3) := by decide +kernel
theorem dX12_lives_129 : decode cX12_lives 129 = .ok (.iload_n 2, 1) := by decide +kernel
theorem dX12_lives_130 : decode cX12_lives 130 = .ok (.aload_n 0, 1) := by decide +kernel
theorem dX12_lives_131 : decode cX12_lives 131 = .ok (.getfield 7, 3) := by decide +kernel
theorem dX12_lives_134 : decode cX12_lives 134 = .ok (.iload_n 3, 1) := by decide +kernel
theorem dX12_lives_135 : decode cX12_lives 135 = .ok (.iconst 1, 1) := by decide +kernel
theorem dX12_lives_136 : decode cX12_lives 136 = .ok (.iadd, 1) := by decide +kernel
theorem dX12_lives_137 : decode cX12_lives 137 = .ok (.iaload, 1) := by decide +kernel
theorem dX12_lives_138 : decode cX12_lives 138 = .ok (.iconst 1, 1) := by decide +kernel
theorem dX12_lives_139 : decode cX12_lives 139 = .ok (.isub, 1) := by decide +kernel
theorem dX12_lives_140 : decode cX12_lives 140 = .ok (.iastore, 1) := by decide +kernel
theorem dX12_lives_141 : decode cX12_lives 141 = .ok (.aload_n 0, 1) := by decide +kernel
theorem dX12_lives_142 : decode cX12_lives 142 = .ok (.aload_n 0, 1) := by decide +kernel
theorem dX12_lives_143 : decode cX12_lives 143 = .ok (.getfield 7, 3) := by decide +kernel
theorem dX12_lives_146 : decode cX12_lives 146 = .ok (.iload_n 3, 1) := by decide +kernel
theorem dX12_lives_147 : decode cX12_lives 147 = .ok (.iaload, 1) := by decide +kernel
theorem dX12_lives_148 : decode cX12_lives 148 = .ok (.sipush 1900, 3) := by decide +kernel
theorem dX12_lives_151 : decode cX12_lives 151 = .ok (.if_icmp .lt 24, 3) := by decide +kernel
theorem dX12_lives_154 : decode cX12_lives 154 = .ok (.aload_n 0, 1) := by decide +kernel
theorem dX12_lives_155 : decode cX12_lives 155 = .ok (.iload_n 3, 1) := by decide +kernel
theorem dX12_lives_156 : decode cX12_lives 156 = .ok (.invokevirtual 462, 3) := by decide +kernel
theorem dX12_lives_159 : decode cX12_lives 159 = .ok (.ifCond .ne 16, 3) := by decide +kernel
theorem dX12_lives_162 : decode cX12_lives 162 = .ok (.aload_n 0, 1) := by decide +kernel
theorem dX12_lives_163 : decode cX12_lives 163 = .ok (.getfield 7, 3) := by decide +kernel
theorem dX12_lives_166 : decode cX12_lives 166 = .ok (.iload_n 3, 1) := by decide +kernel
theorem dX12_lives_167 : decode cX12_lives 167 = .ok (.iconst 4, 1) := by decide +kernel
theorem dX12_lives_168 : decode cX12_lives 168 = .ok (.iadd, 1) := by decide +kernel
theorem dX12_lives_169 : decode cX12_lives 169 = .ok (.iaload, 1) := by decide +kernel
theorem dX12_lives_170 : decode cX12_lives 170 = .ok (.iconst 1, 1) := by decide +kernel
theorem dX12_lives_171 : decode cX12_lives 171 = .ok (.iadd, 1) := by decide +kernel
theorem dX12_lives_172 : decode cX12_lives 172 = .ok (.goto 6, 3) := by decide +kernel
theorem dX12_lives_175 : decode cX12_lives 175 = .ok (.iload_n 2, 1) := by decide +kernel
theorem dX12_lives_176 : decode cX12_lives 176 = .ok (.iconst 1, 1) := by decide +kernel
theorem dX12_lives_177 : decode cX12_lives 177 = .ok (.iadd, 1) := by decide +kernel
theorem dX12_lives_178 : decode cX12_lives 178 = .ok (.invokevirtual 465, 3) := by decide +kernel
theorem dX12_lives_181 : decode cX12_lives 181 = .ok (.istore_n 2, 1) := by decide +kernel
theorem dX12_lives_182 : decode cX12_lives 182 = .ok (.goto (-150), 3) := by decide +kernel
theorem dX12_lives_185 : decode cX12_lives 185 = .ok (.return_, 1) := by decide +kernel
set_option maxRecDepth 100000 in
def f_X12_lives_178 (k32 : Nat → Int32 → dtM → Option dtM) (l0 : Nat) (s0 : Nat) (s1 : Int32) (μ : dtM) : Option dtM :=
  (opRv 12 μ s0).bind fun _ => opCall (f_X12_behindEnds s0 s1 μ) fun x4 μ2 => k32 l0 x4 μ2
set_option maxRecDepth 100000 in
def f_X12_lives_175 (k32 : Nat → Int32 → dtM → Option dtM) (l0 : Nat) (l2 : Int32) (s0 : Nat) (μ : dtM) : Option dtM :=
  f_X12_lives_178 k32 l0 s0 (l2 + (1 : Int32)) μ
set_option maxRecDepth 100000 in
def f_X12_lives_141 (k32 : Nat → Int32 → dtM → Option dtM) (l0 : Nat) (l2 : Int32) (l3 : Int32) (μ : dtM) : Option dtM :=
  (opGR 12 0 μ l0).bind fun x1 => (opLI 1 μ x1 l3).bind fun x3 => if x3 < (1900 : Int32) then (f_X12_lives_175 k32 l0 l2 l0 μ) else ((opRv 12 μ l0).bind fun _ => opCall (f_X12_holds l0 l3 μ) fun x11 μ9 => if x11 = 0 then ((opGR 12 0 μ9 l0).bind fun x15 => (opLI 1 μ9 x15 (l3 + (4 : Int32))).bind fun x17 => f_X12_lives_178 k32 l0 l0 (x17 + (1 : Int32)) μ9) else (f_X12_lives_175 k32 l0 l2 l0 μ9))
set_option maxRecDepth 100000 in
def f_X12_lives_112 (k32 : Nat → Int32 → dtM → Option dtM) (l0 : Nat) (l2 : Int32) (l3 : Int32) (s0 : Nat) (s1 : Int32) (s2 : Int32) (s3 : Int32) (μ : dtM) : Option dtM :=
  (opSI μ s0 s1 (s2 + s3)).bind fun μ1 => (opGR 12 0 μ1 l0).bind fun x3 => (opLI 1 μ1 x3 l3).bind fun x5 => if x5 = (20 : Int32) then ((opGR 12 36 μ1 l0).bind fun x10 => (opGR 12 0 μ1 l0).bind fun x12 => (opLI 1 μ1 x12 (l3 + (1 : Int32))).bind fun x14 => (opSI μ1 x10 l2 (x14 - (1 : Int32))).bind fun μ16 => f_X12_lives_141 k32 l0 l2 l3 μ16) else (f_X12_lives_141 k32 l0 l2 l3 μ1)
set_option maxRecDepth 100000 in
def f_X12_lives_32 : Nat → Nat → Int32 → dtM → Option dtM
  | 0, _, _, _ => none
  | n + 1, l0, l2, μ =>
    (opGR 12 0 μ l0).bind fun x1 => (opLI 1 μ x1 (7 : Int32)).bind fun x3 => if x3 ≤ l2 then (some μ) else ((opGI 12 35 μ l0).bind fun x8 => if x8 = (300 : Int32) then ((opGR 12 37 μ l0).bind fun x37 => (opSI μ x37 (4 : Int32) (1 : Int32)).bind fun μ39 => some μ39) else ((some ((136 : Int32) + ((6 : Int32) * l2))).bind fun x13 => (opGI 12 35 μ l0).bind fun x15 => (opPI 12 35 μ l0 (x15 + (1 : Int32))).bind fun μ17 => (opGR 12 0 μ17 l0).bind fun x19 => (opLI 1 μ17 x19 x13).bind fun x21 => if x21 = (22 : Int32) then (some μ17) else ((opGR 12 37 μ17 l0).bind fun x26 => (opLI 1 μ17 x26 (0 : Int32)).bind fun x28 => (opRv 12 μ17 l0).bind fun _ => opCall (f_X12_does l0 x13 μ17) fun x33 μ31 => if x33 = 0 then (f_X12_lives_112 (f_X12_lives_32 n) l0 l2 x13 x26 (0 : Int32) x28 (1 : Int32) μ31) else (f_X12_lives_112 (f_X12_lives_32 n) l0 l2 x13 x26 (0 : Int32) x28 (0 : Int32) μ31))))
set_option maxRecDepth 100000 in
def f_X12_lives_12 : Nat → Nat → Int32 → dtM → Option dtM
  | 0, _, _, _ => none
  | n + 1, l0, l2, μ =>
    if (5 : Int32) ≤ l2 then (f_X12_lives_32 dtFuel l0 (0 : Int32) μ) else ((opGR 12 37 μ l0).bind fun x4 => (opSI μ x4 l2 (0 : Int32)).bind fun μ6 => f_X12_lives_12 n l0 (l2 + 1) μ6)
set_option maxRecDepth 100000 in
def f_X12_lives (p0 : Nat) (p1 : Int32) (μ : dtM) : Option dtM :=
  (opPI 12 34 μ p0 p1).bind fun μ1 => (opPI 12 35 μ1 p0 (0 : Int32)).bind fun μ3 => f_X12_lives_12 dtFuel p0 (0 : Int32) μ3
set_option maxRecDepth 100000 in
theorem c_X12_lives_178 {F : dtM} (k32 : Nat → Int32 → dtM → Option dtM) (hk32 : ∀ (l0 : Nat) (l2 : Int32) (μ : dtM), k32 l0 l2 μ = some F → dtW yX12_lives cX12_lives 4 (none) 9 (none) F 32 [some (.ref l0), none, some (.int l2)] [] μ) (l0 : Nat) (s0 : Nat) (s1 : Int32) (μ : dtM) (h : f_X12_lives_178 k32 l0 s0 s1 μ = some F) : dtW yX12_lives cX12_lives 4 (none) 9 (none) F 178 [some (.ref l0)] [.int s1, .ref s0] μ := by
  rw [f_X12_lives_178] at h
  obtain ⟨_, hb1, h⟩ := dtBind h
  obtain ⟨x4, μ2, e3, h⟩ := dtCall h
  refine dr_callV_i (S0 := []) [.int s1] x4 μ2 dX12_lives_178 (c_X12_behindEnds s0 s1 μ e3) mf_X12_behindEnds wt_2061 ws_136 wt_2059 rfl (dtRv hb1) (by decide) rfl (Nat.le_of_ble_eq_true rfl) (Nat.le_of_ble_eq_true rfl) rfl ?_
  refine dr_istore_n 2 [some (.ref l0), none, some (.int x4)] dX12_lives_181 rfl rfl rfl rfl ?_
  refine dr_goto 32 dX12_lives_182 (by decide) ?_
  exact hk32 l0 x4 μ2 h
set_option maxRecDepth 100000 in
theorem c_X12_lives_175 {F : dtM} (k32 : Nat → Int32 → dtM → Option dtM) (hk32 : ∀ (l0 : Nat) (l2 : Int32) (μ : dtM), k32 l0 l2 μ = some F → dtW yX12_lives cX12_lives 4 (none) 9 (none) F 32 [some (.ref l0), none, some (.int l2)] [] μ) (l0 : Nat) (l2 : Int32) (s0 : Nat) (μ : dtM) (h : f_X12_lives_175 k32 l0 l2 s0 μ = some F) : dtW yX12_lives cX12_lives 4 (none) 9 (none) F 175 [some (.ref l0), none, some (.int l2)] [.ref s0] μ := by
  rw [f_X12_lives_175] at h
  refine dr_iload_n l2 dX12_lives_175 rfl ?_
  refine dr_iconst (1 : Int32) dX12_lives_176 (by decide) ?_
  refine dr_iadd dX12_lives_177 ?_
  refine dr_mask [true] [some (.ref l0)] rfl ?_
  exact c_X12_lives_178 k32 hk32 l0 s0 (l2 + (1 : Int32)) μ h
set_option maxRecDepth 100000 in
theorem c_X12_lives_141 {F : dtM} (k32 : Nat → Int32 → dtM → Option dtM) (hk32 : ∀ (l0 : Nat) (l2 : Int32) (μ : dtM), k32 l0 l2 μ = some F → dtW yX12_lives cX12_lives 4 (none) 9 (none) F 32 [some (.ref l0), none, some (.int l2)] [] μ) (l0 : Nat) (l2 : Int32) (l3 : Int32) (μ : dtM) (h : f_X12_lives_141 k32 l0 l2 l3 μ = some F) : dtW yX12_lives cX12_lives 4 (none) 9 (none) F 141 [some (.ref l0), none, some (.int l2), some (.int l3)] [] μ := by
  rw [f_X12_lives_141] at h
  refine dr_aload_n l0 dX12_lives_141 rfl ?_
  refine dr_aload_n l0 dX12_lives_142 rfl ?_
  obtain ⟨x1, e2, h⟩ := dtBind h
  refine dr_getR x1 dX12_lives_143 fl_RX12_7 e2 ?_
  refine dr_iload_n l3 dX12_lives_146 rfl ?_
  obtain ⟨x3, e4, h⟩ := dtBind h
  refine dr_iaload x3 dX12_lives_147 e4 ?_
  refine dr_sipush (1900 : Int32) dX12_lives_148 (by decide) ?_
  obtain ⟨ht6, hf7⟩ := dtIte h
  refine dr_icmp_lt 175 dX12_lives_151 (by decide) (fun hc5 => ?_) (fun hc5 => ?_)
  · have h := ht6 hc5
    refine dr_mask [true, false, true] [some (.ref l0), none, some (.int l2)] rfl ?_
    exact c_X12_lives_175 k32 hk32 l0 l2 l0 μ h
  · have h := hf7 hc5
    refine dr_aload_n l0 dX12_lives_154 rfl ?_
    refine dr_iload_n l3 dX12_lives_155 rfl ?_
    obtain ⟨_, hb8, h⟩ := dtBind h
    obtain ⟨x11, μ9, e10, h⟩ := dtCall h
    refine dr_callV_i (S0 := [.ref l0]) [.int l3] x11 μ9 dX12_lives_156 (c_X12_holds l0 l3 μ e10) mf_X12_holds wt_2057 ws_135 wt_2055 rfl (dtRv hb8) (by decide) rfl (Nat.le_of_ble_eq_true rfl) (Nat.le_of_ble_eq_true rfl) rfl ?_
    obtain ⟨ht13, hf14⟩ := dtIte h
    refine dr_if_ne 175 dX12_lives_159 (by decide) (fun hc12 => ?_) (fun hc12 => ?_)
    · have h := hf14 hc12
      refine dr_mask [true, false, true] [some (.ref l0), none, some (.int l2)] rfl ?_
      exact c_X12_lives_175 k32 hk32 l0 l2 l0 μ9 h
    · have h := ht13 hc12
      refine dr_aload_n l0 dX12_lives_162 rfl ?_
      obtain ⟨x15, e16, h⟩ := dtBind h
      refine dr_getR x15 dX12_lives_163 fl_RX12_7 e16 ?_
      refine dr_iload_n l3 dX12_lives_166 rfl ?_
      refine dr_iconst (4 : Int32) dX12_lives_167 (by decide) ?_
      refine dr_iadd dX12_lives_168 ?_
      obtain ⟨x17, e18, h⟩ := dtBind h
      refine dr_iaload x17 dX12_lives_169 e18 ?_
      refine dr_iconst (1 : Int32) dX12_lives_170 (by decide) ?_
      refine dr_iadd dX12_lives_171 ?_
      refine dr_goto 178 dX12_lives_172 (by decide) ?_
      refine dr_mask [true] [some (.ref l0)] rfl ?_
      exact c_X12_lives_178 k32 hk32 l0 l0 (x17 + (1 : Int32)) μ9 h
set_option maxRecDepth 100000 in
theorem c_X12_lives_112 {F : dtM} (k32 : Nat → Int32 → dtM → Option dtM) (hk32 : ∀ (l0 : Nat) (l2 : Int32) (μ : dtM), k32 l0 l2 μ = some F → dtW yX12_lives cX12_lives 4 (none) 9 (none) F 32 [some (.ref l0), none, some (.int l2)] [] μ) (l0 : Nat) (l2 : Int32) (l3 : Int32) (s0 : Nat) (s1 : Int32) (s2 : Int32) (s3 : Int32) (μ : dtM) (h : f_X12_lives_112 k32 l0 l2 l3 s0 s1 s2 s3 μ = some F) : dtW yX12_lives cX12_lives 4 (none) 9 (none) F 112 [some (.ref l0), none, some (.int l2), some (.int l3)] [.int s3, .int s2, .int s1, .ref s0] μ := by
  rw [f_X12_lives_112] at h
  refine dr_iadd dX12_lives_112 ?_
  obtain ⟨μ1, e2, h⟩ := dtBind h
  refine dr_iastore μ1 dX12_lives_113 e2 ?_
  refine dr_aload_n l0 dX12_lives_114 rfl ?_
  obtain ⟨x3, e4, h⟩ := dtBind h
  refine dr_getR x3 dX12_lives_115 fl_RX12_7 e4 ?_
  refine dr_iload_n l3 dX12_lives_118 rfl ?_
  obtain ⟨x5, e6, h⟩ := dtBind h
  refine dr_iaload x5 dX12_lives_119 e6 ?_
  refine dr_bipush (20 : Int32) dX12_lives_120 (by decide) ?_
  obtain ⟨ht8, hf9⟩ := dtIte h
  refine dr_icmp_ne 141 dX12_lives_122 (by decide) (fun hc7 => ?_) (fun hc7 => ?_)
  · have h := hf9 hc7
    exact c_X12_lives_141 k32 hk32 l0 l2 l3 μ1 h
  · have h := ht8 hc7
    refine dr_aload_n l0 dX12_lives_125 rfl ?_
    obtain ⟨x10, e11, h⟩ := dtBind h
    refine dr_getR x10 dX12_lives_126 fl_RX12_74 e11 ?_
    refine dr_iload_n l2 dX12_lives_129 rfl ?_
    refine dr_aload_n l0 dX12_lives_130 rfl ?_
    obtain ⟨x12, e13, h⟩ := dtBind h
    refine dr_getR x12 dX12_lives_131 fl_RX12_7 e13 ?_
    refine dr_iload_n l3 dX12_lives_134 rfl ?_
    refine dr_iconst (1 : Int32) dX12_lives_135 (by decide) ?_
    refine dr_iadd dX12_lives_136 ?_
    obtain ⟨x14, e15, h⟩ := dtBind h
    refine dr_iaload x14 dX12_lives_137 e15 ?_
    refine dr_iconst (1 : Int32) dX12_lives_138 (by decide) ?_
    refine dr_isub dX12_lives_139 ?_
    obtain ⟨μ16, e17, h⟩ := dtBind h
    refine dr_iastore μ16 dX12_lives_140 e17 ?_
    exact c_X12_lives_141 k32 hk32 l0 l2 l3 μ16 h
set_option maxRecDepth 100000 in
theorem c_X12_lives_32 {F : dtM} : ∀ (n : Nat) (l0 : Nat) (l2 : Int32) (μ : dtM), f_X12_lives_32 n l0 l2 μ = some F → dtW yX12_lives cX12_lives 4 (none) 9 (none) F 32 [some (.ref l0), none, some (.int l2)] [] μ := by
  intro n
  induction n with
  | zero => intro l0 l2 μ h; cases h
  | succ n ih =>
    intro l0 l2 μ h
    have h := (show f_X12_lives_32 (n + 1) l0 l2 μ = some _ from h)
    rw [f_X12_lives_32] at h
    refine dr_iload_n l2 dX12_lives_32 rfl ?_
    refine dr_aload_n l0 dX12_lives_33 rfl ?_
    obtain ⟨x1, e2, h⟩ := dtBind h
    refine dr_getR x1 dX12_lives_34 fl_RX12_7 e2 ?_
    refine dr_bipush (7 : Int32) dX12_lives_37 (by decide) ?_
    obtain ⟨x3, e4, h⟩ := dtBind h
    refine dr_iaload x3 dX12_lives_39 e4 ?_
    obtain ⟨ht6, hf7⟩ := dtIte h
    refine dr_icmp_ge 185 dX12_lives_40 (by decide) (fun hc5 => ?_) (fun hc5 => ?_)
    · have h := ht6 hc5
      cases h
      exact dr_return dX12_lives_185
    · have h := hf7 hc5
      refine dr_aload_n l0 dX12_lives_43 rfl ?_
      obtain ⟨x8, e9, h⟩ := dtBind h
      refine dr_getI x8 dX12_lives_44 fl_RX12_456 e9 ?_
      refine dr_sipush (300 : Int32) dX12_lives_47 (by decide) ?_
      obtain ⟨ht11, hf12⟩ := dtIte h
      refine dr_icmp_ne 61 dX12_lives_50 (by decide) (fun hc10 => ?_) (fun hc10 => ?_)
      · have h := hf12 hc10
        refine dr_sipush (136 : Int32) dX12_lives_61 (by decide) ?_
        refine dr_bipush (6 : Int32) dX12_lives_64 (by decide) ?_
        refine dr_iload_n l2 dX12_lives_66 rfl ?_
        refine dr_imul dX12_lives_67 ?_
        refine dr_iadd dX12_lives_68 ?_
        obtain ⟨x13, e14, h⟩ := dtBind h
        refine dr_nmi e14 ?_
        refine dr_istore_n 3 [some (.ref l0), none, some (.int l2), some (.int x13)] dX12_lives_69 rfl rfl rfl rfl ?_
        refine dr_aload_n l0 dX12_lives_70 rfl ?_
        refine dr_dup dX12_lives_71 rfl ?_
        obtain ⟨x15, e16, h⟩ := dtBind h
        refine dr_getI x15 dX12_lives_72 fl_RX12_456 e16 ?_
        refine dr_iconst (1 : Int32) dX12_lives_75 (by decide) ?_
        refine dr_iadd dX12_lives_76 ?_
        obtain ⟨μ17, e18, h⟩ := dtBind h
        refine dr_putI μ17 dX12_lives_77 fl_RX12_456 rfl e18 ?_
        refine dr_aload_n l0 dX12_lives_80 rfl ?_
        obtain ⟨x19, e20, h⟩ := dtBind h
        refine dr_getR x19 dX12_lives_81 fl_RX12_7 e20 ?_
        refine dr_iload_n x13 dX12_lives_84 rfl ?_
        obtain ⟨x21, e22, h⟩ := dtBind h
        refine dr_iaload x21 dX12_lives_85 e22 ?_
        refine dr_bipush (22 : Int32) dX12_lives_86 (by decide) ?_
        obtain ⟨ht24, hf25⟩ := dtIte h
        refine dr_icmp_ne 92 dX12_lives_88 (by decide) (fun hc23 => ?_) (fun hc23 => ?_)
        · have h := hf25 hc23
          refine dr_aload_n l0 dX12_lives_92 rfl ?_
          obtain ⟨x26, e27, h⟩ := dtBind h
          refine dr_getR x26 dX12_lives_93 fl_RX12_77 e27 ?_
          refine dr_iconst (0 : Int32) dX12_lives_96 (by decide) ?_
          refine dr_dup2 dX12_lives_97 rfl rfl ?_
          obtain ⟨x28, e29, h⟩ := dtBind h
          refine dr_iaload x28 dX12_lives_98 e29 ?_
          refine dr_aload_n l0 dX12_lives_99 rfl ?_
          refine dr_iload_n x13 dX12_lives_100 rfl ?_
          obtain ⟨_, hb30, h⟩ := dtBind h
          obtain ⟨x33, μ31, e32, h⟩ := dtCall h
          refine dr_callV_i (S0 := [.int x28, .int (0 : Int32), .ref x26]) [.int x13] x33 μ31 dX12_lives_101 (c_X12_does l0 x13 μ17 e32) mf_X12_does wt_2032 ws_129 wt_2030 rfl (dtRv hb30) (by decide) rfl (Nat.le_of_ble_eq_true rfl) (Nat.le_of_ble_eq_true rfl) rfl ?_
          obtain ⟨ht35, hf36⟩ := dtIte h
          refine dr_if_eq 111 dX12_lives_104 (by decide) (fun hc34 => ?_) (fun hc34 => ?_)
          · have h := ht35 hc34
            refine dr_iconst (1 : Int32) dX12_lives_111 (by decide) ?_
            exact c_X12_lives_112 (f_X12_lives_32 n) ih l0 l2 x13 x26 (0 : Int32) x28 (1 : Int32) μ31 h
          · have h := hf36 hc34
            refine dr_iconst (0 : Int32) dX12_lives_107 (by decide) ?_
            refine dr_goto 112 dX12_lives_108 (by decide) ?_
            exact c_X12_lives_112 (f_X12_lives_32 n) ih l0 l2 x13 x26 (0 : Int32) x28 (0 : Int32) μ31 h
        · have h := ht24 hc23
          cases h
          exact dr_return dX12_lives_91
      · have h := ht11 hc10
        refine dr_aload_n l0 dX12_lives_53 rfl ?_
        obtain ⟨x37, e38, h⟩ := dtBind h
        refine dr_getR x37 dX12_lives_54 fl_RX12_77 e38 ?_
        refine dr_iconst (4 : Int32) dX12_lives_57 (by decide) ?_
        refine dr_iconst (1 : Int32) dX12_lives_58 (by decide) ?_
        obtain ⟨μ39, e40, h⟩ := dtBind h
        refine dr_iastore μ39 dX12_lives_59 e40 ?_
        cases h
        exact dr_return dX12_lives_60
set_option maxRecDepth 100000 in
theorem c_X12_lives_12 {F : dtM} : ∀ (n : Nat) (l0 : Nat) (l2 : Int32) (μ : dtM), f_X12_lives_12 n l0 l2 μ = some F → dtW yX12_lives cX12_lives 4 (none) 9 (none) F 12 [some (.ref l0), none, some (.int l2)] [] μ := by
  intro n
  induction n with
  | zero => intro l0 l2 μ h; cases h
  | succ n ih =>
    intro l0 l2 μ h
    have h := (show f_X12_lives_12 (n + 1) l0 l2 μ = some _ from h)
    rw [f_X12_lives_12] at h
    refine dr_iload_n l2 dX12_lives_12 rfl ?_
    refine dr_iconst (5 : Int32) dX12_lives_13 (by decide) ?_
    obtain ⟨ht2, hf3⟩ := dtIte h
    refine dr_icmp_ge 30 dX12_lives_14 (by decide) (fun hc1 => ?_) (fun hc1 => ?_)
    · have h := ht2 hc1
      refine dr_iconst (0 : Int32) dX12_lives_30 (by decide) ?_
      refine dr_istore_n 2 [some (.ref l0), none, some (.int (0 : Int32))] dX12_lives_31 rfl rfl rfl rfl ?_
      exact c_X12_lives_32 dtFuel l0 (0 : Int32) μ h
    · have h := hf3 hc1
      refine dr_aload_n l0 dX12_lives_17 rfl ?_
      obtain ⟨x4, e5, h⟩ := dtBind h
      refine dr_getR x4 dX12_lives_18 fl_RX12_77 e5 ?_
      refine dr_iload_n l2 dX12_lives_21 rfl ?_
      refine dr_iconst (0 : Int32) dX12_lives_22 (by decide) ?_
      obtain ⟨μ6, e7, h⟩ := dtBind h
      refine dr_iastore μ6 dX12_lives_23 e7 ?_
      refine dr_iinc l2 (l2 + 1) [some (.ref l0), none, some (.int (l2 + 1))] dX12_lives_24 rfl rfl rfl rfl rfl ?_
      refine dr_goto 12 dX12_lives_27 (by decide) ?_
      exact ih l0 (l2 + 1) μ6 h
set_option maxRecDepth 100000 in
theorem c_X12_lives {F : dtM} (p0 : Nat) (p1 : Int32) (μ : dtM) (h : f_X12_lives p0 p1 μ = some F) : dtMet yX12_lives cX12_lives 4 (none) 9 [.ref p0, .int p1] μ (none) F := by
  refine dtMet.of (by decide +kernel) (Nat.le_of_ble_eq_true rfl) (show dtW yX12_lives cX12_lives 4 (none) 9 (none) F 0 [some (.ref p0), some (.int p1)] [] μ from ?_)
  rw [f_X12_lives] at h
  refine dr_aload_n p0 dX12_lives_0 rfl ?_
  refine dr_iload_n p1 dX12_lives_1 rfl ?_
  obtain ⟨μ1, e2, h⟩ := dtBind h
  refine dr_putI μ1 dX12_lives_2 fl_RX12_437 rfl e2 ?_
  refine dr_aload_n p0 dX12_lives_5 rfl ?_
  refine dr_iconst (0 : Int32) dX12_lives_6 (by decide) ?_
  obtain ⟨μ3, e4, h⟩ := dtBind h
  refine dr_putI μ3 dX12_lives_7 fl_RX12_456 rfl e4 ?_
  refine dr_iconst (0 : Int32) dX12_lives_10 (by decide) ?_
  refine dr_istore_n 2 [some (.ref p0), some (.int p1), some (.int (0 : Int32))] dX12_lives_11 rfl rfl rfl rfl ?_
  refine dr_mask [true, false, true] [some (.ref p0), none, some (.int (0 : Int32))] rfl ?_
  exact c_X12_lives_12 dtFuel p0 (0 : Int32) μ3 h
/-! X12_live -/
theorem dX12_live_0 : decode cX12_live 0 = .ok (.iload_n 1, 1) := by decide +kernel
theorem dX12_live_1 : decode cX12_live 1 = .ok (.i2l, 1) := by decide +kernel
theorem dX12_live_2 : decode cX12_live 2 = .ok (.lconst 0, 1) := by decide +kernel
theorem dX12_live_3 : decode cX12_live 3 = .ok (.ldc2_w 468, 3) := by decide +kernel
theorem dX12_live_6 : decode cX12_live 6 = .ok (.invokestatic 366, 3) := by decide +kernel
theorem dX12_live_9 : decode cX12_live 9 = .ok (.ifCond .ne 9, 3) := by decide +kernel
theorem dX12_live_12 : decode cX12_live 12 = .ok (.aload_n 0, 1) := by decide +kernel
theorem dX12_live_13 : decode cX12_live 13 = .ok (.iconst 1, 1) := by decide +kernel
theorem dX12_live_14 : decode cX12_live 14 = .ok (.invokevirtual 93, 3) := by decide +kernel
theorem dX12_live_17 : decode cX12_live 17 = .ok (.ireturn, 1) := by decide +kernel
theorem dX12_live_18 : decode cX12_live 18 = .ok (.aload_n 0, 1) := by decide +kernel
theorem dX12_live_19 : decode cX12_live 19 = .ok (.getfield 7, 3) := by decide +kernel
theorem dX12_live_22 : decode cX12_live 22 = .ok (.bipush 7, 2) := by decide +kernel
theorem dX12_live_24 : decode cX12_live 24 = .ok (.iaload, 1) := by decide +kernel
theorem dX12_live_25 : decode cX12_live 25 = .ok (.iconst (-1), 1) := by decide +kernel
theorem dX12_live_26 : decode cX12_live 26 = .ok (.if_icmp .ne 10, 3) := by decide +kernel
theorem dX12_live_29 : decode cX12_live 29 = .ok (.aload_n 0, 1) := by decide +kernel
theorem dX12_live_30 : decode cX12_live 30 = .ok (.bipush 6, 2) := by decide +kernel
theorem dX12_live_32 : decode cX12_live 32 = .ok (.invokevirtual 93, 3) := by decide +kernel
theorem dX12_live_35 : decode cX12_live 35 = .ok (.ireturn, 1) := by decide +kernel
theorem dX12_live_36 : decode cX12_live 36 = .ok (.aload_n 0, 1) := by decide +kernel
theorem dX12_live_37 : decode cX12_live 37 = .ok (.iload_n 1, 1) := by decide +kernel
theorem dX12_live_38 : decode cX12_live 38 = .ok (.invokevirtual 470, 3) := by decide +kernel
theorem dX12_live_41 : decode cX12_live 41 = .ok (.iconst 0, 1) := by decide +kernel
theorem dX12_live_42 : decode cX12_live 42 = .ok (.istore_n 2, 1) := by decide +kernel
theorem dX12_live_43 : decode cX12_live 43 = .ok (.iload_n 2, 1) := by decide +kernel
theorem dX12_live_44 : decode cX12_live 44 = .ok (.iconst 5, 1) := by decide +kernel
theorem dX12_live_45 : decode cX12_live 45 = .ok (.if_icmp .ge 21, 3) := by decide +kernel
theorem dX12_live_48 : decode cX12_live 48 = .ok (.aload_n 0, 1) := by decide +kernel
theorem dX12_live_49 : decode cX12_live 49 = .ok (.getfield 80, 3) := by decide +kernel
theorem dX12_live_52 : decode cX12_live 52 = .ok (.iload_n 2, 1) := by decide +kernel
theorem dX12_live_53 : decode cX12_live 53 = .ok (.aload_n 0, 1) := by decide +kernel
theorem dX12_live_54 : decode cX12_live 54 = .ok (.getfield 77, 3) := by decide +kernel
theorem dX12_live_57 : decode cX12_live 57 = .ok (.iload_n 2, 1) := by decide +kernel
theorem dX12_live_58 : decode cX12_live 58 = .ok (.iaload, 1) := by decide +kernel
theorem dX12_live_59 : decode cX12_live 59 = .ok (.iastore, 1) := by decide +kernel
theorem dX12_live_60 : decode cX12_live 60 = .ok (.iinc 2 1, 3) := by decide +kernel
theorem dX12_live_63 : decode cX12_live 63 = .ok (.goto (-20), 3) := by decide +kernel
theorem dX12_live_66 : decode cX12_live 66 = .ok (.aload_n 0, 1) := by decide +kernel
theorem dX12_live_67 : decode cX12_live 67 = .ok (.iconst 1, 1) := by decide +kernel
theorem dX12_live_68 : decode cX12_live 68 = .ok (.putfield 473, 3) := by decide +kernel
theorem dX12_live_71 : decode cX12_live 71 = .ok (.aload_n 0, 1) := by decide +kernel
theorem dX12_live_72 : decode cX12_live 72 = .ok (.aload_n 0, 1) := by decide +kernel
theorem dX12_live_73 : decode cX12_live 73 = .ok (.getfield 456, 3) := by decide +kernel
theorem dX12_live_76 : decode cX12_live 76 = .ok (.invokevirtual 97, 3) := by decide +kernel
theorem dX12_live_79 : decode cX12_live 79 = .ok (.ireturn, 1) := by decide +kernel
set_option maxRecDepth 100000 in
def f_X12_live_43 : Nat → Nat → Int32 → dtM → Option (Int32 × dtM)
  | 0, _, _, _ => none
  | n + 1, l0, l2, μ =>
    if (5 : Int32) ≤ l2 then ((opPZ 12 39 μ l0 (1 : Int32)).bind fun μ4 => (opGI 12 35 μ4 l0).bind fun x6 => (opRv 12 μ4 l0).bind fun _ => opCall (f_X12_gives l0 x6 μ4) fun x11 μ9 => some (x11, μ9)) else ((opGR 12 38 μ l0).bind fun x12 => (opGR 12 37 μ l0).bind fun x14 => (opLI 1 μ x14 l2).bind fun x16 => (opSI μ x12 l2 x16).bind fun μ18 => f_X12_live_43 n l0 (l2 + 1) μ18)
set_option maxRecDepth 100000 in
def f_X12_live (p0 : Nat) (p1 : Int32) (μ : dtM) : Option (Int32 × dtM) :=
  opCall (f_X12_isFrom (p1.toInt64) (0 : Int64) (9999 : Int64) μ) fun x3 μ1 => if x3 = 0 then ((opRv 12 μ1 p0).bind fun _ => opCall (f_X12_refuse p0 (1 : Int32) μ1) fun x24 μ22 => some (x24, μ22)) else ((opGR 12 0 μ1 p0).bind fun x7 => (opLI 1 μ1 x7 (7 : Int32)).bind fun x9 => if x9 = (-1 : Int32) then ((opRv 12 μ1 p0).bind fun _ => opCall (f_X12_refuse p0 (6 : Int32) μ1) fun x20 μ18 => some (x20, μ18)) else ((opRv 12 μ1 p0).bind fun _ => (f_X12_lives p0 p1 μ1).bind fun μ15 => f_X12_live_43 dtFuel p0 (0 : Int32) μ15))
set_option maxRecDepth 100000 in
theorem c_X12_live_43 {r : Int32} {F : dtM} : ∀ (n : Nat) (l0 : Nat) (l2 : Int32) (μ : dtM), f_X12_live_43 n l0 l2 μ = some (r, F) → dtW yX12_live cX12_live 3 (some .int) 10 (some (.int r)) F 43 [some (.ref l0), none, some (.int l2)] [] μ := by
  intro n
  induction n with
  | zero => intro l0 l2 μ h; cases h
  | succ n ih =>
    intro l0 l2 μ h
    have h := (show f_X12_live_43 (n + 1) l0 l2 μ = some _ from h)
    rw [f_X12_live_43] at h
    refine dr_iload_n l2 dX12_live_43 rfl ?_
    refine dr_iconst (5 : Int32) dX12_live_44 (by decide) ?_
    obtain ⟨ht2, hf3⟩ := dtIte h
    refine dr_icmp_ge 66 dX12_live_45 (by decide) (fun hc1 => ?_) (fun hc1 => ?_)
    · have h := ht2 hc1
      refine dr_aload_n l0 dX12_live_66 rfl ?_
      refine dr_iconst (1 : Int32) dX12_live_67 (by decide) ?_
      obtain ⟨μ4, e5, h⟩ := dtBind h
      refine dr_putZ μ4 dX12_live_68 fl_RX12_473 rfl e5 ?_
      refine dr_aload_n l0 dX12_live_71 rfl ?_
      refine dr_aload_n l0 dX12_live_72 rfl ?_
      obtain ⟨x6, e7, h⟩ := dtBind h
      refine dr_getI x6 dX12_live_73 fl_RX12_456 e7 ?_
      obtain ⟨_, hb8, h⟩ := dtBind h
      obtain ⟨x11, μ9, e10, h⟩ := dtCall h
      refine dr_callV_i (S0 := []) [.int x6] x11 μ9 dX12_live_76 (c_X12_gives l0 x6 μ4 e10) mf_X12_gives wt_1668 ws_85 wt_1666 rfl (dtRv hb8) (by decide) rfl (Nat.le_of_ble_eq_true rfl) (Nat.le_of_ble_eq_true rfl) rfl ?_
      cases h
      exact dr_ireturn dX12_live_79 rfl
    · have h := hf3 hc1
      refine dr_aload_n l0 dX12_live_48 rfl ?_
      obtain ⟨x12, e13, h⟩ := dtBind h
      refine dr_getR x12 dX12_live_49 fl_RX12_80 e13 ?_
      refine dr_iload_n l2 dX12_live_52 rfl ?_
      refine dr_aload_n l0 dX12_live_53 rfl ?_
      obtain ⟨x14, e15, h⟩ := dtBind h
      refine dr_getR x14 dX12_live_54 fl_RX12_77 e15 ?_
      refine dr_iload_n l2 dX12_live_57 rfl ?_
      obtain ⟨x16, e17, h⟩ := dtBind h
      refine dr_iaload x16 dX12_live_58 e17 ?_
      obtain ⟨μ18, e19, h⟩ := dtBind h
      refine dr_iastore μ18 dX12_live_59 e19 ?_
      refine dr_iinc l2 (l2 + 1) [some (.ref l0), none, some (.int (l2 + 1))] dX12_live_60 rfl rfl rfl rfl rfl ?_
      refine dr_goto 43 dX12_live_63 (by decide) ?_
      exact ih l0 (l2 + 1) μ18 h
set_option maxRecDepth 100000 in
theorem c_X12_live {r : Int32} {F : dtM} (p0 : Nat) (p1 : Int32) (μ : dtM) (h : f_X12_live p0 p1 μ = some (r, F)) : dtMet yX12_live cX12_live 3 (some .int) 10 [.ref p0, .int p1] μ (some (.int r)) F := by
  refine dtMet.of (by decide +kernel) (Nat.le_of_ble_eq_true rfl) (show dtW yX12_live cX12_live 3 (some .int) 10 (some (.int r)) F 0 [some (.ref p0), some (.int p1)] [] μ from ?_)
  rw [f_X12_live] at h
  refine dr_iload_n p1 dX12_live_0 rfl ?_
  refine dr_i2l dX12_live_1 ?_
  refine dr_lconst (0 : Int64) dX12_live_2 (by decide) ?_
  refine dr_ldc2 (9999 : Int64) dX12_live_3 wt_2025 ?_
  obtain ⟨x3, μ1, e2, h⟩ := dtCall h
  refine dr_callS_i (S0 := []) [.long (p1.toInt64), .long (0 : Int64), .long (9999 : Int64)] x3 μ1 dX12_live_6 (c_X12_isFrom (p1.toInt64) (0 : Int64) (9999 : Int64) μ e2) mf_X12_isFrom wt_1854 wt_1853 rfl (Nat.le_of_ble_eq_true rfl) (Nat.le_of_ble_eq_true rfl) rfl ?_
  obtain ⟨ht5, hf6⟩ := dtIte h
  refine dr_if_ne 18 dX12_live_9 (by decide) (fun hc4 => ?_) (fun hc4 => ?_)
  · have h := hf6 hc4
    refine dr_aload_n p0 dX12_live_18 rfl ?_
    obtain ⟨x7, e8, h⟩ := dtBind h
    refine dr_getR x7 dX12_live_19 fl_RX12_7 e8 ?_
    refine dr_bipush (7 : Int32) dX12_live_22 (by decide) ?_
    obtain ⟨x9, e10, h⟩ := dtBind h
    refine dr_iaload x9 dX12_live_24 e10 ?_
    refine dr_iconst (-1 : Int32) dX12_live_25 (by decide) ?_
    obtain ⟨ht12, hf13⟩ := dtIte h
    refine dr_icmp_ne 36 dX12_live_26 (by decide) (fun hc11 => ?_) (fun hc11 => ?_)
    · have h := hf13 hc11
      refine dr_aload_n p0 dX12_live_36 rfl ?_
      refine dr_iload_n p1 dX12_live_37 rfl ?_
      obtain ⟨_, hb14, h⟩ := dtBind h
      obtain ⟨μ15, e16, h⟩ := dtBind h
      refine dr_callV_v (S0 := []) [.int p1] μ15 dX12_live_38 (c_X12_lives p0 p1 μ1 e16) mf_X12_lives wt_2028 ws_128 wt_2026 rfl (dtRv hb14) (by decide) rfl (Nat.le_of_ble_eq_true rfl) (Nat.le_of_ble_eq_true rfl) rfl ?_
      refine dr_iconst (0 : Int32) dX12_live_41 (by decide) ?_
      refine dr_istore_n 2 [some (.ref p0), some (.int p1), some (.int (0 : Int32))] dX12_live_42 rfl rfl rfl rfl ?_
      refine dr_mask [true, false, true] [some (.ref p0), none, some (.int (0 : Int32))] rfl ?_
      exact c_X12_live_43 dtFuel p0 (0 : Int32) μ15 h
    · have h := ht12 hc11
      refine dr_aload_n p0 dX12_live_29 rfl ?_
      refine dr_bipush (6 : Int32) dX12_live_30 (by decide) ?_
      obtain ⟨_, hb17, h⟩ := dtBind h
      obtain ⟨x20, μ18, e19, h⟩ := dtCall h
      refine dr_callV_i (S0 := []) [.int (6 : Int32)] x20 μ18 dX12_live_32 (c_X12_refuse p0 (6 : Int32) μ1 e19) mf_X12_refuse wt_1552 ws_59 wt_1550 rfl (dtRv hb17) (by decide) rfl (Nat.le_of_ble_eq_true rfl) (Nat.le_of_ble_eq_true rfl) rfl ?_
      cases h
      exact dr_ireturn dX12_live_35 rfl
  · have h := ht5 hc4
    refine dr_aload_n p0 dX12_live_12 rfl ?_
    refine dr_iconst (1 : Int32) dX12_live_13 (by decide) ?_
    obtain ⟨_, hb21, h⟩ := dtBind h
    obtain ⟨x24, μ22, e23, h⟩ := dtCall h
    refine dr_callV_i (S0 := []) [.int (1 : Int32)] x24 μ22 dX12_live_14 (c_X12_refuse p0 (1 : Int32) μ1 e23) mf_X12_refuse wt_1552 ws_59 wt_1550 rfl (dtRv hb21) (by decide) rfl (Nat.le_of_ble_eq_true rfl) (Nat.le_of_ble_eq_true rfl) rfl ?_
    cases h
    exact dr_ireturn dX12_live_17 rfl
/-! X12_lived -/
theorem dX12_lived_0 : decode cX12_lived 0 = .ok (.iload_n 1, 1) := by decide +kernel
theorem dX12_lived_1 : decode cX12_lived 1 = .ok (.ifCond .lt 8, 3) := by decide +kernel
theorem dX12_lived_4 : decode cX12_lived 4 = .ok (.iload_n 1, 1) := by decide +kernel
theorem dX12_lived_5 : decode cX12_lived 5 = .ok (.iconst 4, 1) := by decide +kernel
theorem dX12_lived_6 : decode cX12_lived 6 = .ok (.if_icmp .le 11, 3) := by decide +kernel
theorem dX12_lived_9 : decode cX12_lived 9 = .ok (.aload_n 0, 1) := by decide +kernel
theorem dX12_lived_10 : decode cX12_lived 10 = .ok (.iconst 1, 1) := by decide +kernel
theorem dX12_lived_11 : decode cX12_lived 11 = .ok (.invokevirtual 93, 3) := by decide +kernel
theorem dX12_lived_14 : decode cX12_lived 14 = .ok (.goto 29, 3) := by decide +kernel
theorem dX12_lived_17 : decode cX12_lived 17 = .ok (.aload_n 0, 1) := by decide +kernel
theorem dX12_lived_18 : decode cX12_lived 18 = .ok (.getfield 473, 3) := by decide +kernel
theorem dX12_lived_21 : decode cX12_lived 21 = .ok (.ifCond .eq 16, 3) := by decide +kernel
theorem dX12_lived_24 : decode cX12_lived 24 = .ok (.aload_n 0, 1) := by decide +kernel
theorem dX12_lived_25 : decode cX12_lived 25 = .ok (.aload_n 0, 1) := by decide +kernel
theorem dX12_lived_26 : decode cX12_lived 26 = .ok (.getfield 80, 3) := by decide +kernel
theorem dX12_lived_29 : decode cX12_lived 29 = .ok (.iload_n 1, 1) := by decide +kernel
theorem dX12_lived_30 : decode cX12_lived 30 = .ok (.iaload, 1) := by decide +kernel
theorem dX12_lived_31 : decode cX12_lived 31 = .ok (.invokevirtual 97, 3) := by decide +kernel
theorem dX12_lived_34 : decode cX12_lived 34 = .ok (.goto 9, 3) := by decide +kernel
theorem dX12_lived_37 : decode cX12_lived 37 = .ok (.aload_n 0, 1) := by decide +kernel
theorem dX12_lived_38 : decode cX12_lived 38 = .ok (.bipush 6, 2) := by decide +kernel
theorem dX12_lived_40 : decode cX12_lived 40 = .ok (.invokevirtual 93, 3) := by decide +kernel
theorem dX12_lived_43 : decode cX12_lived 43 = .ok (.ireturn, 1) := by decide +kernel
set_option maxRecDepth 100000 in
def f_X12_lived_43 (s0 : Int32) (μ : dtM) : Option (Int32 × dtM) :=
  some (s0, μ)
set_option maxRecDepth 100000 in
def f_X12_lived_9 (l0 : Nat) (μ : dtM) : Option (Int32 × dtM) :=
  (opRv 12 μ l0).bind fun _ => opCall (f_X12_refuse l0 (1 : Int32) μ) fun x4 μ2 => f_X12_lived_43 x4 μ2
set_option maxRecDepth 100000 in
def f_X12_lived (p0 : Nat) (p1 : Int32) (μ : dtM) : Option (Int32 × dtM) :=
  if p1 < 0 then (f_X12_lived_9 p0 μ) else (if p1 ≤ (4 : Int32) then ((opGI 12 39 μ p0).bind fun x7 => if x7 = 0 then ((opRv 12 μ p0).bind fun _ => opCall (f_X12_refuse p0 (6 : Int32) μ) fun x15 μ13 => f_X12_lived_43 x15 μ13) else ((opGR 12 38 μ p0).bind fun x16 => (opLI 1 μ x16 p1).bind fun x18 => (opRv 12 μ p0).bind fun _ => opCall (f_X12_gives p0 x18 μ) fun x23 μ21 => f_X12_lived_43 x23 μ21)) else (f_X12_lived_9 p0 μ))
set_option maxRecDepth 100000 in
theorem c_X12_lived_43 {r : Int32} {F : dtM} (s0 : Int32) (μ : dtM) (h : f_X12_lived_43 s0 μ = some (r, F)) : dtW yX12_lived cX12_lived 2 (some .int) 2 (some (.int r)) F 43 [] [.int s0] μ := by
  rw [f_X12_lived_43] at h
  cases h
  exact dr_ireturn dX12_lived_43 rfl
set_option maxRecDepth 100000 in
theorem c_X12_lived_9 {r : Int32} {F : dtM} (l0 : Nat) (μ : dtM) (h : f_X12_lived_9 l0 μ = some (r, F)) : dtW yX12_lived cX12_lived 2 (some .int) 2 (some (.int r)) F 9 [some (.ref l0)] [] μ := by
  rw [f_X12_lived_9] at h
  refine dr_aload_n l0 dX12_lived_9 rfl ?_
  refine dr_iconst (1 : Int32) dX12_lived_10 (by decide) ?_
  obtain ⟨_, hb1, h⟩ := dtBind h
  obtain ⟨x4, μ2, e3, h⟩ := dtCall h
  refine dr_callV_i (S0 := []) [.int (1 : Int32)] x4 μ2 dX12_lived_11 (c_X12_refuse l0 (1 : Int32) μ e3) mf_X12_refuse wt_1552 ws_59 wt_1550 rfl (dtRv hb1) (by decide) rfl (Nat.le_of_ble_eq_true rfl) (Nat.le_of_ble_eq_true rfl) rfl ?_
  refine dr_goto 43 dX12_lived_14 (by decide) ?_
  refine dr_mask [] [] rfl ?_
  exact c_X12_lived_43 x4 μ2 h
set_option maxRecDepth 100000 in
theorem c_X12_lived {r : Int32} {F : dtM} (p0 : Nat) (p1 : Int32) (μ : dtM) (h : f_X12_lived p0 p1 μ = some (r, F)) : dtMet yX12_lived cX12_lived 2 (some .int) 2 [.ref p0, .int p1] μ (some (.int r)) F := by
  refine dtMet.of (by decide +kernel) (Nat.le_of_ble_eq_true rfl) (show dtW yX12_lived cX12_lived 2 (some .int) 2 (some (.int r)) F 0 [some (.ref p0), some (.int p1)] [] μ from ?_)
  rw [f_X12_lived] at h
  refine dr_iload_n p1 dX12_lived_0 rfl ?_
  obtain ⟨ht2, hf3⟩ := dtIte h
  refine dr_if_lt 9 dX12_lived_1 (by decide) (fun hc1 => ?_) (fun hc1 => ?_)
  · have h := ht2 hc1
    refine dr_mask [true] [some (.ref p0)] rfl ?_
    exact c_X12_lived_9 p0 μ h
  · have h := hf3 hc1
    refine dr_iload_n p1 dX12_lived_4 rfl ?_
    refine dr_iconst (4 : Int32) dX12_lived_5 (by decide) ?_
    obtain ⟨ht5, hf6⟩ := dtIte h
    refine dr_icmp_le 17 dX12_lived_6 (by decide) (fun hc4 => ?_) (fun hc4 => ?_)
    · have h := ht5 hc4
      refine dr_aload_n p0 dX12_lived_17 rfl ?_
      obtain ⟨x7, e8, h⟩ := dtBind h
      refine dr_getZ x7 dX12_lived_18 fl_RX12_473 e8 ?_
      obtain ⟨ht10, hf11⟩ := dtIte h
      refine dr_if_eq 37 dX12_lived_21 (by decide) (fun hc9 => ?_) (fun hc9 => ?_)
      · have h := ht10 hc9
        refine dr_aload_n p0 dX12_lived_37 rfl ?_
        refine dr_bipush (6 : Int32) dX12_lived_38 (by decide) ?_
        obtain ⟨_, hb12, h⟩ := dtBind h
        obtain ⟨x15, μ13, e14, h⟩ := dtCall h
        refine dr_callV_i (S0 := []) [.int (6 : Int32)] x15 μ13 dX12_lived_40 (c_X12_refuse p0 (6 : Int32) μ e14) mf_X12_refuse wt_1552 ws_59 wt_1550 rfl (dtRv hb12) (by decide) rfl (Nat.le_of_ble_eq_true rfl) (Nat.le_of_ble_eq_true rfl) rfl ?_
        refine dr_mask [] [] rfl ?_
        exact c_X12_lived_43 x15 μ13 h
      · have h := hf11 hc9
        refine dr_aload_n p0 dX12_lived_24 rfl ?_
        refine dr_aload_n p0 dX12_lived_25 rfl ?_
        obtain ⟨x16, e17, h⟩ := dtBind h
        refine dr_getR x16 dX12_lived_26 fl_RX12_80 e17 ?_
        refine dr_iload_n p1 dX12_lived_29 rfl ?_
        obtain ⟨x18, e19, h⟩ := dtBind h
        refine dr_iaload x18 dX12_lived_30 e19 ?_
        obtain ⟨_, hb20, h⟩ := dtBind h
        obtain ⟨x23, μ21, e22, h⟩ := dtCall h
        refine dr_callV_i (S0 := []) [.int x18] x23 μ21 dX12_lived_31 (c_X12_gives p0 x18 μ e22) mf_X12_gives wt_1668 ws_85 wt_1666 rfl (dtRv hb20) (by decide) rfl (Nat.le_of_ble_eq_true rfl) (Nat.le_of_ble_eq_true rfl) rfl ?_
        refine dr_goto 43 dX12_lived_34 (by decide) ?_
        refine dr_mask [] [] rfl ?_
        exact c_X12_lived_43 x23 μ21 h
    · have h := hf6 hc4
      refine dr_mask [true] [some (.ref p0)] rfl ?_
      exact c_X12_lived_9 p0 μ h
/-! X12_mean -/
theorem dX12_mean_0 : decode cX12_mean 0 = .ok (.iload_n 1, 1) := by decide +kernel
theorem dX12_mean_1 : decode cX12_mean 1 = .ok (.i2l, 1) := by decide +kernel
theorem dX12_mean_2 : decode cX12_mean 2 = .ok (.lconst 0, 1) := by decide +kernel
theorem dX12_mean_3 : decode cX12_mean 3 = .ok (.ldc2_w 468, 3) := by decide +kernel
theorem dX12_mean_6 : decode cX12_mean 6 = .ok (.invokestatic 366, 3) := by decide +kernel
theorem dX12_mean_9 : decode cX12_mean 9 = .ok (.ifCond .eq 26, 3) := by decide +kernel
theorem dX12_mean_12 : decode cX12_mean 12 = .ok (.iload_n 2, 1) := by decide +kernel
theorem dX12_mean_13 : decode cX12_mean 13 = .ok (.i2l, 1) := by decide +kernel
theorem dX12_mean_14 : decode cX12_mean 14 = .ok (.lconst 1, 1) := by decide +kernel
theorem dX12_mean_15 : decode cX12_mean 15 = .ok (.ldc2_w 477, 3) := by decide +kernel
theorem dX12_mean_18 : decode cX12_mean 18 = .ok (.invokestatic 366, 3) := by decide +kernel
theorem dX12_mean_21 : decode cX12_mean 21 = .ok (.ifCond .eq 14, 3) := by decide +kernel
theorem dX12_mean_24 : decode cX12_mean 24 = .ok (.iload_n 1, 1) := by decide +kernel
theorem dX12_mean_25 : decode cX12_mean 25 = .ok (.iload_n 2, 1) := by decide +kernel
theorem dX12_mean_26 : decode cX12_mean 26 = .ok (.iadd, 1) := by decide +kernel
theorem dX12_mean_27 : decode cX12_mean 27 = .ok (.iconst 1, 1) := by decide +kernel
theorem dX12_mean_28 : decode cX12_mean 28 = .ok (.isub, 1) := by decide +kernel
theorem dX12_mean_29 : decode cX12_mean 29 = .ok (.sipush 9999, 3) := by decide +kernel
theorem dX12_mean_32 : decode cX12_mean 32 = .ok (.if_icmp .le 9, 3) := by decide +kernel
theorem dX12_mean_35 : decode cX12_mean 35 = .ok (.aload_n 0, 1) := by decide +kernel
theorem dX12_mean_36 : decode cX12_mean 36 = .ok (.iconst 1, 1) := by decide +kernel
theorem dX12_mean_37 : decode cX12_mean 37 = .ok (.invokevirtual 100, 3) := by decide +kernel
theorem dX12_mean_40 : decode cX12_mean 40 = .ok (.ireturn, 1) := by decide +kernel
theorem dX12_mean_41 : decode cX12_mean 41 = .ok (.aload_n 0, 1) := by decide +kernel
theorem dX12_mean_42 : decode cX12_mean 42 = .ok (.getfield 7, 3) := by decide +kernel
theorem dX12_mean_45 : decode cX12_mean 45 = .ok (.bipush 7, 2) := by decide +kernel
theorem dX12_mean_47 : decode cX12_mean 47 = .ok (.iaload, 1) := by decide +kernel
theorem dX12_mean_48 : decode cX12_mean 48 = .ok (.iconst (-1), 1) := by decide +kernel
theorem dX12_mean_49 : decode cX12_mean 49 = .ok (.if_icmp .ne 10, 3) := by decide +kernel
theorem dX12_mean_52 : decode cX12_mean 52 = .ok (.aload_n 0, 1) := by decide +kernel
theorem dX12_mean_53 : decode cX12_mean 53 = .ok (.bipush 6, 2) := by decide +kernel
theorem dX12_mean_55 : decode cX12_mean 55 = .ok (.invokevirtual 100, 3) := by decide +kernel
theorem dX12_mean_58 : decode cX12_mean 58 = .ok (.ireturn, 1) := by decide +kernel
theorem dX12_mean_59 : decode cX12_mean 59 = .ok (.iconst 0, 1) := by decide +kernel
theorem dX12_mean_60 : decode cX12_mean 60 = .ok (.istore_n 3, 1) := by decide +kernel
theorem dX12_mean_61 : decode cX12_mean 61 = .ok (.iload_n 3, 1) := by decide +kernel
theorem dX12_mean_62 : decode cX12_mean 62 = .ok (.sipush 136, 3) := by decide +kernel
theorem dX12_mean_65 : decode cX12_mean 65 = .ok (.if_icmp .ge 25, 3) := by decide +kernel
theorem dX12_mean_68 : decode cX12_mean 68 = .ok (.aload_n 0, 1) := by decide +kernel
theorem dX12_mean_69 : decode cX12_mean 69 = .ok (.getfield 7, 3) := by decide +kernel
theorem dX12_mean_72 : decode cX12_mean 72 = .ok (.sipush 2520, 3) := by decide +kernel
theorem dX12_mean_75 : decode cX12_mean 75 = .ok (.iload_n 3, 1) := by decide +kernel
theorem dX12_mean_76 : decode cX12_mean 76 = .ok (.iadd, 1) := by decide +kernel
theorem dX12_mean_77 : decode cX12_mean 77 = .ok (.aload_n 0, 1) := by decide +kernel
theorem dX12_mean_78 : decode cX12_mean 78 = .ok (.getfield 7, 3) := by decide +kernel
theorem dX12_mean_81 : decode cX12_mean 81 = .ok (.iload_n 3, 1) := by decide +kernel
theorem dX12_mean_82 : decode cX12_mean 82 = .ok (.iaload, 1) := by decide +kernel
theorem dX12_mean_83 : decode cX12_mean 83 = .ok (.iastore, 1) := by decide +kernel
theorem dX12_mean_84 : decode cX12_mean 84 = .ok (.iinc 3 1, 3) := by decide +kernel
theorem dX12_mean_87 : decode cX12_mean 87 = .ok (.goto (-26), 3) := by decide +kernel
theorem dX12_mean_90 : decode cX12_mean 90 = .ok (.lconst 0, 1) := by decide +kernel
theorem dX12_mean_91 : decode cX12_mean 91 = .ok (.lstore_n 3, 1) := by decide +kernel
theorem dX12_mean_92 : decode cX12_mean 92 = .ok (.iconst 0, 1) := by decide +kernel
theorem dX12_mean_93 : decode cX12_mean 93 = .ok (.istore 5, 2) := by decide +kernel
theorem dX12_mean_95 : decode cX12_mean 95 = .ok (.iload 5, 2) := by decide +kernel
theorem dX12_mean_97 : decode cX12_mean 97 = .ok (.iload_n 2, 1) := by decide +kernel
theorem dX12_mean_98 : decode cX12_mean 98 = .ok (.if_icmp .ge 65, 3) := by decide +kernel
theorem dX12_mean_101 : decode cX12_mean 101 = .ok (.aload_n 0, 1) := by decide +kernel
theorem dX12_mean_102 : decode cX12_mean 102 = .ok (.iload_n 1, 1) := by decide +kernel
theorem dX12_mean_103 : decode cX12_mean 103 = .ok (.iload 5, 2) := by decide +kernel
theorem dX12_mean_105 : decode cX12_mean 105 = .ok (.iadd, 1) := by decide +kernel
theorem dX12_mean_106 : decode cX12_mean 106 = .ok (.invokevirtual 470, 3) := by decide +kernel
theorem dX12_mean_109 : decode cX12_mean 109 = .ok (.lload_n 3, 1) := by decide +kernel
theorem dX12_mean_110 : decode cX12_mean 110 = .ok (.aload_n 0, 1) := by decide +kernel
theorem dX12_mean_111 : decode cX12_mean 111 = .ok (.getfield 7, 3) := by decide +kernel
theorem dX12_mean_114 : decode cX12_mean 114 = .ok (.iconst 5, 1) := by decide +kernel
theorem dX12_mean_115 : decode cX12_mean 115 = .ok (.iaload, 1) := by decide +kernel
theorem dX12_mean_116 : decode cX12_mean 116 = .ok (.invokestatic 355, 3) := by decide +kernel
theorem dX12_mean_119 : decode cX12_mean 119 = .ok (.i2l, 1) := by decide +kernel
theorem dX12_mean_120 : decode cX12_mean 120 = .ok (.ladd, 1) := by decide +kernel
theorem dX12_mean_121 : decode cX12_mean 121 = .ok (.lstore_n 3, 1) := by decide +kernel
theorem dX12_mean_122 : decode cX12_mean 122 = .ok (.iconst 0, 1) := by decide +kernel
theorem dX12_mean_123 : decode cX12_mean 123 = .ok (.istore 6, 2) := by decide +kernel
theorem dX12_mean_125 : decode cX12_mean 125 = .ok (.iload 6, 2) := by decide +kernel
theorem dX12_mean_127 : decode cX12_mean 127 = .ok (.sipush 136, 3) := by decide +kernel
theorem dX12_mean_130 : decode cX12_mean 130 = .ok (.if_icmp .ge 27, 3) := by decide +kernel
theorem dX12_mean_133 : decode cX12_mean 133 = .ok (.aload_n 0, 1) := by decide +kernel
theorem dX12_mean_134 : decode cX12_mean 134 = .ok (.getfield 7, 3) := by decide +kernel
theorem dX12_mean_137 : decode cX12_mean 137 = .ok (.iload 6, 2) := by decide +kernel
theorem dX12_mean_139 : decode cX12_mean 139 = .ok (.aload_n 0, 1) := by decide +kernel
theorem dX12_mean_140 : decode cX12_mean 140 = .ok (.getfield 7, 3) := by decide +kernel
theorem dX12_mean_143 : decode cX12_mean 143 = .ok (.sipush 2520, 3) := by decide +kernel
theorem dX12_mean_146 : decode cX12_mean 146 = .ok (.iload 6, 2) := by decide +kernel
theorem dX12_mean_148 : decode cX12_mean 148 = .ok (.iadd, 1) := by decide +kernel
theorem dX12_mean_149 : decode cX12_mean 149 = .ok (.iaload, 1) := by decide +kernel
theorem dX12_mean_150 : decode cX12_mean 150 = .ok (.iastore, 1) := by decide +kernel
theorem dX12_mean_151 : decode cX12_mean 151 = .ok (.iinc 6 1, 3) := by decide +kernel
theorem dX12_mean_154 : decode cX12_mean 154 = .ok (.goto (-29), 3) := by decide +kernel
theorem dX12_mean_157 : decode cX12_mean 157 = .ok (.iinc 5 1, 3) := by decide +kernel
theorem dX12_mean_160 : decode cX12_mean 160 = .ok (.goto (-65), 3) := by decide +kernel
theorem dX12_mean_163 : decode cX12_mean 163 = .ok (.aload_n 0, 1) := by decide +kernel
theorem dX12_mean_164 : decode cX12_mean 164 = .ok (.lload_n 3, 1) := by decide +kernel
theorem dX12_mean_165 : decode cX12_mean 165 = .ok (.iload_n 2, 1) := by decide +kernel
theorem dX12_mean_166 : decode cX12_mean 166 = .ok (.i2l, 1) := by decide +kernel
theorem dX12_mean_167 : decode cX12_mean 167 = .ok (.invokevirtual 433, 3) := by decide +kernel
theorem dX12_mean_170 : decode cX12_mean 170 = .ok (.ireturn, 1) := by decide +kernel
set_option maxRecDepth 100000 in
def f_X12_mean_35 (l0 : Nat) (μ : dtM) : Option (Int32 × dtM) :=
  (opRv 12 μ l0).bind fun _ => opCall (f_X12_is l0 (1 : Int32) μ) fun x4 μ2 => opRet x4 μ2
set_option maxRecDepth 100000 in
def f_X12_mean_125 (k95 : Nat → Int32 → Int32 → Int64 → Int32 → dtM → Option (Int32 × dtM)) : Nat → Nat → Int32 → Int32 → Int64 → Int32 → Int32 → dtM → Option (Int32 × dtM)
  | 0, _, _, _, _, _, _, _ => none
  | n + 1, l0, l1, l2, l3, l5, l6, μ =>
    if (136 : Int32) ≤ l6 then (k95 l0 l1 l2 l3 (l5 + 1) μ) else ((opGR 12 0 μ l0).bind fun x4 => (opGR 12 0 μ l0).bind fun x6 => (opLI 1 μ x6 ((2520 : Int32) + l6)).bind fun x8 => (opSI μ x4 l6 x8).bind fun μ10 => f_X12_mean_125 k95 n l0 l1 l2 l3 l5 (l6 + 1) μ10)
set_option maxRecDepth 100000 in
def f_X12_mean_95 : Nat → Nat → Int32 → Int32 → Int64 → Int32 → dtM → Option (Int32 × dtM)
  | 0, _, _, _, _, _, _ => none
  | n + 1, l0, l1, l2, l3, l5, μ =>
    if l2 ≤ l5 then ((opRv 12 μ l0).bind fun _ => opCall (f_X12_tellsBy l0 l3 (l2.toInt64) μ) fun x7 μ5 => opRet x7 μ5) else ((opRv 12 μ l0).bind fun _ => (f_X12_lives l0 (l1 + l5) μ).bind fun μ9 => (opGR 12 0 μ9 l0).bind fun x11 => (opLI 1 μ9 x11 (5 : Int32)).bind fun x13 => opCall (f_X12_bits x13 μ9) fun x17 μ15 => (some (l3 + (x17.toInt64))).bind fun x18 => f_X12_mean_125 (f_X12_mean_95 n) dtFuel l0 l1 l2 x18 l5 (0 : Int32) μ15)
set_option maxRecDepth 100000 in
def f_X12_mean_61 : Nat → Nat → Int32 → Int32 → Int32 → dtM → Option (Int32 × dtM)
  | 0, _, _, _, _, _ => none
  | n + 1, l0, l1, l2, l3, μ =>
    if (136 : Int32) ≤ l3 then (f_X12_mean_95 dtFuel l0 l1 l2 (0 : Int64) (0 : Int32) μ) else ((opGR 12 0 μ l0).bind fun x4 => (opGR 12 0 μ l0).bind fun x6 => (opLI 1 μ x6 l3).bind fun x8 => (opSI μ x4 ((2520 : Int32) + l3) x8).bind fun μ10 => f_X12_mean_61 n l0 l1 l2 (l3 + 1) μ10)
set_option maxRecDepth 100000 in
def f_X12_mean (p0 : Nat) (p1 : Int32) (p2 : Int32) (μ : dtM) : Option (Int32 × dtM) :=
  opCall (f_X12_isFrom (p1.toInt64) (0 : Int64) (9999 : Int64) μ) fun x3 μ1 => if x3 = 0 then (f_X12_mean_35 p0 μ1) else (opCall (f_X12_isFrom (p2.toInt64) (1 : Int64) (20 : Int64) μ1) fun x9 μ7 => if x9 = 0 then (f_X12_mean_35 p0 μ7) else (if ((p1 + p2) - (1 : Int32)) ≤ (9999 : Int32) then ((opGR 12 0 μ7 p0).bind fun x16 => (opLI 1 μ7 x16 (7 : Int32)).bind fun x18 => if x18 = (-1 : Int32) then ((opRv 12 μ7 p0).bind fun _ => opCall (f_X12_is p0 (6 : Int32) μ7) fun x26 μ24 => opRet x26 μ24) else (f_X12_mean_61 dtFuel p0 p1 p2 (0 : Int32) μ7)) else (f_X12_mean_35 p0 μ7)))
set_option maxRecDepth 100000 in
theorem c_X12_mean_35 {r : Int32} {F : dtM} (l0 : Nat) (μ : dtM) (h : f_X12_mean_35 l0 μ = some (r, F)) : dtW yX12_mean cX12_mean 7 (some .boolean) 10 (some (.int r)) F 35 [some (.ref l0)] [] μ := by
  rw [f_X12_mean_35] at h
  refine dr_aload_n l0 dX12_mean_35 rfl ?_
  refine dr_iconst (1 : Int32) dX12_mean_36 (by decide) ?_
  obtain ⟨_, hb1, h⟩ := dtBind h
  obtain ⟨x4, μ2, e3, h⟩ := dtCall h
  refine dr_callV_i (S0 := []) [.int (1 : Int32)] x4 μ2 dX12_mean_37 (c_X12_is l0 (1 : Int32) μ e3) mf_X12_is wt_1492 ws_53 wt_1490 rfl (dtRv hb1) (by decide) rfl (Nat.le_of_ble_eq_true rfl) (Nat.le_of_ble_eq_true rfl) rfl ?_
  obtain ⟨hz, rfl, rfl⟩ := dtRet h
  exact dr_ireturn dX12_mean_40 (dtNz hz)
set_option maxRecDepth 100000 in
theorem c_X12_mean_125 {r : Int32} {F : dtM} (k95 : Nat → Int32 → Int32 → Int64 → Int32 → dtM → Option (Int32 × dtM)) (hk95 : ∀ (l0 : Nat) (l1 : Int32) (l2 : Int32) (l3 : Int64) (l5 : Int32) (μ : dtM), k95 l0 l1 l2 l3 l5 μ = some (r, F) → dtW yX12_mean cX12_mean 7 (some .boolean) 10 (some (.int r)) F 95 [some (.ref l0), some (.int l1), some (.int l2), some (.long l3), none, some (.int l5)] [] μ) : ∀ (n : Nat) (l0 : Nat) (l1 : Int32) (l2 : Int32) (l3 : Int64) (l5 : Int32) (l6 : Int32) (μ : dtM), f_X12_mean_125 k95 n l0 l1 l2 l3 l5 l6 μ = some (r, F) → dtW yX12_mean cX12_mean 7 (some .boolean) 10 (some (.int r)) F 125 [some (.ref l0), some (.int l1), some (.int l2), some (.long l3), none, some (.int l5), some (.int l6)] [] μ := by
  intro n
  induction n with
  | zero => intro l0 l1 l2 l3 l5 l6 μ h; cases h
  | succ n ih =>
    intro l0 l1 l2 l3 l5 l6 μ h
    have h := (show f_X12_mean_125 k95 (n + 1) l0 l1 l2 l3 l5 l6 μ = some _ from h)
    rw [f_X12_mean_125] at h
    refine dr_iload l6 dX12_mean_125 rfl ?_
    refine dr_sipush (136 : Int32) dX12_mean_127 (by decide) ?_
    obtain ⟨ht2, hf3⟩ := dtIte h
    refine dr_icmp_ge 157 dX12_mean_130 (by decide) (fun hc1 => ?_) (fun hc1 => ?_)
    · have h := ht2 hc1
      refine dr_iinc l5 (l5 + 1) [some (.ref l0), some (.int l1), some (.int l2), some (.long l3), none, some (.int (l5 + 1)), some (.int l6)] dX12_mean_157 rfl rfl rfl rfl rfl ?_
      refine dr_goto 95 dX12_mean_160 (by decide) ?_
      refine dr_mask [true, true, true, true, false, true] [some (.ref l0), some (.int l1), some (.int l2), some (.long l3), none, some (.int (l5 + 1))] rfl ?_
      exact hk95 l0 l1 l2 l3 (l5 + 1) μ h
    · have h := hf3 hc1
      refine dr_aload_n l0 dX12_mean_133 rfl ?_
      obtain ⟨x4, e5, h⟩ := dtBind h
      refine dr_getR x4 dX12_mean_134 fl_RX12_7 e5 ?_
      refine dr_iload l6 dX12_mean_137 rfl ?_
      refine dr_aload_n l0 dX12_mean_139 rfl ?_
      obtain ⟨x6, e7, h⟩ := dtBind h
      refine dr_getR x6 dX12_mean_140 fl_RX12_7 e7 ?_
      refine dr_sipush (2520 : Int32) dX12_mean_143 (by decide) ?_
      refine dr_iload l6 dX12_mean_146 rfl ?_
      refine dr_iadd dX12_mean_148 ?_
      obtain ⟨x8, e9, h⟩ := dtBind h
      refine dr_iaload x8 dX12_mean_149 e9 ?_
      obtain ⟨μ10, e11, h⟩ := dtBind h
      refine dr_iastore μ10 dX12_mean_150 e11 ?_
      refine dr_iinc l6 (l6 + 1) [some (.ref l0), some (.int l1), some (.int l2), some (.long l3), none, some (.int l5), some (.int (l6 + 1))] dX12_mean_151 rfl rfl rfl rfl rfl ?_
      refine dr_goto 125 dX12_mean_154 (by decide) ?_
      exact ih l0 l1 l2 l3 l5 (l6 + 1) μ10 h
set_option maxRecDepth 100000 in
theorem c_X12_mean_95 {r : Int32} {F : dtM} : ∀ (n : Nat) (l0 : Nat) (l1 : Int32) (l2 : Int32) (l3 : Int64) (l5 : Int32) (μ : dtM), f_X12_mean_95 n l0 l1 l2 l3 l5 μ = some (r, F) → dtW yX12_mean cX12_mean 7 (some .boolean) 10 (some (.int r)) F 95 [some (.ref l0), some (.int l1), some (.int l2), some (.long l3), none, some (.int l5)] [] μ := by
  intro n
  induction n with
  | zero => intro l0 l1 l2 l3 l5 μ h; cases h
  | succ n ih =>
    intro l0 l1 l2 l3 l5 μ h
    have h := (show f_X12_mean_95 (n + 1) l0 l1 l2 l3 l5 μ = some _ from h)
    rw [f_X12_mean_95] at h
    refine dr_iload l5 dX12_mean_95 rfl ?_
    refine dr_iload_n l2 dX12_mean_97 rfl ?_
    obtain ⟨ht2, hf3⟩ := dtIte h
    refine dr_icmp_ge 163 dX12_mean_98 (by decide) (fun hc1 => ?_) (fun hc1 => ?_)
    · have h := ht2 hc1
      refine dr_aload_n l0 dX12_mean_163 rfl ?_
      refine dr_lload_n l3 dX12_mean_164 rfl ?_
      refine dr_iload_n l2 dX12_mean_165 rfl ?_
      refine dr_i2l dX12_mean_166 ?_
      obtain ⟨_, hb4, h⟩ := dtBind h
      obtain ⟨x7, μ5, e6, h⟩ := dtCall h
      refine dr_callV_i (S0 := []) [.long l3, .long (l2.toInt64)] x7 μ5 dX12_mean_167 (c_X12_tellsBy l0 l3 (l2.toInt64) μ e6) mf_X12_tellsBy wt_2015 ws_127 wt_2013 rfl (dtRv hb4) (by decide) rfl (Nat.le_of_ble_eq_true rfl) (Nat.le_of_ble_eq_true rfl) rfl ?_
      obtain ⟨hz, rfl, rfl⟩ := dtRet h
      exact dr_ireturn dX12_mean_170 (dtNz hz)
    · have h := hf3 hc1
      refine dr_aload_n l0 dX12_mean_101 rfl ?_
      refine dr_iload_n l1 dX12_mean_102 rfl ?_
      refine dr_iload l5 dX12_mean_103 rfl ?_
      refine dr_iadd dX12_mean_105 ?_
      obtain ⟨_, hb8, h⟩ := dtBind h
      obtain ⟨μ9, e10, h⟩ := dtBind h
      refine dr_callV_v (S0 := []) [.int (l1 + l5)] μ9 dX12_mean_106 (c_X12_lives l0 (l1 + l5) μ e10) mf_X12_lives wt_2028 ws_128 wt_2026 rfl (dtRv hb8) (by decide) rfl (Nat.le_of_ble_eq_true rfl) (Nat.le_of_ble_eq_true rfl) rfl ?_
      refine dr_lload_n l3 dX12_mean_109 rfl ?_
      refine dr_aload_n l0 dX12_mean_110 rfl ?_
      obtain ⟨x11, e12, h⟩ := dtBind h
      refine dr_getR x11 dX12_mean_111 fl_RX12_7 e12 ?_
      refine dr_iconst (5 : Int32) dX12_mean_114 (by decide) ?_
      obtain ⟨x13, e14, h⟩ := dtBind h
      refine dr_iaload x13 dX12_mean_115 e14 ?_
      obtain ⟨x17, μ15, e16, h⟩ := dtCall h
      refine dr_callS_i (S0 := [.long l3]) [.int x13] x17 μ15 dX12_mean_116 (c_X12_bits x13 μ9 e16) mf_X12_bits wt_1826 wt_1825 rfl (Nat.le_of_ble_eq_true rfl) (Nat.le_of_ble_eq_true rfl) rfl ?_
      refine dr_i2l dX12_mean_119 ?_
      refine dr_ladd dX12_mean_120 ?_
      obtain ⟨x18, e19, h⟩ := dtBind h
      refine dr_nmj e19 ?_
      refine dr_lstore_n 3 [some (.ref l0), some (.int l1), some (.int l2), some (.long x18), none, some (.int l5)] dX12_mean_121 rfl rfl rfl rfl ?_
      refine dr_iconst (0 : Int32) dX12_mean_122 (by decide) ?_
      refine dr_istore [some (.ref l0), some (.int l1), some (.int l2), some (.long x18), none, some (.int l5), some (.int (0 : Int32))] dX12_mean_123 rfl rfl rfl ?_
      exact c_X12_mean_125 (f_X12_mean_95 n) ih dtFuel l0 l1 l2 x18 l5 (0 : Int32) μ15 h
set_option maxRecDepth 100000 in
theorem c_X12_mean_61 {r : Int32} {F : dtM} : ∀ (n : Nat) (l0 : Nat) (l1 : Int32) (l2 : Int32) (l3 : Int32) (μ : dtM), f_X12_mean_61 n l0 l1 l2 l3 μ = some (r, F) → dtW yX12_mean cX12_mean 7 (some .boolean) 10 (some (.int r)) F 61 [some (.ref l0), some (.int l1), some (.int l2), some (.int l3)] [] μ := by
  intro n
  induction n with
  | zero => intro l0 l1 l2 l3 μ h; cases h
  | succ n ih =>
    intro l0 l1 l2 l3 μ h
    have h := (show f_X12_mean_61 (n + 1) l0 l1 l2 l3 μ = some _ from h)
    rw [f_X12_mean_61] at h
    refine dr_iload_n l3 dX12_mean_61 rfl ?_
    refine dr_sipush (136 : Int32) dX12_mean_62 (by decide) ?_
    obtain ⟨ht2, hf3⟩ := dtIte h
    refine dr_icmp_ge 90 dX12_mean_65 (by decide) (fun hc1 => ?_) (fun hc1 => ?_)
    · have h := ht2 hc1
      refine dr_lconst (0 : Int64) dX12_mean_90 (by decide) ?_
      refine dr_lstore_n 3 [some (.ref l0), some (.int l1), some (.int l2), some (.long (0 : Int64)), none] dX12_mean_91 rfl rfl rfl rfl ?_
      refine dr_iconst (0 : Int32) dX12_mean_92 (by decide) ?_
      refine dr_istore [some (.ref l0), some (.int l1), some (.int l2), some (.long (0 : Int64)), none, some (.int (0 : Int32))] dX12_mean_93 rfl rfl rfl ?_
      exact c_X12_mean_95 dtFuel l0 l1 l2 (0 : Int64) (0 : Int32) μ h
    · have h := hf3 hc1
      refine dr_aload_n l0 dX12_mean_68 rfl ?_
      obtain ⟨x4, e5, h⟩ := dtBind h
      refine dr_getR x4 dX12_mean_69 fl_RX12_7 e5 ?_
      refine dr_sipush (2520 : Int32) dX12_mean_72 (by decide) ?_
      refine dr_iload_n l3 dX12_mean_75 rfl ?_
      refine dr_iadd dX12_mean_76 ?_
      refine dr_aload_n l0 dX12_mean_77 rfl ?_
      obtain ⟨x6, e7, h⟩ := dtBind h
      refine dr_getR x6 dX12_mean_78 fl_RX12_7 e7 ?_
      refine dr_iload_n l3 dX12_mean_81 rfl ?_
      obtain ⟨x8, e9, h⟩ := dtBind h
      refine dr_iaload x8 dX12_mean_82 e9 ?_
      obtain ⟨μ10, e11, h⟩ := dtBind h
      refine dr_iastore μ10 dX12_mean_83 e11 ?_
      refine dr_iinc l3 (l3 + 1) [some (.ref l0), some (.int l1), some (.int l2), some (.int (l3 + 1))] dX12_mean_84 rfl rfl rfl rfl rfl ?_
      refine dr_goto 61 dX12_mean_87 (by decide) ?_
      exact ih l0 l1 l2 (l3 + 1) μ10 h
set_option maxRecDepth 100000 in
theorem c_X12_mean {r : Int32} {F : dtM} (p0 : Nat) (p1 : Int32) (p2 : Int32) (μ : dtM) (h : f_X12_mean p0 p1 p2 μ = some (r, F)) : dtMet yX12_mean cX12_mean 7 (some .boolean) 10 [.ref p0, .int p1, .int p2] μ (some (.int r)) F := by
  refine dtMet.of (by decide +kernel) (Nat.le_of_ble_eq_true rfl) (show dtW yX12_mean cX12_mean 7 (some .boolean) 10 (some (.int r)) F 0 [some (.ref p0), some (.int p1), some (.int p2)] [] μ from ?_)
  rw [f_X12_mean] at h
  refine dr_iload_n p1 dX12_mean_0 rfl ?_
  refine dr_i2l dX12_mean_1 ?_
  refine dr_lconst (0 : Int64) dX12_mean_2 (by decide) ?_
  refine dr_ldc2 (9999 : Int64) dX12_mean_3 wt_2025 ?_
  obtain ⟨x3, μ1, e2, h⟩ := dtCall h
  refine dr_callS_i (S0 := []) [.long (p1.toInt64), .long (0 : Int64), .long (9999 : Int64)] x3 μ1 dX12_mean_6 (c_X12_isFrom (p1.toInt64) (0 : Int64) (9999 : Int64) μ e2) mf_X12_isFrom wt_1854 wt_1853 rfl (Nat.le_of_ble_eq_true rfl) (Nat.le_of_ble_eq_true rfl) rfl ?_
  obtain ⟨ht5, hf6⟩ := dtIte h
  refine dr_if_eq 35 dX12_mean_9 (by decide) (fun hc4 => ?_) (fun hc4 => ?_)
  · have h := ht5 hc4
    refine dr_mask [true] [some (.ref p0)] rfl ?_
    exact c_X12_mean_35 p0 μ1 h
  · have h := hf6 hc4
    refine dr_iload_n p2 dX12_mean_12 rfl ?_
    refine dr_i2l dX12_mean_13 ?_
    refine dr_lconst (1 : Int64) dX12_mean_14 (by decide) ?_
    refine dr_ldc2 (20 : Int64) dX12_mean_15 wt_2071 ?_
    obtain ⟨x9, μ7, e8, h⟩ := dtCall h
    refine dr_callS_i (S0 := []) [.long (p2.toInt64), .long (1 : Int64), .long (20 : Int64)] x9 μ7 dX12_mean_18 (c_X12_isFrom (p2.toInt64) (1 : Int64) (20 : Int64) μ1 e8) mf_X12_isFrom wt_1854 wt_1853 rfl (Nat.le_of_ble_eq_true rfl) (Nat.le_of_ble_eq_true rfl) rfl ?_
    obtain ⟨ht11, hf12⟩ := dtIte h
    refine dr_if_eq 35 dX12_mean_21 (by decide) (fun hc10 => ?_) (fun hc10 => ?_)
    · have h := ht11 hc10
      refine dr_mask [true] [some (.ref p0)] rfl ?_
      exact c_X12_mean_35 p0 μ7 h
    · have h := hf12 hc10
      refine dr_iload_n p1 dX12_mean_24 rfl ?_
      refine dr_iload_n p2 dX12_mean_25 rfl ?_
      refine dr_iadd dX12_mean_26 ?_
      refine dr_iconst (1 : Int32) dX12_mean_27 (by decide) ?_
      refine dr_isub dX12_mean_28 ?_
      refine dr_sipush (9999 : Int32) dX12_mean_29 (by decide) ?_
      obtain ⟨ht14, hf15⟩ := dtIte h
      refine dr_icmp_le 41 dX12_mean_32 (by decide) (fun hc13 => ?_) (fun hc13 => ?_)
      · have h := ht14 hc13
        refine dr_aload_n p0 dX12_mean_41 rfl ?_
        obtain ⟨x16, e17, h⟩ := dtBind h
        refine dr_getR x16 dX12_mean_42 fl_RX12_7 e17 ?_
        refine dr_bipush (7 : Int32) dX12_mean_45 (by decide) ?_
        obtain ⟨x18, e19, h⟩ := dtBind h
        refine dr_iaload x18 dX12_mean_47 e19 ?_
        refine dr_iconst (-1 : Int32) dX12_mean_48 (by decide) ?_
        obtain ⟨ht21, hf22⟩ := dtIte h
        refine dr_icmp_ne 59 dX12_mean_49 (by decide) (fun hc20 => ?_) (fun hc20 => ?_)
        · have h := hf22 hc20
          refine dr_iconst (0 : Int32) dX12_mean_59 (by decide) ?_
          refine dr_istore_n 3 [some (.ref p0), some (.int p1), some (.int p2), some (.int (0 : Int32))] dX12_mean_60 rfl rfl rfl rfl ?_
          exact c_X12_mean_61 dtFuel p0 p1 p2 (0 : Int32) μ7 h
        · have h := ht21 hc20
          refine dr_aload_n p0 dX12_mean_52 rfl ?_
          refine dr_bipush (6 : Int32) dX12_mean_53 (by decide) ?_
          obtain ⟨_, hb23, h⟩ := dtBind h
          obtain ⟨x26, μ24, e25, h⟩ := dtCall h
          refine dr_callV_i (S0 := []) [.int (6 : Int32)] x26 μ24 dX12_mean_55 (c_X12_is p0 (6 : Int32) μ7 e25) mf_X12_is wt_1492 ws_53 wt_1490 rfl (dtRv hb23) (by decide) rfl (Nat.le_of_ble_eq_true rfl) (Nat.le_of_ble_eq_true rfl) rfl ?_
          obtain ⟨hz, rfl, rfl⟩ := dtRet h
          exact dr_ireturn dX12_mean_58 (dtNz hz)
      · have h := hf15 hc13
        refine dr_mask [true] [some (.ref p0)] rfl ?_
        exact c_X12_mean_35 p0 μ7 h
