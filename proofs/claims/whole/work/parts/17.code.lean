/-! X11_tellFraction -/
theorem dX11_tellFraction_0 : decode cX11_tellFraction 0 = .ok (.lload_n 1, 1) := by decide +kernel
theorem dX11_tellFraction_1 : decode cX11_tellFraction 1 = .ok (.lload_n 3, 1) := by decide +kernel
theorem dX11_tellFraction_2 : decode cX11_tellFraction 2 = .ok (.invokestatic 436, 3) := by decide +kernel
theorem dX11_tellFraction_5 : decode cX11_tellFraction 5 = .ok (.lstore 5, 2) := by decide +kernel
theorem dX11_tellFraction_7 : decode cX11_tellFraction 7 = .ok (.lload 5, 2) := by decide +kernel
theorem dX11_tellFraction_9 : decode cX11_tellFraction 9 = .ok (.lconst 0, 1) := by decide +kernel
theorem dX11_tellFraction_10 : decode cX11_tellFraction 10 = .ok (.lcmp, 1) := by decide +kernel
theorem dX11_tellFraction_11 : decode cX11_tellFraction 11 = .ok (.ifCond .le 19, 3) := by decide +kernel
theorem dX11_tellFraction_14 : decode cX11_tellFraction 14 = .ok (.aload_n 0, 1) := by decide +kernel
theorem dX11_tellFraction_15 : decode cX11_tellFraction 15 = .ok (.lload_n 1, 1) := by decide +kernel
theorem dX11_tellFraction_16 : decode cX11_tellFraction 16 = .ok (.lload 5, 2) := by decide +kernel
theorem dX11_tellFraction_18 : decode cX11_tellFraction 18 = .ok (.ldiv, 1) := by decide +kernel
theorem dX11_tellFraction_19 : decode cX11_tellFraction 19 = .ok (.putfield 13, 3) := by decide +kernel
theorem dX11_tellFraction_22 : decode cX11_tellFraction 22 = .ok (.aload_n 0, 1) := by decide +kernel
theorem dX11_tellFraction_23 : decode cX11_tellFraction 23 = .ok (.lload_n 3, 1) := by decide +kernel
theorem dX11_tellFraction_24 : decode cX11_tellFraction 24 = .ok (.lload 5, 2) := by decide +kernel
theorem dX11_tellFraction_26 : decode cX11_tellFraction 26 = .ok (.ldiv, 1) := by decide +kernel
theorem dX11_tellFraction_27 : decode cX11_tellFraction 27 = .ok (.putfield 17, 3) := by decide +kernel
theorem dX11_tellFraction_30 : decode cX11_tellFraction 30 = .ok (.return_, 1) := by decide +kernel
set_option maxRecDepth 100000 in
def f_X11_tellFraction_30  (μ : dtM) : Option dtM :=
  some μ
set_option maxRecDepth 100000 in
def f_X11_tellFraction (p0 : Nat) (p1 : Int64) (p3 : Int64) (μ : dtM) : Option dtM :=
  opCall (f_X11_commonDivisor p1 p3 μ) fun x3 μ1 => if (lg_cmp x3 (0 : Int64)) ≤ 0 then (f_X11_tellFraction_30 μ1) else ((opDivJ p1 x3).bind fun x7 => (opPJ 11 1 μ1 p0 x7).bind fun μ9 => (opDivJ p3 x3).bind fun x11 => (opPJ 11 2 μ9 p0 x11).bind fun μ13 => f_X11_tellFraction_30 μ13)
set_option maxRecDepth 100000 in
theorem c_X11_tellFraction_30 {F : dtM}  (μ : dtM) (h : f_X11_tellFraction_30  μ = some F) : dtW yX11_tellFraction cX11_tellFraction 7 (none) 2 (none) F 30 [] [] μ := by
  rw [f_X11_tellFraction_30] at h
  cases h
  exact dr_return dX11_tellFraction_30
set_option maxRecDepth 100000 in
theorem c_X11_tellFraction {F : dtM} (p0 : Nat) (p1 : Int64) (p3 : Int64) (μ : dtM) (h : f_X11_tellFraction p0 p1 p3 μ = some F) : dtMet yX11_tellFraction cX11_tellFraction 7 (none) 2 [.ref p0, .long p1, .long p3] μ (none) F := by
  refine dtMet.of (by decide +kernel) (Nat.le_of_ble_eq_true rfl) (show dtW yX11_tellFraction cX11_tellFraction 7 (none) 2 (none) F 0 [some (.ref p0), some (.long p1), none, some (.long p3), none] [] μ from ?_)
  rw [f_X11_tellFraction] at h
  refine dr_lload_n p1 dX11_tellFraction_0 rfl ?_
  refine dr_lload_n p3 dX11_tellFraction_1 rfl ?_
  obtain ⟨x3, μ1, e2, h⟩ := dtCall h
  refine dr_callS_l (S0 := []) [.long p1, .long p3] x3 μ1 dX11_tellFraction_2 (c_X11_commonDivisor p1 p3 μ e2) mf_X11_commonDivisor wt_1253 wt_1252 rfl (Nat.le_of_ble_eq_true rfl) (Nat.le_of_ble_eq_true rfl) rfl ?_
  refine dr_lstore [some (.ref p0), some (.long p1), none, some (.long p3), none, some (.long x3), none] dX11_tellFraction_5 rfl rfl rfl ?_
  refine dr_lload x3 dX11_tellFraction_7 rfl ?_
  refine dr_lconst (0 : Int64) dX11_tellFraction_9 (by decide) ?_
  refine dr_lcmp dX11_tellFraction_10 ?_
  obtain ⟨ht5, hf6⟩ := dtIte h
  refine dr_if_le 30 dX11_tellFraction_11 (by decide) (fun hc4 => ?_) (fun hc4 => ?_)
  · have h := ht5 hc4
    refine dr_mask [] [] rfl ?_
    exact c_X11_tellFraction_30 μ1 h
  · have h := hf6 hc4
    refine dr_aload_n p0 dX11_tellFraction_14 rfl ?_
    refine dr_lload_n p1 dX11_tellFraction_15 rfl ?_
    refine dr_lload x3 dX11_tellFraction_16 rfl ?_
    obtain ⟨x7, e8, h⟩ := dtBind h
    refine dr_ldiv_n x7 dX11_tellFraction_18 e8 ?_
    obtain ⟨μ9, e10, h⟩ := dtBind h
    refine dr_putJ μ9 dX11_tellFraction_19 fl_RX11_13 rfl e10 ?_
    refine dr_aload_n p0 dX11_tellFraction_22 rfl ?_
    refine dr_lload_n p3 dX11_tellFraction_23 rfl ?_
    refine dr_lload x3 dX11_tellFraction_24 rfl ?_
    obtain ⟨x11, e12, h⟩ := dtBind h
    refine dr_ldiv_n x11 dX11_tellFraction_26 e12 ?_
    obtain ⟨μ13, e14, h⟩ := dtBind h
    refine dr_putJ μ13 dX11_tellFraction_27 fl_RX11_17 rfl e14 ?_
    refine dr_mask [] [] rfl ?_
    exact c_X11_tellFraction_30 μ13 h
/-! X11_gale -/
theorem dX11_gale_0 : decode cX11_gale 0 = .ok (.iload_n 1, 1) := by decide +kernel
theorem dX11_gale_1 : decode cX11_gale 1 = .ok (.iconst 0, 1) := by decide +kernel
theorem dX11_gale_2 : decode cX11_gale 2 = .ok (.bipush 12, 2) := by decide +kernel
theorem dX11_gale_4 : decode cX11_gale 4 = .ok (.invokestatic 115, 3) := by decide +kernel
theorem dX11_gale_7 : decode cX11_gale 7 = .ok (.ifCond .eq 13, 3) := by decide +kernel
theorem dX11_gale_10 : decode cX11_gale 10 = .ok (.iload_n 2, 1) := by decide +kernel
theorem dX11_gale_11 : decode cX11_gale 11 = .ok (.iconst 0, 1) := by decide +kernel
theorem dX11_gale_12 : decode cX11_gale 12 = .ok (.bipush 12, 2) := by decide +kernel
theorem dX11_gale_14 : decode cX11_gale 14 = .ok (.invokestatic 115, 3) := by decide +kernel
theorem dX11_gale_17 : decode cX11_gale 17 = .ok (.ifCond .ne 9, 3) := by decide +kernel
theorem dX11_gale_20 : decode cX11_gale 20 = .ok (.aload_n 0, 1) := by decide +kernel
theorem dX11_gale_21 : decode cX11_gale 21 = .ok (.iconst 1, 1) := by decide +kernel
theorem dX11_gale_22 : decode cX11_gale 22 = .ok (.invokevirtual 119, 3) := by decide +kernel
theorem dX11_gale_25 : decode cX11_gale 25 = .ok (.ireturn, 1) := by decide +kernel
theorem dX11_gale_26 : decode cX11_gale 26 = .ok (.lconst 0, 1) := by decide +kernel
theorem dX11_gale_27 : decode cX11_gale 27 = .ok (.lstore_n 3, 1) := by decide +kernel
theorem dX11_gale_28 : decode cX11_gale 28 = .ok (.lconst 1, 1) := by decide +kernel
theorem dX11_gale_29 : decode cX11_gale 29 = .ok (.lstore 5, 2) := by decide +kernel
theorem dX11_gale_31 : decode cX11_gale 31 = .ok (.iconst 0, 1) := by decide +kernel
theorem dX11_gale_32 : decode cX11_gale 32 = .ok (.istore 7, 2) := by decide +kernel
theorem dX11_gale_34 : decode cX11_gale 34 = .ok (.iload 7, 2) := by decide +kernel
theorem dX11_gale_36 : decode cX11_gale 36 = .ok (.iload_n 1, 1) := by decide +kernel
theorem dX11_gale_37 : decode cX11_gale 37 = .ok (.if_icmp .gt 67, 3) := by decide +kernel
theorem dX11_gale_40 : decode cX11_gale 40 = .ok (.iload 7, 2) := by decide +kernel
theorem dX11_gale_42 : decode cX11_gale 42 = .ok (.iload_n 2, 1) := by decide +kernel
theorem dX11_gale_43 : decode cX11_gale 43 = .ok (.if_icmp .lt 39, 3) := by decide +kernel
theorem dX11_gale_46 : decode cX11_gale 46 = .ok (.lload_n 3, 1) := by decide +kernel
theorem dX11_gale_47 : decode cX11_gale 47 = .ok (.lload 5, 2) := by decide +kernel
theorem dX11_gale_49 : decode cX11_gale 49 = .ok (.aload_n 0, 1) := by decide +kernel
theorem dX11_gale_50 : decode cX11_gale 50 = .ok (.getfield 37, 3) := by decide +kernel
theorem dX11_gale_53 : decode cX11_gale 53 = .ok (.getfield 217, 3) := by decide +kernel
theorem dX11_gale_56 : decode cX11_gale 56 = .ok (.iload 7, 2) := by decide +kernel
theorem dX11_gale_58 : decode cX11_gale 58 = .ok (.invokestatic 399, 3) := by decide +kernel
theorem dX11_gale_61 : decode cX11_gale 61 = .ok (.lmul, 1) := by decide +kernel
theorem dX11_gale_62 : decode cX11_gale 62 = .ok (.bipush 16, 2) := by decide +kernel
theorem dX11_gale_64 : decode cX11_gale 64 = .ok (.aload_n 0, 1) := by decide +kernel
theorem dX11_gale_65 : decode cX11_gale 65 = .ok (.getfield 37, 3) := by decide +kernel
theorem dX11_gale_68 : decode cX11_gale 68 = .ok (.getfield 217, 3) := by decide +kernel
theorem dX11_gale_71 : decode cX11_gale 71 = .ok (.isub, 1) := by decide +kernel
theorem dX11_gale_72 : decode cX11_gale 72 = .ok (.iload_n 1, 1) := by decide +kernel
theorem dX11_gale_73 : decode cX11_gale 73 = .ok (.iload 7, 2) := by decide +kernel
theorem dX11_gale_75 : decode cX11_gale 75 = .ok (.isub, 1) := by decide +kernel
theorem dX11_gale_76 : decode cX11_gale 76 = .ok (.invokestatic 399, 3) := by decide +kernel
theorem dX11_gale_79 : decode cX11_gale 79 = .ok (.lmul, 1) := by decide +kernel
theorem dX11_gale_80 : decode cX11_gale 80 = .ok (.ladd, 1) := by decide +kernel
theorem dX11_gale_81 : decode cX11_gale 81 = .ok (.lstore_n 3, 1) := by decide +kernel
theorem dX11_gale_82 : decode cX11_gale 82 = .ok (.lload 5, 2) := by decide +kernel
theorem dX11_gale_84 : decode cX11_gale 84 = .ok (.iload_n 1, 1) := by decide +kernel
theorem dX11_gale_85 : decode cX11_gale 85 = .ok (.iload 7, 2) := by decide +kernel
theorem dX11_gale_87 : decode cX11_gale 87 = .ok (.isub, 1) := by decide +kernel
theorem dX11_gale_88 : decode cX11_gale 88 = .ok (.i2l, 1) := by decide +kernel
theorem dX11_gale_89 : decode cX11_gale 89 = .ok (.lmul, 1) := by decide +kernel
theorem dX11_gale_90 : decode cX11_gale 90 = .ok (.iload 7, 2) := by decide +kernel
theorem dX11_gale_92 : decode cX11_gale 92 = .ok (.iconst 1, 1) := by decide +kernel
theorem dX11_gale_93 : decode cX11_gale 93 = .ok (.iadd, 1) := by decide +kernel
theorem dX11_gale_94 : decode cX11_gale 94 = .ok (.i2l, 1) := by decide +kernel
theorem dX11_gale_95 : decode cX11_gale 95 = .ok (.ldiv, 1) := by decide +kernel
theorem dX11_gale_96 : decode cX11_gale 96 = .ok (.lstore 5, 2) := by decide +kernel
theorem dX11_gale_98 : decode cX11_gale 98 = .ok (.iinc 7 1, 3) := by decide +kernel
theorem dX11_gale_101 : decode cX11_gale 101 = .ok (.goto (-67), 3) := by decide +kernel
theorem dX11_gale_104 : decode cX11_gale 104 = .ok (.aload_n 0, 1) := by decide +kernel
theorem dX11_gale_105 : decode cX11_gale 105 = .ok (.lload_n 3, 1) := by decide +kernel
theorem dX11_gale_106 : decode cX11_gale 106 = .ok (.bipush 16, 2) := by decide +kernel
theorem dX11_gale_108 : decode cX11_gale 108 = .ok (.iload_n 1, 1) := by decide +kernel
theorem dX11_gale_109 : decode cX11_gale 109 = .ok (.invokestatic 399, 3) := by decide +kernel
theorem dX11_gale_112 : decode cX11_gale 112 = .ok (.invokevirtual 403, 3) := by decide +kernel
theorem dX11_gale_115 : decode cX11_gale 115 = .ok (.aload_n 0, 1) := by decide +kernel
theorem dX11_gale_116 : decode cX11_gale 116 = .ok (.invokevirtual 126, 3) := by decide +kernel
theorem dX11_gale_119 : decode cX11_gale 119 = .ok (.ireturn, 1) := by decide +kernel
set_option maxRecDepth 100000 in
def f_X11_gale_20 (l0 : Nat) (μ : dtM) : Option (Int32 × dtM) :=
  (opRv 11 μ l0).bind fun _ => opCall (f_X11_refuse l0 (1 : Int32) μ) fun x4 μ2 => opRet x4 μ2
set_option maxRecDepth 100000 in
def f_X11_gale_82 (k34 : Nat → Int32 → Int32 → Int64 → Int64 → Int32 → dtM → Option (Int32 × dtM)) (l0 : Nat) (l1 : Int32) (l2 : Int32) (l3 : Int64) (l5 : Int64) (l7 : Int32) (μ : dtM) : Option (Int32 × dtM) :=
  (opDivJ (l5 * ((l1 - l7).toInt64)) ((l7 + (1 : Int32)).toInt64)).bind fun x1 => k34 l0 l1 l2 l3 x1 (l7 + 1) μ
set_option maxRecDepth 100000 in
def f_X11_gale_34 : Nat → Nat → Int32 → Int32 → Int64 → Int64 → Int32 → dtM → Option (Int32 × dtM)
  | 0, _, _, _, _, _, _, _ => none
  | n + 1, l0, l1, l2, l3, l5, l7, μ =>
    if l1 < l7 then (opCall (f_X11_power (16 : Int32) l1 μ) fun x6 μ4 => (opRv 11 μ4 l0).bind fun _ => (f_X11_tellFraction l0 l3 x6 μ4).bind fun μ8 => (opRv 11 μ8 l0).bind fun _ => opCall (f_X11_agree l0 μ8) fun x13 μ11 => opRet x13 μ11) else (if l7 < l2 then (f_X11_gale_82 (f_X11_gale_34 n) l0 l1 l2 l3 l5 l7 μ) else ((opGR 11 5 μ l0).bind fun x17 => (opGI 3 4 μ x17).bind fun x19 => opCall (f_X11_power x19 l7 μ) fun x23 μ21 => (opGR 11 5 μ21 l0).bind fun x24 => (opGI 3 4 μ21 x24).bind fun x26 => opCall (f_X11_power ((16 : Int32) - x26) (l1 - l7) μ21) fun x30 μ28 => (some (l3 + ((l5 * x23) * x30))).bind fun x31 => f_X11_gale_82 (f_X11_gale_34 n) l0 l1 l2 x31 l5 l7 μ28))
set_option maxRecDepth 100000 in
def f_X11_gale (p0 : Nat) (p1 : Int32) (p2 : Int32) (μ : dtM) : Option (Int32 × dtM) :=
  opCall (f_X11_within p1 (0 : Int32) (12 : Int32) μ) fun x3 μ1 => if x3 = 0 then (f_X11_gale_20 p0 μ1) else (opCall (f_X11_within p2 (0 : Int32) (12 : Int32) μ1) fun x9 μ7 => if x9 = 0 then (f_X11_gale_20 p0 μ7) else (f_X11_gale_34 dtFuel p0 p1 p2 (0 : Int64) (1 : Int64) (0 : Int32) μ7))
set_option maxRecDepth 100000 in
theorem c_X11_gale_20 {r : Int32} {F : dtM} (l0 : Nat) (μ : dtM) (h : f_X11_gale_20 l0 μ = some (r, F)) : dtW yX11_gale cX11_gale 8 (some .boolean) 3 (some (.int r)) F 20 [some (.ref l0)] [] μ := by
  rw [f_X11_gale_20] at h
  refine dr_aload_n l0 dX11_gale_20 rfl ?_
  refine dr_iconst (1 : Int32) dX11_gale_21 (by decide) ?_
  obtain ⟨_, hb1, h⟩ := dtBind h
  obtain ⟨x4, μ2, e3, h⟩ := dtCall h
  refine dr_callV_i (S0 := []) [.int (1 : Int32)] x4 μ2 dX11_gale_22 (c_X11_refuse l0 (1 : Int32) μ e3) mf_X11_refuse wt_482 ws_0 wt_480 rfl (dtRv hb1) (by decide) rfl (Nat.le_of_ble_eq_true rfl) (Nat.le_of_ble_eq_true rfl) rfl ?_
  obtain ⟨hz, rfl, rfl⟩ := dtRet h
  exact dr_ireturn dX11_gale_25 (dtNz hz)
set_option maxRecDepth 100000 in
theorem c_X11_gale_82 {r : Int32} {F : dtM} (k34 : Nat → Int32 → Int32 → Int64 → Int64 → Int32 → dtM → Option (Int32 × dtM)) (hk34 : ∀ (l0 : Nat) (l1 : Int32) (l2 : Int32) (l3 : Int64) (l5 : Int64) (l7 : Int32) (μ : dtM), k34 l0 l1 l2 l3 l5 l7 μ = some (r, F) → dtW yX11_gale cX11_gale 8 (some .boolean) 3 (some (.int r)) F 34 [some (.ref l0), some (.int l1), some (.int l2), some (.long l3), none, some (.long l5), none, some (.int l7)] [] μ) (l0 : Nat) (l1 : Int32) (l2 : Int32) (l3 : Int64) (l5 : Int64) (l7 : Int32) (μ : dtM) (h : f_X11_gale_82 k34 l0 l1 l2 l3 l5 l7 μ = some (r, F)) : dtW yX11_gale cX11_gale 8 (some .boolean) 3 (some (.int r)) F 82 [some (.ref l0), some (.int l1), some (.int l2), some (.long l3), none, some (.long l5), none, some (.int l7)] [] μ := by
  rw [f_X11_gale_82] at h
  refine dr_lload l5 dX11_gale_82 rfl ?_
  refine dr_iload_n l1 dX11_gale_84 rfl ?_
  refine dr_iload l7 dX11_gale_85 rfl ?_
  refine dr_isub dX11_gale_87 ?_
  refine dr_i2l dX11_gale_88 ?_
  refine dr_lmul dX11_gale_89 ?_
  refine dr_iload l7 dX11_gale_90 rfl ?_
  refine dr_iconst (1 : Int32) dX11_gale_92 (by decide) ?_
  refine dr_iadd dX11_gale_93 ?_
  refine dr_i2l dX11_gale_94 ?_
  obtain ⟨x1, e2, h⟩ := dtBind h
  refine dr_ldiv_n x1 dX11_gale_95 e2 ?_
  refine dr_lstore [some (.ref l0), some (.int l1), some (.int l2), some (.long l3), none, some (.long x1), none, some (.int l7)] dX11_gale_96 rfl rfl rfl ?_
  refine dr_iinc l7 (l7 + 1) [some (.ref l0), some (.int l1), some (.int l2), some (.long l3), none, some (.long x1), none, some (.int (l7 + 1))] dX11_gale_98 rfl rfl rfl rfl rfl ?_
  refine dr_goto 34 dX11_gale_101 (by decide) ?_
  exact hk34 l0 l1 l2 l3 x1 (l7 + 1) μ h
set_option maxRecDepth 100000 in
theorem c_X11_gale_34 {r : Int32} {F : dtM} : ∀ (n : Nat) (l0 : Nat) (l1 : Int32) (l2 : Int32) (l3 : Int64) (l5 : Int64) (l7 : Int32) (μ : dtM), f_X11_gale_34 n l0 l1 l2 l3 l5 l7 μ = some (r, F) → dtW yX11_gale cX11_gale 8 (some .boolean) 3 (some (.int r)) F 34 [some (.ref l0), some (.int l1), some (.int l2), some (.long l3), none, some (.long l5), none, some (.int l7)] [] μ := by
  intro n
  induction n with
  | zero => intro l0 l1 l2 l3 l5 l7 μ h; cases h
  | succ n ih =>
    intro l0 l1 l2 l3 l5 l7 μ h
    have h := (show f_X11_gale_34 (n + 1) l0 l1 l2 l3 l5 l7 μ = some _ from h)
    rw [f_X11_gale_34] at h
    refine dr_iload l7 dX11_gale_34 rfl ?_
    refine dr_iload_n l1 dX11_gale_36 rfl ?_
    obtain ⟨ht2, hf3⟩ := dtIte h
    refine dr_icmp_gt 104 dX11_gale_37 (by decide) (fun hc1 => ?_) (fun hc1 => ?_)
    · have h := ht2 hc1
      refine dr_aload_n l0 dX11_gale_104 rfl ?_
      refine dr_lload_n l3 dX11_gale_105 rfl ?_
      refine dr_bipush (16 : Int32) dX11_gale_106 (by decide) ?_
      refine dr_iload_n l1 dX11_gale_108 rfl ?_
      obtain ⟨x6, μ4, e5, h⟩ := dtCall h
      refine dr_callS_l (S0 := [.long l3, .ref l0]) [.int (16 : Int32), .int l1] x6 μ4 dX11_gale_109 (c_X11_power (16 : Int32) l1 μ e5) mf_X11_power wt_1246 wt_1245 rfl (Nat.le_of_ble_eq_true rfl) (Nat.le_of_ble_eq_true rfl) rfl ?_
      obtain ⟨_, hb7, h⟩ := dtBind h
      obtain ⟨μ8, e9, h⟩ := dtBind h
      refine dr_callV_v (S0 := []) [.long l3, .long x6] μ8 dX11_gale_112 (c_X11_tellFraction l0 l3 x6 μ4 e9) mf_X11_tellFraction wt_1250 ws_45 wt_1248 rfl (dtRv hb7) (by decide) rfl (Nat.le_of_ble_eq_true rfl) (Nat.le_of_ble_eq_true rfl) rfl ?_
      refine dr_aload_n l0 dX11_gale_115 rfl ?_
      obtain ⟨_, hb10, h⟩ := dtBind h
      obtain ⟨x13, μ11, e12, h⟩ := dtCall h
      refine dr_callV_i (S0 := []) [] x13 μ11 dX11_gale_116 (c_X11_agree l0 μ8 e12) mf_X11_agree wt_490 ws_1 wt_488 rfl (dtRv hb10) (by decide) rfl (Nat.le_of_ble_eq_true rfl) (Nat.le_of_ble_eq_true rfl) rfl ?_
      obtain ⟨hz, rfl, rfl⟩ := dtRet h
      exact dr_ireturn dX11_gale_119 (dtNz hz)
    · have h := hf3 hc1
      refine dr_iload l7 dX11_gale_40 rfl ?_
      refine dr_iload_n l2 dX11_gale_42 rfl ?_
      obtain ⟨ht15, hf16⟩ := dtIte h
      refine dr_icmp_lt 82 dX11_gale_43 (by decide) (fun hc14 => ?_) (fun hc14 => ?_)
      · have h := ht15 hc14
        exact c_X11_gale_82 (f_X11_gale_34 n) ih l0 l1 l2 l3 l5 l7 μ h
      · have h := hf16 hc14
        refine dr_lload_n l3 dX11_gale_46 rfl ?_
        refine dr_lload l5 dX11_gale_47 rfl ?_
        refine dr_aload_n l0 dX11_gale_49 rfl ?_
        obtain ⟨x17, e18, h⟩ := dtBind h
        refine dr_getR x17 dX11_gale_50 fl_RX11_37 e18 ?_
        obtain ⟨x19, e20, h⟩ := dtBind h
        refine dr_getI x19 dX11_gale_53 fl_RX11_217 e20 ?_
        refine dr_iload l7 dX11_gale_56 rfl ?_
        obtain ⟨x23, μ21, e22, h⟩ := dtCall h
        refine dr_callS_l (S0 := [.long l5, .long l3]) [.int x19, .int l7] x23 μ21 dX11_gale_58 (c_X11_power x19 l7 μ e22) mf_X11_power wt_1246 wt_1245 rfl (Nat.le_of_ble_eq_true rfl) (Nat.le_of_ble_eq_true rfl) rfl ?_
        refine dr_lmul dX11_gale_61 ?_
        refine dr_bipush (16 : Int32) dX11_gale_62 (by decide) ?_
        refine dr_aload_n l0 dX11_gale_64 rfl ?_
        obtain ⟨x24, e25, h⟩ := dtBind h
        refine dr_getR x24 dX11_gale_65 fl_RX11_37 e25 ?_
        obtain ⟨x26, e27, h⟩ := dtBind h
        refine dr_getI x26 dX11_gale_68 fl_RX11_217 e27 ?_
        refine dr_isub dX11_gale_71 ?_
        refine dr_iload_n l1 dX11_gale_72 rfl ?_
        refine dr_iload l7 dX11_gale_73 rfl ?_
        refine dr_isub dX11_gale_75 ?_
        obtain ⟨x30, μ28, e29, h⟩ := dtCall h
        refine dr_callS_l (S0 := [.long (l5 * x23), .long l3]) [.int ((16 : Int32) - x26), .int (l1 - l7)] x30 μ28 dX11_gale_76 (c_X11_power ((16 : Int32) - x26) (l1 - l7) μ21 e29) mf_X11_power wt_1246 wt_1245 rfl (Nat.le_of_ble_eq_true rfl) (Nat.le_of_ble_eq_true rfl) rfl ?_
        refine dr_lmul dX11_gale_79 ?_
        refine dr_ladd dX11_gale_80 ?_
        obtain ⟨x31, e32, h⟩ := dtBind h
        refine dr_nmj e32 ?_
        refine dr_lstore_n 3 [some (.ref l0), some (.int l1), some (.int l2), some (.long x31), none, some (.long l5), none, some (.int l7)] dX11_gale_81 rfl rfl rfl rfl ?_
        exact c_X11_gale_82 (f_X11_gale_34 n) ih l0 l1 l2 x31 l5 l7 μ28 h
set_option maxRecDepth 100000 in
theorem c_X11_gale {r : Int32} {F : dtM} (p0 : Nat) (p1 : Int32) (p2 : Int32) (μ : dtM) (h : f_X11_gale p0 p1 p2 μ = some (r, F)) : dtMet yX11_gale cX11_gale 8 (some .boolean) 3 [.ref p0, .int p1, .int p2] μ (some (.int r)) F := by
  refine dtMet.of (by decide +kernel) (Nat.le_of_ble_eq_true rfl) (show dtW yX11_gale cX11_gale 8 (some .boolean) 3 (some (.int r)) F 0 [some (.ref p0), some (.int p1), some (.int p2)] [] μ from ?_)
  rw [f_X11_gale] at h
  refine dr_iload_n p1 dX11_gale_0 rfl ?_
  refine dr_iconst (0 : Int32) dX11_gale_1 (by decide) ?_
  refine dr_bipush (12 : Int32) dX11_gale_2 (by decide) ?_
  obtain ⟨x3, μ1, e2, h⟩ := dtCall h
  refine dr_callS_i (S0 := []) [.int p1, .int (0 : Int32), .int (12 : Int32)] x3 μ1 dX11_gale_4 (c_X11_within p1 (0 : Int32) (12 : Int32) μ e2) mf_X11_within wt_478 wt_477 rfl (Nat.le_of_ble_eq_true rfl) (Nat.le_of_ble_eq_true rfl) rfl ?_
  obtain ⟨ht5, hf6⟩ := dtIte h
  refine dr_if_eq 20 dX11_gale_7 (by decide) (fun hc4 => ?_) (fun hc4 => ?_)
  · have h := ht5 hc4
    refine dr_mask [true] [some (.ref p0)] rfl ?_
    exact c_X11_gale_20 p0 μ1 h
  · have h := hf6 hc4
    refine dr_iload_n p2 dX11_gale_10 rfl ?_
    refine dr_iconst (0 : Int32) dX11_gale_11 (by decide) ?_
    refine dr_bipush (12 : Int32) dX11_gale_12 (by decide) ?_
    obtain ⟨x9, μ7, e8, h⟩ := dtCall h
    refine dr_callS_i (S0 := []) [.int p2, .int (0 : Int32), .int (12 : Int32)] x9 μ7 dX11_gale_14 (c_X11_within p2 (0 : Int32) (12 : Int32) μ1 e8) mf_X11_within wt_478 wt_477 rfl (Nat.le_of_ble_eq_true rfl) (Nat.le_of_ble_eq_true rfl) rfl ?_
    obtain ⟨ht11, hf12⟩ := dtIte h
    refine dr_if_ne 26 dX11_gale_17 (by decide) (fun hc10 => ?_) (fun hc10 => ?_)
    · have h := hf12 hc10
      refine dr_lconst (0 : Int64) dX11_gale_26 (by decide) ?_
      refine dr_lstore_n 3 [some (.ref p0), some (.int p1), some (.int p2), some (.long (0 : Int64)), none] dX11_gale_27 rfl rfl rfl rfl ?_
      refine dr_lconst (1 : Int64) dX11_gale_28 (by decide) ?_
      refine dr_lstore [some (.ref p0), some (.int p1), some (.int p2), some (.long (0 : Int64)), none, some (.long (1 : Int64)), none] dX11_gale_29 rfl rfl rfl ?_
      refine dr_iconst (0 : Int32) dX11_gale_31 (by decide) ?_
      refine dr_istore [some (.ref p0), some (.int p1), some (.int p2), some (.long (0 : Int64)), none, some (.long (1 : Int64)), none, some (.int (0 : Int32))] dX11_gale_32 rfl rfl rfl ?_
      exact c_X11_gale_34 dtFuel p0 p1 p2 (0 : Int64) (1 : Int64) (0 : Int32) μ7 h
    · have h := ht11 hc10
      refine dr_mask [true] [some (.ref p0)] rfl ?_
      exact c_X11_gale_20 p0 μ7 h
/-! X11_copyRooms -/
theorem dX11_copyRooms_0 : decode cX11_copyRooms 0 = .ok (.aload_n 0, 1) := by decide +kernel
theorem dX11_copyRooms_1 : decode cX11_copyRooms 1 = .ok (.iload_n 1, 1) := by decide +kernel
theorem dX11_copyRooms_2 : decode cX11_copyRooms 2 = .ok (.aload_n 0, 1) := by decide +kernel
theorem dX11_copyRooms_3 : decode cX11_copyRooms 3 = .ok (.getfield 37, 3) := by decide +kernel
theorem dX11_copyRooms_6 : decode cX11_copyRooms 6 = .ok (.getfield 189, 3) := by decide +kernel
theorem dX11_copyRooms_9 : decode cX11_copyRooms 9 = .ok (.invokevirtual 292, 3) := by decide +kernel
theorem dX11_copyRooms_12 : decode cX11_copyRooms 12 = .ok (.istore_n 2, 1) := by decide +kernel
theorem dX11_copyRooms_13 : decode cX11_copyRooms 13 = .ok (.iload_n 2, 1) := by decide +kernel
theorem dX11_copyRooms_14 : decode cX11_copyRooms 14 = .ok (.ifCond .eq 9, 3) := by decide +kernel
theorem dX11_copyRooms_17 : decode cX11_copyRooms 17 = .ok (.aload_n 0, 1) := by decide +kernel
theorem dX11_copyRooms_18 : decode cX11_copyRooms 18 = .ok (.iload_n 2, 1) := by decide +kernel
theorem dX11_copyRooms_19 : decode cX11_copyRooms 19 = .ok (.invokevirtual 138, 3) := by decide +kernel
theorem dX11_copyRooms_22 : decode cX11_copyRooms 22 = .ok (.ireturn, 1) := by decide +kernel
theorem dX11_copyRooms_23 : decode cX11_copyRooms 23 = .ok (.iconst 0, 1) := by decide +kernel
theorem dX11_copyRooms_24 : decode cX11_copyRooms 24 = .ok (.istore_n 3, 1) := by decide +kernel
theorem dX11_copyRooms_25 : decode cX11_copyRooms 25 = .ok (.iload_n 3, 1) := by decide +kernel
theorem dX11_copyRooms_26 : decode cX11_copyRooms 26 = .ok (.aload_n 0, 1) := by decide +kernel
theorem dX11_copyRooms_27 : decode cX11_copyRooms 27 = .ok (.getfield 37, 3) := by decide +kernel
theorem dX11_copyRooms_30 : decode cX11_copyRooms 30 = .ok (.getfield 189, 3) := by decide +kernel
theorem dX11_copyRooms_33 : decode cX11_copyRooms 33 = .ok (.if_icmp .ge 29, 3) := by decide +kernel
theorem dX11_copyRooms_36 : decode cX11_copyRooms 36 = .ok (.aload_n 0, 1) := by decide +kernel
theorem dX11_copyRooms_37 : decode cX11_copyRooms 37 = .ok (.getfield 22, 3) := by decide +kernel
theorem dX11_copyRooms_40 : decode cX11_copyRooms 40 = .ok (.iload_n 1, 1) := by decide +kernel
theorem dX11_copyRooms_41 : decode cX11_copyRooms 41 = .ok (.aaload, 1) := by decide +kernel
theorem dX11_copyRooms_42 : decode cX11_copyRooms 42 = .ok (.iload_n 3, 1) := by decide +kernel
theorem dX11_copyRooms_43 : decode cX11_copyRooms 43 = .ok (.aload_n 0, 1) := by decide +kernel
theorem dX11_copyRooms_44 : decode cX11_copyRooms 44 = .ok (.getfield 37, 3) := by decide +kernel
theorem dX11_copyRooms_47 : decode cX11_copyRooms 47 = .ok (.getfield 253, 3) := by decide +kernel
theorem dX11_copyRooms_50 : decode cX11_copyRooms 50 = .ok (.iload_n 3, 1) := by decide +kernel
theorem dX11_copyRooms_51 : decode cX11_copyRooms 51 = .ok (.iaload, 1) := by decide +kernel
theorem dX11_copyRooms_52 : decode cX11_copyRooms 52 = .ok (.i2l, 1) := by decide +kernel
theorem dX11_copyRooms_53 : decode cX11_copyRooms 53 = .ok (.invokevirtual 134, 3) := by decide +kernel
theorem dX11_copyRooms_56 : decode cX11_copyRooms 56 = .ok (.iinc 3 1, 3) := by decide +kernel
theorem dX11_copyRooms_59 : decode cX11_copyRooms 59 = .ok (.goto (-34), 3) := by decide +kernel
theorem dX11_copyRooms_62 : decode cX11_copyRooms 62 = .ok (.aload_n 0, 1) := by decide +kernel
theorem dX11_copyRooms_63 : decode cX11_copyRooms 63 = .ok (.aload_n 0, 1) := by decide +kernel
theorem dX11_copyRooms_64 : decode cX11_copyRooms 64 = .ok (.getfield 37, 3) := by decide +kernel
theorem dX11_copyRooms_67 : decode cX11_copyRooms 67 = .ok (.getfield 189, 3) := by decide +kernel
theorem dX11_copyRooms_70 : decode cX11_copyRooms 70 = .ok (.invokevirtual 192, 3) := by decide +kernel
theorem dX11_copyRooms_73 : decode cX11_copyRooms 73 = .ok (.ireturn, 1) := by decide +kernel
set_option maxRecDepth 100000 in
def f_X11_copyRooms_25 : Nat → Nat → Int32 → Int32 → dtM → Option (Int32 × dtM)
  | 0, _, _, _, _ => none
  | n + 1, l0, l1, l3, μ =>
    (opGR 11 5 μ l0).bind fun x1 => (opGI 3 3 μ x1).bind fun x3 => if x3 ≤ l3 then ((opGR 11 5 μ l0).bind fun x8 => (opGI 3 3 μ x8).bind fun x10 => (opRv 11 μ l0).bind fun _ => opCall (f_X11_answer l0 x10 μ) fun x15 μ13 => some (x15, μ13)) else ((opGR 11 3 μ l0).bind fun x16 => (opLR 4 μ x16 l1).bind fun x18 => (opGR 11 5 μ l0).bind fun x20 => (opGR 3 14 μ x20).bind fun x22 => (opLI 1 μ x22 l3).bind fun x24 => (opRv 9 μ x18).bind fun _ => (f_X9_put x18 l3 (x24.toInt64) μ).bind fun μ27 => f_X11_copyRooms_25 n l0 l1 (l3 + 1) μ27)
set_option maxRecDepth 100000 in
def f_X11_copyRooms (p0 : Nat) (p1 : Int32) (μ : dtM) : Option (Int32 × dtM) :=
  (opGR 11 5 μ p0).bind fun x1 => (opGI 3 3 μ x1).bind fun x3 => (opRv 11 μ p0).bind fun _ => opCall (f_X11_runStatus p0 p1 x3 μ) fun x8 μ6 => if x8 = 0 then (f_X11_copyRooms_25 dtFuel p0 p1 (0 : Int32) μ6) else ((opRv 11 μ6 p0).bind fun _ => opCall (f_X11_fail p0 x8 μ6) fun x15 μ13 => some (x15, μ13))
set_option maxRecDepth 100000 in
theorem c_X11_copyRooms_25 {r : Int32} {F : dtM} : ∀ (n : Nat) (l0 : Nat) (l1 : Int32) (l3 : Int32) (μ : dtM), f_X11_copyRooms_25 n l0 l1 l3 μ = some (r, F) → dtW yX11_copyRooms cX11_copyRooms 4 (some .int) 4 (some (.int r)) F 25 [some (.ref l0), some (.int l1), none, some (.int l3)] [] μ := by
  intro n
  induction n with
  | zero => intro l0 l1 l3 μ h; cases h
  | succ n ih =>
    intro l0 l1 l3 μ h
    have h := (show f_X11_copyRooms_25 (n + 1) l0 l1 l3 μ = some _ from h)
    rw [f_X11_copyRooms_25] at h
    refine dr_iload_n l3 dX11_copyRooms_25 rfl ?_
    refine dr_aload_n l0 dX11_copyRooms_26 rfl ?_
    obtain ⟨x1, e2, h⟩ := dtBind h
    refine dr_getR x1 dX11_copyRooms_27 fl_RX11_37 e2 ?_
    obtain ⟨x3, e4, h⟩ := dtBind h
    refine dr_getI x3 dX11_copyRooms_30 fl_RX11_189 e4 ?_
    obtain ⟨ht6, hf7⟩ := dtIte h
    refine dr_icmp_ge 62 dX11_copyRooms_33 (by decide) (fun hc5 => ?_) (fun hc5 => ?_)
    · have h := ht6 hc5
      refine dr_aload_n l0 dX11_copyRooms_62 rfl ?_
      refine dr_aload_n l0 dX11_copyRooms_63 rfl ?_
      obtain ⟨x8, e9, h⟩ := dtBind h
      refine dr_getR x8 dX11_copyRooms_64 fl_RX11_37 e9 ?_
      obtain ⟨x10, e11, h⟩ := dtBind h
      refine dr_getI x10 dX11_copyRooms_67 fl_RX11_189 e11 ?_
      obtain ⟨_, hb12, h⟩ := dtBind h
      obtain ⟨x15, μ13, e14, h⟩ := dtCall h
      refine dr_callV_i (S0 := []) [.int x10] x15 μ13 dX11_copyRooms_70 (c_X11_answer l0 x10 μ e14) mf_X11_answer wt_764 ws_19 wt_762 rfl (dtRv hb12) (by decide) rfl (Nat.le_of_ble_eq_true rfl) (Nat.le_of_ble_eq_true rfl) rfl ?_
      cases h
      exact dr_ireturn dX11_copyRooms_73 rfl
    · have h := hf7 hc5
      refine dr_aload_n l0 dX11_copyRooms_36 rfl ?_
      obtain ⟨x16, e17, h⟩ := dtBind h
      refine dr_getR x16 dX11_copyRooms_37 fl_RX11_22 e17 ?_
      refine dr_iload_n l1 dX11_copyRooms_40 rfl ?_
      obtain ⟨x18, e19, h⟩ := dtBind h
      refine dr_aaload4 x18 dX11_copyRooms_41 e19 ?_
      refine dr_iload_n l3 dX11_copyRooms_42 rfl ?_
      refine dr_aload_n l0 dX11_copyRooms_43 rfl ?_
      obtain ⟨x20, e21, h⟩ := dtBind h
      refine dr_getR x20 dX11_copyRooms_44 fl_RX11_37 e21 ?_
      obtain ⟨x22, e23, h⟩ := dtBind h
      refine dr_getR x22 dX11_copyRooms_47 fl_RX11_253 e23 ?_
      refine dr_iload_n l3 dX11_copyRooms_50 rfl ?_
      obtain ⟨x24, e25, h⟩ := dtBind h
      refine dr_iaload x24 dX11_copyRooms_51 e25 ?_
      refine dr_i2l dX11_copyRooms_52 ?_
      obtain ⟨_, hb26, h⟩ := dtBind h
      obtain ⟨μ27, e28, h⟩ := dtBind h
      refine dr_callV_v (S0 := []) [.int l3, .long (x24.toInt64)] μ27 dX11_copyRooms_53 (c_X9_put x18 l3 (x24.toInt64) μ e28) mf_X9_put wt_501 wt_502 wt_500 rfl (dtRv hb26) (by decide) rfl (Nat.le_of_ble_eq_true rfl) (Nat.le_of_ble_eq_true rfl) rfl ?_
      refine dr_iinc l3 (l3 + 1) [some (.ref l0), some (.int l1), none, some (.int (l3 + 1))] dX11_copyRooms_56 rfl rfl rfl rfl rfl ?_
      refine dr_goto 25 dX11_copyRooms_59 (by decide) ?_
      exact ih l0 l1 (l3 + 1) μ27 h
set_option maxRecDepth 100000 in
theorem c_X11_copyRooms {r : Int32} {F : dtM} (p0 : Nat) (p1 : Int32) (μ : dtM) (h : f_X11_copyRooms p0 p1 μ = some (r, F)) : dtMet yX11_copyRooms cX11_copyRooms 4 (some .int) 4 [.ref p0, .int p1] μ (some (.int r)) F := by
  refine dtMet.of (by decide +kernel) (Nat.le_of_ble_eq_true rfl) (show dtW yX11_copyRooms cX11_copyRooms 4 (some .int) 4 (some (.int r)) F 0 [some (.ref p0), some (.int p1)] [] μ from ?_)
  rw [f_X11_copyRooms] at h
  refine dr_aload_n p0 dX11_copyRooms_0 rfl ?_
  refine dr_iload_n p1 dX11_copyRooms_1 rfl ?_
  refine dr_aload_n p0 dX11_copyRooms_2 rfl ?_
  obtain ⟨x1, e2, h⟩ := dtBind h
  refine dr_getR x1 dX11_copyRooms_3 fl_RX11_37 e2 ?_
  obtain ⟨x3, e4, h⟩ := dtBind h
  refine dr_getI x3 dX11_copyRooms_6 fl_RX11_189 e4 ?_
  obtain ⟨_, hb5, h⟩ := dtBind h
  obtain ⟨x8, μ6, e7, h⟩ := dtCall h
  refine dr_callV_i (S0 := []) [.int p1, .int x3] x8 μ6 dX11_copyRooms_9 (c_X11_runStatus p0 p1 x3 μ e7) mf_X11_runStatus wt_957 ws_31 wt_955 rfl (dtRv hb5) (by decide) rfl (Nat.le_of_ble_eq_true rfl) (Nat.le_of_ble_eq_true rfl) rfl ?_
  refine dr_istore_n 2 [some (.ref p0), some (.int p1), some (.int x8)] dX11_copyRooms_12 rfl rfl rfl rfl ?_
  refine dr_iload_n x8 dX11_copyRooms_13 rfl ?_
  obtain ⟨ht10, hf11⟩ := dtIte h
  refine dr_if_eq 23 dX11_copyRooms_14 (by decide) (fun hc9 => ?_) (fun hc9 => ?_)
  · have h := ht10 hc9
    refine dr_iconst (0 : Int32) dX11_copyRooms_23 (by decide) ?_
    refine dr_istore_n 3 [some (.ref p0), some (.int p1), some (.int x8), some (.int (0 : Int32))] dX11_copyRooms_24 rfl rfl rfl rfl ?_
    refine dr_mask [true, true, false, true] [some (.ref p0), some (.int p1), none, some (.int (0 : Int32))] rfl ?_
    exact c_X11_copyRooms_25 dtFuel p0 p1 (0 : Int32) μ6 h
  · have h := hf11 hc9
    refine dr_aload_n p0 dX11_copyRooms_17 rfl ?_
    refine dr_iload_n x8 dX11_copyRooms_18 rfl ?_
    obtain ⟨_, hb12, h⟩ := dtBind h
    obtain ⟨x15, μ13, e14, h⟩ := dtCall h
    refine dr_callV_i (S0 := []) [.int x8] x15 μ13 dX11_copyRooms_19 (c_X11_fail p0 x8 μ6 e14) mf_X11_fail wt_510 ws_3 wt_508 rfl (dtRv hb12) (by decide) rfl (Nat.le_of_ble_eq_true rfl) (Nat.le_of_ble_eq_true rfl) rfl ?_
    cases h
    exact dr_ireturn dX11_copyRooms_22 rfl
/-! X11_live -/
theorem dX11_live_0 : decode cX11_live 0 = .ok (.iload_n 1, 1) := by decide +kernel
theorem dX11_live_1 : decode cX11_live 1 = .ok (.iconst 0, 1) := by decide +kernel
theorem dX11_live_2 : decode cX11_live 2 = .ok (.sipush 9999, 3) := by decide +kernel
theorem dX11_live_5 : decode cX11_live 5 = .ok (.invokestatic 115, 3) := by decide +kernel
theorem dX11_live_8 : decode cX11_live 8 = .ok (.ifCond .ne 9, 3) := by decide +kernel
theorem dX11_live_11 : decode cX11_live 11 = .ok (.aload_n 0, 1) := by decide +kernel
theorem dX11_live_12 : decode cX11_live 12 = .ok (.iconst 1, 1) := by decide +kernel
theorem dX11_live_13 : decode cX11_live 13 = .ok (.invokevirtual 138, 3) := by decide +kernel
theorem dX11_live_16 : decode cX11_live 16 = .ok (.ireturn, 1) := by decide +kernel
theorem dX11_live_17 : decode cX11_live 17 = .ok (.aload_n 0, 1) := by decide +kernel
theorem dX11_live_18 : decode cX11_live 18 = .ok (.getfield 47, 3) := by decide +kernel
theorem dX11_live_21 : decode cX11_live 21 = .ok (.getfield 407, 3) := by decide +kernel
theorem dX11_live_24 : decode cX11_live 24 = .ok (.ifCond .ne 10, 3) := by decide +kernel
theorem dX11_live_27 : decode cX11_live 27 = .ok (.aload_n 0, 1) := by decide +kernel
theorem dX11_live_28 : decode cX11_live 28 = .ok (.bipush 6, 2) := by decide +kernel
theorem dX11_live_30 : decode cX11_live 30 = .ok (.invokevirtual 138, 3) := by decide +kernel
theorem dX11_live_33 : decode cX11_live 33 = .ok (.ireturn, 1) := by decide +kernel
theorem dX11_live_34 : decode cX11_live 34 = .ok (.aload_n 0, 1) := by decide +kernel
theorem dX11_live_35 : decode cX11_live 35 = .ok (.getfield 103, 3) := by decide +kernel
theorem dX11_live_38 : decode cX11_live 38 = .ok (.aload_n 0, 1) := by decide +kernel
theorem dX11_live_39 : decode cX11_live 39 = .ok (.getfield 37, 3) := by decide +kernel
theorem dX11_live_42 : decode cX11_live 42 = .ok (.aload_n 0, 1) := by decide +kernel
theorem dX11_live_43 : decode cX11_live 43 = .ok (.getfield 47, 3) := by decide +kernel
theorem dX11_live_46 : decode cX11_live 46 = .ok (.aload_n 0, 1) := by decide +kernel
theorem dX11_live_47 : decode cX11_live 47 = .ok (.getfield 82, 3) := by decide +kernel
theorem dX11_live_50 : decode cX11_live 50 = .ok (.iload_n 1, 1) := by decide +kernel
theorem dX11_live_51 : decode cX11_live 51 = .ok (.invokevirtual 408, 3) := by decide +kernel
theorem dX11_live_54 : decode cX11_live 54 = .ok (.aload_n 0, 1) := by decide +kernel
theorem dX11_live_55 : decode cX11_live 55 = .ok (.getfield 107, 3) := by decide +kernel
theorem dX11_live_58 : decode cX11_live 58 = .ok (.iconst 0, 1) := by decide +kernel
theorem dX11_live_59 : decode cX11_live 59 = .ok (.aload_n 0, 1) := by decide +kernel
theorem dX11_live_60 : decode cX11_live 60 = .ok (.getfield 103, 3) := by decide +kernel
theorem dX11_live_63 : decode cX11_live 63 = .ok (.getfield 412, 3) := by decide +kernel
theorem dX11_live_66 : decode cX11_live 66 = .ok (.iastore, 1) := by decide +kernel
theorem dX11_live_67 : decode cX11_live 67 = .ok (.aload_n 0, 1) := by decide +kernel
theorem dX11_live_68 : decode cX11_live 68 = .ok (.getfield 107, 3) := by decide +kernel
theorem dX11_live_71 : decode cX11_live 71 = .ok (.iconst 1, 1) := by decide +kernel
theorem dX11_live_72 : decode cX11_live 72 = .ok (.aload_n 0, 1) := by decide +kernel
theorem dX11_live_73 : decode cX11_live 73 = .ok (.getfield 103, 3) := by decide +kernel
theorem dX11_live_76 : decode cX11_live 76 = .ok (.getfield 415, 3) := by decide +kernel
theorem dX11_live_79 : decode cX11_live 79 = .ok (.iastore, 1) := by decide +kernel
theorem dX11_live_80 : decode cX11_live 80 = .ok (.aload_n 0, 1) := by decide +kernel
theorem dX11_live_81 : decode cX11_live 81 = .ok (.getfield 107, 3) := by decide +kernel
theorem dX11_live_84 : decode cX11_live 84 = .ok (.iconst 2, 1) := by decide +kernel
theorem dX11_live_85 : decode cX11_live 85 = .ok (.aload_n 0, 1) := by decide +kernel
theorem dX11_live_86 : decode cX11_live 86 = .ok (.getfield 103, 3) := by decide +kernel
theorem dX11_live_89 : decode cX11_live 89 = .ok (.getfield 416, 3) := by decide +kernel
theorem dX11_live_92 : decode cX11_live 92 = .ok (.iastore, 1) := by decide +kernel
theorem dX11_live_93 : decode cX11_live 93 = .ok (.aload_n 0, 1) := by decide +kernel
theorem dX11_live_94 : decode cX11_live 94 = .ok (.getfield 107, 3) := by decide +kernel
theorem dX11_live_97 : decode cX11_live 97 = .ok (.iconst 3, 1) := by decide +kernel
theorem dX11_live_98 : decode cX11_live 98 = .ok (.aload_n 0, 1) := by decide +kernel
theorem dX11_live_99 : decode cX11_live 99 = .ok (.getfield 103, 3) := by decide +kernel
theorem dX11_live_102 : decode cX11_live 102 = .ok (.getfield 419, 3) := by decide +kernel
theorem dX11_live_105 : decode cX11_live 105 = .ok (.iastore, 1) := by decide +kernel
theorem dX11_live_106 : decode cX11_live 106 = .ok (.aload_n 0, 1) := by decide +kernel
theorem dX11_live_107 : decode cX11_live 107 = .ok (.getfield 107, 3) := by decide +kernel
theorem dX11_live_110 : decode cX11_live 110 = .ok (.iconst 4, 1) := by decide +kernel
theorem dX11_live_111 : decode cX11_live 111 = .ok (.aload_n 0, 1) := by decide +kernel
theorem dX11_live_112 : decode cX11_live 112 = .ok (.getfield 103, 3) := by decide +kernel
theorem dX11_live_115 : decode cX11_live 115 = .ok (.getfield 422, 3) := by decide +kernel
theorem dX11_live_118 : decode cX11_live 118 = .ok (.ifCond .eq 7, 3) := by decide +kernel
theorem dX11_live_121 : decode cX11_live 121 = .ok (.iconst 1, 1) := by decide +kernel
theorem dX11_live_122 : decode cX11_live 122 = .ok (.goto 4, 3) := by decide +kernel
theorem dX11_live_125 : decode cX11_live 125 = .ok (.iconst 0, 1) := by decide +kernel
theorem dX11_live_126 : decode cX11_live 126 = .ok (.iastore, 1) := by decide +kernel
theorem dX11_live_127 : decode cX11_live 127 = .ok (.aload_n 0, 1) := by decide +kernel
theorem dX11_live_128 : decode cX11_live 128 = .ok (.aload_n 0, 1) := by decide +kernel
theorem dX11_live_129 : decode cX11_live 129 = .ok (.getfield 103, 3) := by decide +kernel
theorem dX11_live_132 : decode cX11_live 132 = .ok (.getfield 425, 3) := by decide +kernel
theorem dX11_live_135 : decode cX11_live 135 = .ok (.invokevirtual 192, 3) := by decide +kernel
theorem dX11_live_138 : decode cX11_live 138 = .ok (.ireturn, 1) := by decide +kernel
set_option maxRecDepth 100000 in
def f_X11_live_126 (l0 : Nat) (s0 : Nat) (s1 : Int32) (s2 : Int32) (μ : dtM) : Option (Int32 × dtM) :=
  (opSI μ s0 s1 s2).bind fun μ1 => (opGR 11 17 μ1 l0).bind fun x3 => (opGI 6 2 μ1 x3).bind fun x5 => (opRv 11 μ1 l0).bind fun _ => opCall (f_X11_answer l0 x5 μ1) fun x10 μ8 => some (x10, μ8)
set_option maxRecDepth 100000 in
def f_X11_live (p0 : Nat) (p1 : Int32) (μ : dtM) : Option (Int32 × dtM) :=
  opCall (f_X11_within p1 (0 : Int32) (9999 : Int32) μ) fun x3 μ1 => if x3 = 0 then ((opRv 11 μ1 p0).bind fun _ => opCall (f_X11_fail p0 (1 : Int32) μ1) fun x73 μ71 => some (x73, μ71)) else ((opGR 11 7 μ1 p0).bind fun x7 => (opGI 0 0 μ1 x7).bind fun x9 => if x9 = 0 then ((opRv 11 μ1 p0).bind fun _ => opCall (f_X11_fail p0 (6 : Int32) μ1) fun x69 μ67 => some (x69, μ67)) else ((opGR 11 17 μ1 p0).bind fun x14 => (opGR 11 5 μ1 p0).bind fun x16 => (opGR 11 7 μ1 p0).bind fun x18 => (opGR 11 14 μ1 p0).bind fun x20 => (opRv 6 μ1 x14).bind fun _ => (f_X6_run x14 x16 x18 x20 p1 μ1).bind fun μ23 => (opGR 11 18 μ23 p0).bind fun x25 => (opGR 11 17 μ23 p0).bind fun x27 => (opGI 6 3 μ23 x27).bind fun x29 => (opSI μ23 x25 (0 : Int32) x29).bind fun μ31 => (opGR 11 18 μ31 p0).bind fun x33 => (opGR 11 17 μ31 p0).bind fun x35 => (opGI 6 4 μ31 x35).bind fun x37 => (opSI μ31 x33 (1 : Int32) x37).bind fun μ39 => (opGR 11 18 μ39 p0).bind fun x41 => (opGR 11 17 μ39 p0).bind fun x43 => (opGI 6 5 μ39 x43).bind fun x45 => (opSI μ39 x41 (2 : Int32) x45).bind fun μ47 => (opGR 11 18 μ47 p0).bind fun x49 => (opGR 11 17 μ47 p0).bind fun x51 => (opGI 6 6 μ47 x51).bind fun x53 => (opSI μ47 x49 (3 : Int32) x53).bind fun μ55 => (opGR 11 18 μ55 p0).bind fun x57 => (opGR 11 17 μ55 p0).bind fun x59 => (opGI 6 7 μ55 x59).bind fun x61 => if x61 = 0 then (f_X11_live_126 p0 x57 (4 : Int32) (0 : Int32) μ55) else (f_X11_live_126 p0 x57 (4 : Int32) (1 : Int32) μ55)))
set_option maxRecDepth 100000 in
theorem c_X11_live_126 {r : Int32} {F : dtM} (l0 : Nat) (s0 : Nat) (s1 : Int32) (s2 : Int32) (μ : dtM) (h : f_X11_live_126 l0 s0 s1 s2 μ = some (r, F)) : dtW yX11_live cX11_live 2 (some .int) 7 (some (.int r)) F 126 [some (.ref l0)] [.int s2, .int s1, .ref s0] μ := by
  rw [f_X11_live_126] at h
  obtain ⟨μ1, e2, h⟩ := dtBind h
  refine dr_iastore μ1 dX11_live_126 e2 ?_
  refine dr_aload_n l0 dX11_live_127 rfl ?_
  refine dr_aload_n l0 dX11_live_128 rfl ?_
  obtain ⟨x3, e4, h⟩ := dtBind h
  refine dr_getR x3 dX11_live_129 fl_RX11_103 e4 ?_
  obtain ⟨x5, e6, h⟩ := dtBind h
  refine dr_getI x5 dX11_live_132 fl_RX11_425 e6 ?_
  obtain ⟨_, hb7, h⟩ := dtBind h
  obtain ⟨x10, μ8, e9, h⟩ := dtCall h
  refine dr_callV_i (S0 := []) [.int x5] x10 μ8 dX11_live_135 (c_X11_answer l0 x5 μ1 e9) mf_X11_answer wt_764 ws_19 wt_762 rfl (dtRv hb7) (by decide) rfl (Nat.le_of_ble_eq_true rfl) (Nat.le_of_ble_eq_true rfl) rfl ?_
  cases h
  exact dr_ireturn dX11_live_138 rfl
set_option maxRecDepth 100000 in
theorem c_X11_live {r : Int32} {F : dtM} (p0 : Nat) (p1 : Int32) (μ : dtM) (h : f_X11_live p0 p1 μ = some (r, F)) : dtMet yX11_live cX11_live 2 (some .int) 7 [.ref p0, .int p1] μ (some (.int r)) F := by
  refine dtMet.of (by decide +kernel) (Nat.le_of_ble_eq_true rfl) (show dtW yX11_live cX11_live 2 (some .int) 7 (some (.int r)) F 0 [some (.ref p0), some (.int p1)] [] μ from ?_)
  rw [f_X11_live] at h
  refine dr_iload_n p1 dX11_live_0 rfl ?_
  refine dr_iconst (0 : Int32) dX11_live_1 (by decide) ?_
  refine dr_sipush (9999 : Int32) dX11_live_2 (by decide) ?_
  obtain ⟨x3, μ1, e2, h⟩ := dtCall h
  refine dr_callS_i (S0 := []) [.int p1, .int (0 : Int32), .int (9999 : Int32)] x3 μ1 dX11_live_5 (c_X11_within p1 (0 : Int32) (9999 : Int32) μ e2) mf_X11_within wt_478 wt_477 rfl (Nat.le_of_ble_eq_true rfl) (Nat.le_of_ble_eq_true rfl) rfl ?_
  obtain ⟨ht5, hf6⟩ := dtIte h
  refine dr_if_ne 17 dX11_live_8 (by decide) (fun hc4 => ?_) (fun hc4 => ?_)
  · have h := hf6 hc4
    refine dr_aload_n p0 dX11_live_17 rfl ?_
    obtain ⟨x7, e8, h⟩ := dtBind h
    refine dr_getR x7 dX11_live_18 fl_RX11_47 e8 ?_
    obtain ⟨x9, e10, h⟩ := dtBind h
    refine dr_getZ x9 dX11_live_21 fl_RX11_407 e10 ?_
    obtain ⟨ht12, hf13⟩ := dtIte h
    refine dr_if_ne 34 dX11_live_24 (by decide) (fun hc11 => ?_) (fun hc11 => ?_)
    · have h := hf13 hc11
      refine dr_aload_n p0 dX11_live_34 rfl ?_
      obtain ⟨x14, e15, h⟩ := dtBind h
      refine dr_getR x14 dX11_live_35 fl_RX11_103 e15 ?_
      refine dr_aload_n p0 dX11_live_38 rfl ?_
      obtain ⟨x16, e17, h⟩ := dtBind h
      refine dr_getR x16 dX11_live_39 fl_RX11_37 e17 ?_
      refine dr_aload_n p0 dX11_live_42 rfl ?_
      obtain ⟨x18, e19, h⟩ := dtBind h
      refine dr_getR x18 dX11_live_43 fl_RX11_47 e19 ?_
      refine dr_aload_n p0 dX11_live_46 rfl ?_
      obtain ⟨x20, e21, h⟩ := dtBind h
      refine dr_getR x20 dX11_live_47 fl_RX11_82 e21 ?_
      refine dr_iload_n p1 dX11_live_50 rfl ?_
      obtain ⟨_, hb22, h⟩ := dtBind h
      obtain ⟨μ23, e24, h⟩ := dtBind h
      refine dr_callV_v (S0 := []) [.ref x16, .ref x18, .ref x20, .int p1] μ23 dX11_live_51 (c_X6_run x14 x16 x18 x20 p1 μ1 e24) mf_X6_run wt_1264 wt_1265 wt_1263 rfl (dtRv hb22) (by decide) rfl (Nat.le_of_ble_eq_true rfl) (Nat.le_of_ble_eq_true rfl) rfl ?_
      refine dr_aload_n p0 dX11_live_54 rfl ?_
      obtain ⟨x25, e26, h⟩ := dtBind h
      refine dr_getR x25 dX11_live_55 fl_RX11_107 e26 ?_
      refine dr_iconst (0 : Int32) dX11_live_58 (by decide) ?_
      refine dr_aload_n p0 dX11_live_59 rfl ?_
      obtain ⟨x27, e28, h⟩ := dtBind h
      refine dr_getR x27 dX11_live_60 fl_RX11_103 e28 ?_
      obtain ⟨x29, e30, h⟩ := dtBind h
      refine dr_getI x29 dX11_live_63 fl_RX11_412 e30 ?_
      obtain ⟨μ31, e32, h⟩ := dtBind h
      refine dr_iastore μ31 dX11_live_66 e32 ?_
      refine dr_aload_n p0 dX11_live_67 rfl ?_
      obtain ⟨x33, e34, h⟩ := dtBind h
      refine dr_getR x33 dX11_live_68 fl_RX11_107 e34 ?_
      refine dr_iconst (1 : Int32) dX11_live_71 (by decide) ?_
      refine dr_aload_n p0 dX11_live_72 rfl ?_
      obtain ⟨x35, e36, h⟩ := dtBind h
      refine dr_getR x35 dX11_live_73 fl_RX11_103 e36 ?_
      obtain ⟨x37, e38, h⟩ := dtBind h
      refine dr_getI x37 dX11_live_76 fl_RX11_415 e38 ?_
      obtain ⟨μ39, e40, h⟩ := dtBind h
      refine dr_iastore μ39 dX11_live_79 e40 ?_
      refine dr_aload_n p0 dX11_live_80 rfl ?_
      obtain ⟨x41, e42, h⟩ := dtBind h
      refine dr_getR x41 dX11_live_81 fl_RX11_107 e42 ?_
      refine dr_iconst (2 : Int32) dX11_live_84 (by decide) ?_
      refine dr_aload_n p0 dX11_live_85 rfl ?_
      obtain ⟨x43, e44, h⟩ := dtBind h
      refine dr_getR x43 dX11_live_86 fl_RX11_103 e44 ?_
      obtain ⟨x45, e46, h⟩ := dtBind h
      refine dr_getI x45 dX11_live_89 fl_RX11_416 e46 ?_
      obtain ⟨μ47, e48, h⟩ := dtBind h
      refine dr_iastore μ47 dX11_live_92 e48 ?_
      refine dr_aload_n p0 dX11_live_93 rfl ?_
      obtain ⟨x49, e50, h⟩ := dtBind h
      refine dr_getR x49 dX11_live_94 fl_RX11_107 e50 ?_
      refine dr_iconst (3 : Int32) dX11_live_97 (by decide) ?_
      refine dr_aload_n p0 dX11_live_98 rfl ?_
      obtain ⟨x51, e52, h⟩ := dtBind h
      refine dr_getR x51 dX11_live_99 fl_RX11_103 e52 ?_
      obtain ⟨x53, e54, h⟩ := dtBind h
      refine dr_getI x53 dX11_live_102 fl_RX11_419 e54 ?_
      obtain ⟨μ55, e56, h⟩ := dtBind h
      refine dr_iastore μ55 dX11_live_105 e56 ?_
      refine dr_aload_n p0 dX11_live_106 rfl ?_
      obtain ⟨x57, e58, h⟩ := dtBind h
      refine dr_getR x57 dX11_live_107 fl_RX11_107 e58 ?_
      refine dr_iconst (4 : Int32) dX11_live_110 (by decide) ?_
      refine dr_aload_n p0 dX11_live_111 rfl ?_
      obtain ⟨x59, e60, h⟩ := dtBind h
      refine dr_getR x59 dX11_live_112 fl_RX11_103 e60 ?_
      obtain ⟨x61, e62, h⟩ := dtBind h
      refine dr_getZ x61 dX11_live_115 fl_RX11_422 e62 ?_
      obtain ⟨ht64, hf65⟩ := dtIte h
      refine dr_if_eq 125 dX11_live_118 (by decide) (fun hc63 => ?_) (fun hc63 => ?_)
      · have h := ht64 hc63
        refine dr_iconst (0 : Int32) dX11_live_125 (by decide) ?_
        refine dr_mask [true] [some (.ref p0)] rfl ?_
        exact c_X11_live_126 p0 x57 (4 : Int32) (0 : Int32) μ55 h
      · have h := hf65 hc63
        refine dr_iconst (1 : Int32) dX11_live_121 (by decide) ?_
        refine dr_goto 126 dX11_live_122 (by decide) ?_
        refine dr_mask [true] [some (.ref p0)] rfl ?_
        exact c_X11_live_126 p0 x57 (4 : Int32) (1 : Int32) μ55 h
    · have h := ht12 hc11
      refine dr_aload_n p0 dX11_live_27 rfl ?_
      refine dr_bipush (6 : Int32) dX11_live_28 (by decide) ?_
      obtain ⟨_, hb66, h⟩ := dtBind h
      obtain ⟨x69, μ67, e68, h⟩ := dtCall h
      refine dr_callV_i (S0 := []) [.int (6 : Int32)] x69 μ67 dX11_live_30 (c_X11_fail p0 (6 : Int32) μ1 e68) mf_X11_fail wt_510 ws_3 wt_508 rfl (dtRv hb66) (by decide) rfl (Nat.le_of_ble_eq_true rfl) (Nat.le_of_ble_eq_true rfl) rfl ?_
      cases h
      exact dr_ireturn dX11_live_33 rfl
  · have h := ht5 hc4
    refine dr_aload_n p0 dX11_live_11 rfl ?_
    refine dr_iconst (1 : Int32) dX11_live_12 (by decide) ?_
    obtain ⟨_, hb70, h⟩ := dtBind h
    obtain ⟨x73, μ71, e72, h⟩ := dtCall h
    refine dr_callV_i (S0 := []) [.int (1 : Int32)] x73 μ71 dX11_live_13 (c_X11_fail p0 (1 : Int32) μ1 e72) mf_X11_fail wt_510 ws_3 wt_508 rfl (dtRv hb70) (by decide) rfl (Nat.le_of_ble_eq_true rfl) (Nat.le_of_ble_eq_true rfl) rfl ?_
    cases h
    exact dr_ireturn dX11_live_16 rfl
/-! X11_lived -/
theorem dX11_lived_0 : decode cX11_lived 0 = .ok (.iload_n 1, 1) := by decide +kernel
theorem dX11_lived_1 : decode cX11_lived 1 = .ok (.iconst 0, 1) := by decide +kernel
theorem dX11_lived_2 : decode cX11_lived 2 = .ok (.aload_n 0, 1) := by decide +kernel
theorem dX11_lived_3 : decode cX11_lived 3 = .ok (.getfield 107, 3) := by decide +kernel
theorem dX11_lived_6 : decode cX11_lived 6 = .ok (.arraylength, 1) := by decide +kernel
theorem dX11_lived_7 : decode cX11_lived 7 = .ok (.iconst 1, 1) := by decide +kernel
theorem dX11_lived_8 : decode cX11_lived 8 = .ok (.isub, 1) := by decide +kernel
theorem dX11_lived_9 : decode cX11_lived 9 = .ok (.invokestatic 115, 3) := by decide +kernel
theorem dX11_lived_12 : decode cX11_lived 12 = .ok (.ifCond .ne 9, 3) := by decide +kernel
theorem dX11_lived_15 : decode cX11_lived 15 = .ok (.aload_n 0, 1) := by decide +kernel
theorem dX11_lived_16 : decode cX11_lived 16 = .ok (.iconst 1, 1) := by decide +kernel
theorem dX11_lived_17 : decode cX11_lived 17 = .ok (.invokevirtual 138, 3) := by decide +kernel
theorem dX11_lived_20 : decode cX11_lived 20 = .ok (.ireturn, 1) := by decide +kernel
theorem dX11_lived_21 : decode cX11_lived 21 = .ok (.aload_n 0, 1) := by decide +kernel
theorem dX11_lived_22 : decode cX11_lived 22 = .ok (.getfield 107, 3) := by decide +kernel
theorem dX11_lived_25 : decode cX11_lived 25 = .ok (.iconst 0, 1) := by decide +kernel
theorem dX11_lived_26 : decode cX11_lived 26 = .ok (.iaload, 1) := by decide +kernel
theorem dX11_lived_27 : decode cX11_lived 27 = .ok (.iconst (-1), 1) := by decide +kernel
theorem dX11_lived_28 : decode cX11_lived 28 = .ok (.if_icmp .ne 10, 3) := by decide +kernel
theorem dX11_lived_31 : decode cX11_lived 31 = .ok (.aload_n 0, 1) := by decide +kernel
theorem dX11_lived_32 : decode cX11_lived 32 = .ok (.bipush 6, 2) := by decide +kernel
theorem dX11_lived_34 : decode cX11_lived 34 = .ok (.invokevirtual 138, 3) := by decide +kernel
theorem dX11_lived_37 : decode cX11_lived 37 = .ok (.ireturn, 1) := by decide +kernel
theorem dX11_lived_38 : decode cX11_lived 38 = .ok (.aload_n 0, 1) := by decide +kernel
theorem dX11_lived_39 : decode cX11_lived 39 = .ok (.aload_n 0, 1) := by decide +kernel
theorem dX11_lived_40 : decode cX11_lived 40 = .ok (.getfield 107, 3) := by decide +kernel
theorem dX11_lived_43 : decode cX11_lived 43 = .ok (.iload_n 1, 1) := by decide +kernel
theorem dX11_lived_44 : decode cX11_lived 44 = .ok (.iaload, 1) := by decide +kernel
theorem dX11_lived_45 : decode cX11_lived 45 = .ok (.invokevirtual 192, 3) := by decide +kernel
theorem dX11_lived_48 : decode cX11_lived 48 = .ok (.ireturn, 1) := by decide +kernel
set_option maxRecDepth 100000 in
def f_X11_lived (p0 : Nat) (p1 : Int32) (μ : dtM) : Option (Int32 × dtM) :=
  (opGR 11 18 μ p0).bind fun x1 => (opAL μ x1).bind fun x3 => opCall (f_X11_within p1 (0 : Int32) (x3 - (1 : Int32)) μ) fun x7 μ5 => if x7 = 0 then ((opRv 11 μ5 p0).bind fun _ => opCall (f_X11_fail p0 (1 : Int32) μ5) fun x33 μ31 => some (x33, μ31)) else ((opGR 11 18 μ5 p0).bind fun x11 => (opLI 1 μ5 x11 (0 : Int32)).bind fun x13 => if x13 = (-1 : Int32) then ((opRv 11 μ5 p0).bind fun _ => opCall (f_X11_fail p0 (6 : Int32) μ5) fun x29 μ27 => some (x29, μ27)) else ((opGR 11 18 μ5 p0).bind fun x18 => (opLI 1 μ5 x18 p1).bind fun x20 => (opRv 11 μ5 p0).bind fun _ => opCall (f_X11_answer p0 x20 μ5) fun x25 μ23 => some (x25, μ23)))
set_option maxRecDepth 100000 in
theorem c_X11_lived {r : Int32} {F : dtM} (p0 : Nat) (p1 : Int32) (μ : dtM) (h : f_X11_lived p0 p1 μ = some (r, F)) : dtMet yX11_lived cX11_lived 2 (some .int) 2 [.ref p0, .int p1] μ (some (.int r)) F := by
  refine dtMet.of (by decide +kernel) (Nat.le_of_ble_eq_true rfl) (show dtW yX11_lived cX11_lived 2 (some .int) 2 (some (.int r)) F 0 [some (.ref p0), some (.int p1)] [] μ from ?_)
  rw [f_X11_lived] at h
  refine dr_iload_n p1 dX11_lived_0 rfl ?_
  refine dr_iconst (0 : Int32) dX11_lived_1 (by decide) ?_
  refine dr_aload_n p0 dX11_lived_2 rfl ?_
  obtain ⟨x1, e2, h⟩ := dtBind h
  refine dr_getR x1 dX11_lived_3 fl_RX11_107 e2 ?_
  obtain ⟨x3, e4, h⟩ := dtBind h
  refine dr_arraylength x3 dX11_lived_6 e4 ?_
  refine dr_iconst (1 : Int32) dX11_lived_7 (by decide) ?_
  refine dr_isub dX11_lived_8 ?_
  obtain ⟨x7, μ5, e6, h⟩ := dtCall h
  refine dr_callS_i (S0 := []) [.int p1, .int (0 : Int32), .int (x3 - (1 : Int32))] x7 μ5 dX11_lived_9 (c_X11_within p1 (0 : Int32) (x3 - (1 : Int32)) μ e6) mf_X11_within wt_478 wt_477 rfl (Nat.le_of_ble_eq_true rfl) (Nat.le_of_ble_eq_true rfl) rfl ?_
  obtain ⟨ht9, hf10⟩ := dtIte h
  refine dr_if_ne 21 dX11_lived_12 (by decide) (fun hc8 => ?_) (fun hc8 => ?_)
  · have h := hf10 hc8
    refine dr_aload_n p0 dX11_lived_21 rfl ?_
    obtain ⟨x11, e12, h⟩ := dtBind h
    refine dr_getR x11 dX11_lived_22 fl_RX11_107 e12 ?_
    refine dr_iconst (0 : Int32) dX11_lived_25 (by decide) ?_
    obtain ⟨x13, e14, h⟩ := dtBind h
    refine dr_iaload x13 dX11_lived_26 e14 ?_
    refine dr_iconst (-1 : Int32) dX11_lived_27 (by decide) ?_
    obtain ⟨ht16, hf17⟩ := dtIte h
    refine dr_icmp_ne 38 dX11_lived_28 (by decide) (fun hc15 => ?_) (fun hc15 => ?_)
    · have h := hf17 hc15
      refine dr_aload_n p0 dX11_lived_38 rfl ?_
      refine dr_aload_n p0 dX11_lived_39 rfl ?_
      obtain ⟨x18, e19, h⟩ := dtBind h
      refine dr_getR x18 dX11_lived_40 fl_RX11_107 e19 ?_
      refine dr_iload_n p1 dX11_lived_43 rfl ?_
      obtain ⟨x20, e21, h⟩ := dtBind h
      refine dr_iaload x20 dX11_lived_44 e21 ?_
      obtain ⟨_, hb22, h⟩ := dtBind h
      obtain ⟨x25, μ23, e24, h⟩ := dtCall h
      refine dr_callV_i (S0 := []) [.int x20] x25 μ23 dX11_lived_45 (c_X11_answer p0 x20 μ5 e24) mf_X11_answer wt_764 ws_19 wt_762 rfl (dtRv hb22) (by decide) rfl (Nat.le_of_ble_eq_true rfl) (Nat.le_of_ble_eq_true rfl) rfl ?_
      cases h
      exact dr_ireturn dX11_lived_48 rfl
    · have h := ht16 hc15
      refine dr_aload_n p0 dX11_lived_31 rfl ?_
      refine dr_bipush (6 : Int32) dX11_lived_32 (by decide) ?_
      obtain ⟨_, hb26, h⟩ := dtBind h
      obtain ⟨x29, μ27, e28, h⟩ := dtCall h
      refine dr_callV_i (S0 := []) [.int (6 : Int32)] x29 μ27 dX11_lived_34 (c_X11_fail p0 (6 : Int32) μ5 e28) mf_X11_fail wt_510 ws_3 wt_508 rfl (dtRv hb26) (by decide) rfl (Nat.le_of_ble_eq_true rfl) (Nat.le_of_ble_eq_true rfl) rfl ?_
      cases h
      exact dr_ireturn dX11_lived_37 rfl
  · have h := ht9 hc8
    refine dr_aload_n p0 dX11_lived_15 rfl ?_
    refine dr_iconst (1 : Int32) dX11_lived_16 (by decide) ?_
    obtain ⟨_, hb30, h⟩ := dtBind h
    obtain ⟨x33, μ31, e32, h⟩ := dtCall h
    refine dr_callV_i (S0 := []) [.int (1 : Int32)] x33 μ31 dX11_lived_17 (c_X11_fail p0 (1 : Int32) μ5 e32) mf_X11_fail wt_510 ws_3 wt_508 rfl (dtRv hb30) (by decide) rfl (Nat.le_of_ble_eq_true rfl) (Nat.le_of_ble_eq_true rfl) rfl ?_
    cases h
    exact dr_ireturn dX11_lived_20 rfl
/-! X11_mean -/
theorem dX11_mean_0 : decode cX11_mean 0 = .ok (.iload_n 1, 1) := by decide +kernel
theorem dX11_mean_1 : decode cX11_mean 1 = .ok (.iconst 0, 1) := by decide +kernel
theorem dX11_mean_2 : decode cX11_mean 2 = .ok (.sipush 9999, 3) := by decide +kernel
theorem dX11_mean_5 : decode cX11_mean 5 = .ok (.invokestatic 115, 3) := by decide +kernel
theorem dX11_mean_8 : decode cX11_mean 8 = .ok (.ifCond .eq 24, 3) := by decide +kernel
theorem dX11_mean_11 : decode cX11_mean 11 = .ok (.iload_n 2, 1) := by decide +kernel
theorem dX11_mean_12 : decode cX11_mean 12 = .ok (.iconst 1, 1) := by decide +kernel
theorem dX11_mean_13 : decode cX11_mean 13 = .ok (.bipush 20, 2) := by decide +kernel
theorem dX11_mean_15 : decode cX11_mean 15 = .ok (.invokestatic 115, 3) := by decide +kernel
theorem dX11_mean_18 : decode cX11_mean 18 = .ok (.ifCond .eq 14, 3) := by decide +kernel
theorem dX11_mean_21 : decode cX11_mean 21 = .ok (.iload_n 1, 1) := by decide +kernel
theorem dX11_mean_22 : decode cX11_mean 22 = .ok (.iload_n 2, 1) := by decide +kernel
theorem dX11_mean_23 : decode cX11_mean 23 = .ok (.iadd, 1) := by decide +kernel
theorem dX11_mean_24 : decode cX11_mean 24 = .ok (.iconst 1, 1) := by decide +kernel
theorem dX11_mean_25 : decode cX11_mean 25 = .ok (.isub, 1) := by decide +kernel
theorem dX11_mean_26 : decode cX11_mean 26 = .ok (.sipush 9999, 3) := by decide +kernel
theorem dX11_mean_29 : decode cX11_mean 29 = .ok (.if_icmp .le 9, 3) := by decide +kernel
theorem dX11_mean_32 : decode cX11_mean 32 = .ok (.aload_n 0, 1) := by decide +kernel
theorem dX11_mean_33 : decode cX11_mean 33 = .ok (.iconst 1, 1) := by decide +kernel
theorem dX11_mean_34 : decode cX11_mean 34 = .ok (.invokevirtual 119, 3) := by decide +kernel
theorem dX11_mean_37 : decode cX11_mean 37 = .ok (.ireturn, 1) := by decide +kernel
theorem dX11_mean_38 : decode cX11_mean 38 = .ok (.aload_n 0, 1) := by decide +kernel
theorem dX11_mean_39 : decode cX11_mean 39 = .ok (.getfield 47, 3) := by decide +kernel
theorem dX11_mean_42 : decode cX11_mean 42 = .ok (.getfield 407, 3) := by decide +kernel
theorem dX11_mean_45 : decode cX11_mean 45 = .ok (.ifCond .ne 10, 3) := by decide +kernel
theorem dX11_mean_48 : decode cX11_mean 48 = .ok (.aload_n 0, 1) := by decide +kernel
theorem dX11_mean_49 : decode cX11_mean 49 = .ok (.bipush 6, 2) := by decide +kernel
theorem dX11_mean_51 : decode cX11_mean 51 = .ok (.invokevirtual 119, 3) := by decide +kernel
theorem dX11_mean_54 : decode cX11_mean 54 = .ok (.ireturn, 1) := by decide +kernel
theorem dX11_mean_55 : decode cX11_mean 55 = .ok (.lconst 0, 1) := by decide +kernel
theorem dX11_mean_56 : decode cX11_mean 56 = .ok (.lstore_n 3, 1) := by decide +kernel
theorem dX11_mean_57 : decode cX11_mean 57 = .ok (.iconst 0, 1) := by decide +kernel
theorem dX11_mean_58 : decode cX11_mean 58 = .ok (.istore 5, 2) := by decide +kernel
theorem dX11_mean_60 : decode cX11_mean 60 = .ok (.iload 5, 2) := by decide +kernel
theorem dX11_mean_62 : decode cX11_mean 62 = .ok (.iload_n 2, 1) := by decide +kernel
theorem dX11_mean_63 : decode cX11_mean 63 = .ok (.if_icmp .ge 57, 3) := by decide +kernel
theorem dX11_mean_66 : decode cX11_mean 66 = .ok (.aload_n 0, 1) := by decide +kernel
theorem dX11_mean_67 : decode cX11_mean 67 = .ok (.getfield 41, 3) := by decide +kernel
theorem dX11_mean_70 : decode cX11_mean 70 = .ok (.aload_n 0, 1) := by decide +kernel
theorem dX11_mean_71 : decode cX11_mean 71 = .ok (.getfield 37, 3) := by decide +kernel
theorem dX11_mean_74 : decode cX11_mean 74 = .ok (.invokevirtual 428, 3) := by decide +kernel
theorem dX11_mean_77 : decode cX11_mean 77 = .ok (.aload_n 0, 1) := by decide +kernel
theorem dX11_mean_78 : decode cX11_mean 78 = .ok (.getfield 103, 3) := by decide +kernel
theorem dX11_mean_81 : decode cX11_mean 81 = .ok (.aload_n 0, 1) := by decide +kernel
theorem dX11_mean_82 : decode cX11_mean 82 = .ok (.getfield 41, 3) := by decide +kernel
theorem dX11_mean_85 : decode cX11_mean 85 = .ok (.aload_n 0, 1) := by decide +kernel
theorem dX11_mean_86 : decode cX11_mean 86 = .ok (.getfield 47, 3) := by decide +kernel
theorem dX11_mean_89 : decode cX11_mean 89 = .ok (.aload_n 0, 1) := by decide +kernel
theorem dX11_mean_90 : decode cX11_mean 90 = .ok (.getfield 82, 3) := by decide +kernel
theorem dX11_mean_93 : decode cX11_mean 93 = .ok (.iload_n 1, 1) := by decide +kernel
theorem dX11_mean_94 : decode cX11_mean 94 = .ok (.iload 5, 2) := by decide +kernel
theorem dX11_mean_96 : decode cX11_mean 96 = .ok (.iadd, 1) := by decide +kernel
theorem dX11_mean_97 : decode cX11_mean 97 = .ok (.invokevirtual 408, 3) := by decide +kernel
theorem dX11_mean_100 : decode cX11_mean 100 = .ok (.lload_n 3, 1) := by decide +kernel
theorem dX11_mean_101 : decode cX11_mean 101 = .ok (.aload_n 0, 1) := by decide +kernel
theorem dX11_mean_102 : decode cX11_mean 102 = .ok (.getfield 41, 3) := by decide +kernel
theorem dX11_mean_105 : decode cX11_mean 105 = .ok (.getfield 220, 3) := by decide +kernel
theorem dX11_mean_108 : decode cX11_mean 108 = .ok (.invokestatic 281, 3) := by decide +kernel
theorem dX11_mean_111 : decode cX11_mean 111 = .ok (.i2l, 1) := by decide +kernel
theorem dX11_mean_112 : decode cX11_mean 112 = .ok (.ladd, 1) := by decide +kernel
theorem dX11_mean_113 : decode cX11_mean 113 = .ok (.lstore_n 3, 1) := by decide +kernel
theorem dX11_mean_114 : decode cX11_mean 114 = .ok (.iinc 5 1, 3) := by decide +kernel
theorem dX11_mean_117 : decode cX11_mean 117 = .ok (.goto (-57), 3) := by decide +kernel
theorem dX11_mean_120 : decode cX11_mean 120 = .ok (.aload_n 0, 1) := by decide +kernel
theorem dX11_mean_121 : decode cX11_mean 121 = .ok (.lload_n 3, 1) := by decide +kernel
theorem dX11_mean_122 : decode cX11_mean 122 = .ok (.iload_n 2, 1) := by decide +kernel
theorem dX11_mean_123 : decode cX11_mean 123 = .ok (.i2l, 1) := by decide +kernel
theorem dX11_mean_124 : decode cX11_mean 124 = .ok (.invokevirtual 403, 3) := by decide +kernel
theorem dX11_mean_127 : decode cX11_mean 127 = .ok (.aload_n 0, 1) := by decide +kernel
theorem dX11_mean_128 : decode cX11_mean 128 = .ok (.invokevirtual 126, 3) := by decide +kernel
theorem dX11_mean_131 : decode cX11_mean 131 = .ok (.ireturn, 1) := by decide +kernel
set_option maxRecDepth 100000 in
def f_X11_mean_32 (l0 : Nat) (μ : dtM) : Option (Int32 × dtM) :=
  (opRv 11 μ l0).bind fun _ => opCall (f_X11_refuse l0 (1 : Int32) μ) fun x4 μ2 => opRet x4 μ2
set_option maxRecDepth 100000 in
def f_X11_mean_60 : Nat → Nat → Int32 → Int32 → Int64 → Int32 → dtM → Option (Int32 × dtM)
  | 0, _, _, _, _, _, _ => none
  | n + 1, l0, l1, l2, l3, l5, μ =>
    if l2 ≤ l5 then ((opRv 11 μ l0).bind fun _ => (f_X11_tellFraction l0 l3 (l2.toInt64) μ).bind fun μ5 => (opRv 11 μ5 l0).bind fun _ => opCall (f_X11_agree l0 μ5) fun x10 μ8 => opRet x10 μ8) else ((opGR 11 6 μ l0).bind fun x11 => (opGR 11 5 μ l0).bind fun x13 => (opRv 3 μ x11).bind fun _ => (f_X3_copyFrom x11 x13 μ).bind fun μ16 => (opGR 11 17 μ16 l0).bind fun x18 => (opGR 11 6 μ16 l0).bind fun x20 => (opGR 11 7 μ16 l0).bind fun x22 => (opGR 11 14 μ16 l0).bind fun x24 => (opRv 6 μ16 x18).bind fun _ => (f_X6_run x18 x20 x22 x24 (l1 + l5) μ16).bind fun μ27 => (opGR 11 6 μ27 l0).bind fun x29 => (opGI 3 5 μ27 x29).bind fun x31 => opCall (f_J6_bitCount_0f7a4 x31 μ27) fun x35 μ33 => (some (l3 + (x35.toInt64))).bind fun x36 => f_X11_mean_60 n l0 l1 l2 x36 (l5 + 1) μ33)
set_option maxRecDepth 100000 in
def f_X11_mean (p0 : Nat) (p1 : Int32) (p2 : Int32) (μ : dtM) : Option (Int32 × dtM) :=
  opCall (f_X11_within p1 (0 : Int32) (9999 : Int32) μ) fun x3 μ1 => if x3 = 0 then (f_X11_mean_32 p0 μ1) else (opCall (f_X11_within p2 (1 : Int32) (20 : Int32) μ1) fun x9 μ7 => if x9 = 0 then (f_X11_mean_32 p0 μ7) else (if ((p1 + p2) - (1 : Int32)) ≤ (9999 : Int32) then ((opGR 11 7 μ7 p0).bind fun x16 => (opGI 0 0 μ7 x16).bind fun x18 => if x18 = 0 then ((opRv 11 μ7 p0).bind fun _ => opCall (f_X11_refuse p0 (6 : Int32) μ7) fun x26 μ24 => opRet x26 μ24) else (f_X11_mean_60 dtFuel p0 p1 p2 (0 : Int64) (0 : Int32) μ7)) else (f_X11_mean_32 p0 μ7)))
set_option maxRecDepth 100000 in
theorem c_X11_mean_32 {r : Int32} {F : dtM} (l0 : Nat) (μ : dtM) (h : f_X11_mean_32 l0 μ = some (r, F)) : dtW yX11_mean cX11_mean 6 (some .boolean) 7 (some (.int r)) F 32 [some (.ref l0)] [] μ := by
  rw [f_X11_mean_32] at h
  refine dr_aload_n l0 dX11_mean_32 rfl ?_
  refine dr_iconst (1 : Int32) dX11_mean_33 (by decide) ?_
  obtain ⟨_, hb1, h⟩ := dtBind h
  obtain ⟨x4, μ2, e3, h⟩ := dtCall h
  refine dr_callV_i (S0 := []) [.int (1 : Int32)] x4 μ2 dX11_mean_34 (c_X11_refuse l0 (1 : Int32) μ e3) mf_X11_refuse wt_482 ws_0 wt_480 rfl (dtRv hb1) (by decide) rfl (Nat.le_of_ble_eq_true rfl) (Nat.le_of_ble_eq_true rfl) rfl ?_
  obtain ⟨hz, rfl, rfl⟩ := dtRet h
  exact dr_ireturn dX11_mean_37 (dtNz hz)
set_option maxRecDepth 100000 in
theorem c_X11_mean_60 {r : Int32} {F : dtM} : ∀ (n : Nat) (l0 : Nat) (l1 : Int32) (l2 : Int32) (l3 : Int64) (l5 : Int32) (μ : dtM), f_X11_mean_60 n l0 l1 l2 l3 l5 μ = some (r, F) → dtW yX11_mean cX11_mean 6 (some .boolean) 7 (some (.int r)) F 60 [some (.ref l0), some (.int l1), some (.int l2), some (.long l3), none, some (.int l5)] [] μ := by
  intro n
  induction n with
  | zero => intro l0 l1 l2 l3 l5 μ h; cases h
  | succ n ih =>
    intro l0 l1 l2 l3 l5 μ h
    have h := (show f_X11_mean_60 (n + 1) l0 l1 l2 l3 l5 μ = some _ from h)
    rw [f_X11_mean_60] at h
    refine dr_iload l5 dX11_mean_60 rfl ?_
    refine dr_iload_n l2 dX11_mean_62 rfl ?_
    obtain ⟨ht2, hf3⟩ := dtIte h
    refine dr_icmp_ge 120 dX11_mean_63 (by decide) (fun hc1 => ?_) (fun hc1 => ?_)
    · have h := ht2 hc1
      refine dr_aload_n l0 dX11_mean_120 rfl ?_
      refine dr_lload_n l3 dX11_mean_121 rfl ?_
      refine dr_iload_n l2 dX11_mean_122 rfl ?_
      refine dr_i2l dX11_mean_123 ?_
      obtain ⟨_, hb4, h⟩ := dtBind h
      obtain ⟨μ5, e6, h⟩ := dtBind h
      refine dr_callV_v (S0 := []) [.long l3, .long (l2.toInt64)] μ5 dX11_mean_124 (c_X11_tellFraction l0 l3 (l2.toInt64) μ e6) mf_X11_tellFraction wt_1250 ws_45 wt_1248 rfl (dtRv hb4) (by decide) rfl (Nat.le_of_ble_eq_true rfl) (Nat.le_of_ble_eq_true rfl) rfl ?_
      refine dr_aload_n l0 dX11_mean_127 rfl ?_
      obtain ⟨_, hb7, h⟩ := dtBind h
      obtain ⟨x10, μ8, e9, h⟩ := dtCall h
      refine dr_callV_i (S0 := []) [] x10 μ8 dX11_mean_128 (c_X11_agree l0 μ5 e9) mf_X11_agree wt_490 ws_1 wt_488 rfl (dtRv hb7) (by decide) rfl (Nat.le_of_ble_eq_true rfl) (Nat.le_of_ble_eq_true rfl) rfl ?_
      obtain ⟨hz, rfl, rfl⟩ := dtRet h
      exact dr_ireturn dX11_mean_131 (dtNz hz)
    · have h := hf3 hc1
      refine dr_aload_n l0 dX11_mean_66 rfl ?_
      obtain ⟨x11, e12, h⟩ := dtBind h
      refine dr_getR x11 dX11_mean_67 fl_RX11_41 e12 ?_
      refine dr_aload_n l0 dX11_mean_70 rfl ?_
      obtain ⟨x13, e14, h⟩ := dtBind h
      refine dr_getR x13 dX11_mean_71 fl_RX11_37 e14 ?_
      obtain ⟨_, hb15, h⟩ := dtBind h
      obtain ⟨μ16, e17, h⟩ := dtBind h
      refine dr_callV_v (S0 := []) [.ref x13] μ16 dX11_mean_74 (c_X3_copyFrom x11 x13 μ e17) mf_X3_copyFrom wt_1320 wt_1321 wt_1319 rfl (dtRv hb15) (by decide) rfl (Nat.le_of_ble_eq_true rfl) (Nat.le_of_ble_eq_true rfl) rfl ?_
      refine dr_aload_n l0 dX11_mean_77 rfl ?_
      obtain ⟨x18, e19, h⟩ := dtBind h
      refine dr_getR x18 dX11_mean_78 fl_RX11_103 e19 ?_
      refine dr_aload_n l0 dX11_mean_81 rfl ?_
      obtain ⟨x20, e21, h⟩ := dtBind h
      refine dr_getR x20 dX11_mean_82 fl_RX11_41 e21 ?_
      refine dr_aload_n l0 dX11_mean_85 rfl ?_
      obtain ⟨x22, e23, h⟩ := dtBind h
      refine dr_getR x22 dX11_mean_86 fl_RX11_47 e23 ?_
      refine dr_aload_n l0 dX11_mean_89 rfl ?_
      obtain ⟨x24, e25, h⟩ := dtBind h
      refine dr_getR x24 dX11_mean_90 fl_RX11_82 e25 ?_
      refine dr_iload_n l1 dX11_mean_93 rfl ?_
      refine dr_iload l5 dX11_mean_94 rfl ?_
      refine dr_iadd dX11_mean_96 ?_
      obtain ⟨_, hb26, h⟩ := dtBind h
      obtain ⟨μ27, e28, h⟩ := dtBind h
      refine dr_callV_v (S0 := []) [.ref x20, .ref x22, .ref x24, .int (l1 + l5)] μ27 dX11_mean_97 (c_X6_run x18 x20 x22 x24 (l1 + l5) μ16 e28) mf_X6_run wt_1264 wt_1265 wt_1263 rfl (dtRv hb26) (by decide) rfl (Nat.le_of_ble_eq_true rfl) (Nat.le_of_ble_eq_true rfl) rfl ?_
      refine dr_lload_n l3 dX11_mean_100 rfl ?_
      refine dr_aload_n l0 dX11_mean_101 rfl ?_
      obtain ⟨x29, e30, h⟩ := dtBind h
      refine dr_getR x29 dX11_mean_102 fl_RX11_41 e30 ?_
      obtain ⟨x31, e32, h⟩ := dtBind h
      refine dr_getI x31 dX11_mean_105 fl_RX11_220 e32 ?_
      obtain ⟨x35, μ33, e34, h⟩ := dtCall h
      refine dr_callS_i (S0 := [.long l3]) [.int x31] x35 μ33 dX11_mean_108 (c_J6_bitCount_0f7a4 x31 μ27 e34) mf_J6_bitCount_0f7a4 wt_929 wt_928 rfl (Nat.le_of_ble_eq_true rfl) (Nat.le_of_ble_eq_true rfl) rfl ?_
      refine dr_i2l dX11_mean_111 ?_
      refine dr_ladd dX11_mean_112 ?_
      obtain ⟨x36, e37, h⟩ := dtBind h
      refine dr_nmj e37 ?_
      refine dr_lstore_n 3 [some (.ref l0), some (.int l1), some (.int l2), some (.long x36), none, some (.int l5)] dX11_mean_113 rfl rfl rfl rfl ?_
      refine dr_iinc l5 (l5 + 1) [some (.ref l0), some (.int l1), some (.int l2), some (.long x36), none, some (.int (l5 + 1))] dX11_mean_114 rfl rfl rfl rfl rfl ?_
      refine dr_goto 60 dX11_mean_117 (by decide) ?_
      exact ih l0 l1 l2 x36 (l5 + 1) μ33 h
set_option maxRecDepth 100000 in
theorem c_X11_mean {r : Int32} {F : dtM} (p0 : Nat) (p1 : Int32) (p2 : Int32) (μ : dtM) (h : f_X11_mean p0 p1 p2 μ = some (r, F)) : dtMet yX11_mean cX11_mean 6 (some .boolean) 7 [.ref p0, .int p1, .int p2] μ (some (.int r)) F := by
  refine dtMet.of (by decide +kernel) (Nat.le_of_ble_eq_true rfl) (show dtW yX11_mean cX11_mean 6 (some .boolean) 7 (some (.int r)) F 0 [some (.ref p0), some (.int p1), some (.int p2)] [] μ from ?_)
  rw [f_X11_mean] at h
  refine dr_iload_n p1 dX11_mean_0 rfl ?_
  refine dr_iconst (0 : Int32) dX11_mean_1 (by decide) ?_
  refine dr_sipush (9999 : Int32) dX11_mean_2 (by decide) ?_
  obtain ⟨x3, μ1, e2, h⟩ := dtCall h
  refine dr_callS_i (S0 := []) [.int p1, .int (0 : Int32), .int (9999 : Int32)] x3 μ1 dX11_mean_5 (c_X11_within p1 (0 : Int32) (9999 : Int32) μ e2) mf_X11_within wt_478 wt_477 rfl (Nat.le_of_ble_eq_true rfl) (Nat.le_of_ble_eq_true rfl) rfl ?_
  obtain ⟨ht5, hf6⟩ := dtIte h
  refine dr_if_eq 32 dX11_mean_8 (by decide) (fun hc4 => ?_) (fun hc4 => ?_)
  · have h := ht5 hc4
    refine dr_mask [true] [some (.ref p0)] rfl ?_
    exact c_X11_mean_32 p0 μ1 h
  · have h := hf6 hc4
    refine dr_iload_n p2 dX11_mean_11 rfl ?_
    refine dr_iconst (1 : Int32) dX11_mean_12 (by decide) ?_
    refine dr_bipush (20 : Int32) dX11_mean_13 (by decide) ?_
    obtain ⟨x9, μ7, e8, h⟩ := dtCall h
    refine dr_callS_i (S0 := []) [.int p2, .int (1 : Int32), .int (20 : Int32)] x9 μ7 dX11_mean_15 (c_X11_within p2 (1 : Int32) (20 : Int32) μ1 e8) mf_X11_within wt_478 wt_477 rfl (Nat.le_of_ble_eq_true rfl) (Nat.le_of_ble_eq_true rfl) rfl ?_
    obtain ⟨ht11, hf12⟩ := dtIte h
    refine dr_if_eq 32 dX11_mean_18 (by decide) (fun hc10 => ?_) (fun hc10 => ?_)
    · have h := ht11 hc10
      refine dr_mask [true] [some (.ref p0)] rfl ?_
      exact c_X11_mean_32 p0 μ7 h
    · have h := hf12 hc10
      refine dr_iload_n p1 dX11_mean_21 rfl ?_
      refine dr_iload_n p2 dX11_mean_22 rfl ?_
      refine dr_iadd dX11_mean_23 ?_
      refine dr_iconst (1 : Int32) dX11_mean_24 (by decide) ?_
      refine dr_isub dX11_mean_25 ?_
      refine dr_sipush (9999 : Int32) dX11_mean_26 (by decide) ?_
      obtain ⟨ht14, hf15⟩ := dtIte h
      refine dr_icmp_le 38 dX11_mean_29 (by decide) (fun hc13 => ?_) (fun hc13 => ?_)
      · have h := ht14 hc13
        refine dr_aload_n p0 dX11_mean_38 rfl ?_
        obtain ⟨x16, e17, h⟩ := dtBind h
        refine dr_getR x16 dX11_mean_39 fl_RX11_47 e17 ?_
        obtain ⟨x18, e19, h⟩ := dtBind h
        refine dr_getZ x18 dX11_mean_42 fl_RX11_407 e19 ?_
        obtain ⟨ht21, hf22⟩ := dtIte h
        refine dr_if_ne 55 dX11_mean_45 (by decide) (fun hc20 => ?_) (fun hc20 => ?_)
        · have h := hf22 hc20
          refine dr_lconst (0 : Int64) dX11_mean_55 (by decide) ?_
          refine dr_lstore_n 3 [some (.ref p0), some (.int p1), some (.int p2), some (.long (0 : Int64)), none] dX11_mean_56 rfl rfl rfl rfl ?_
          refine dr_iconst (0 : Int32) dX11_mean_57 (by decide) ?_
          refine dr_istore [some (.ref p0), some (.int p1), some (.int p2), some (.long (0 : Int64)), none, some (.int (0 : Int32))] dX11_mean_58 rfl rfl rfl ?_
          exact c_X11_mean_60 dtFuel p0 p1 p2 (0 : Int64) (0 : Int32) μ7 h
        · have h := ht21 hc20
          refine dr_aload_n p0 dX11_mean_48 rfl ?_
          refine dr_bipush (6 : Int32) dX11_mean_49 (by decide) ?_
          obtain ⟨_, hb23, h⟩ := dtBind h
          obtain ⟨x26, μ24, e25, h⟩ := dtCall h
          refine dr_callV_i (S0 := []) [.int (6 : Int32)] x26 μ24 dX11_mean_51 (c_X11_refuse p0 (6 : Int32) μ7 e25) mf_X11_refuse wt_482 ws_0 wt_480 rfl (dtRv hb23) (by decide) rfl (Nat.le_of_ble_eq_true rfl) (Nat.le_of_ble_eq_true rfl) rfl ?_
          obtain ⟨hz, rfl, rfl⟩ := dtRet h
          exact dr_ireturn dX11_mean_54 (dtNz hz)
      · have h := hf15 hc13
        refine dr_mask [true] [some (.ref p0)] rfl ?_
        exact c_X11_mean_32 p0 μ7 h
/-! X11_mark -/
theorem dX11_mark_0 : decode cX11_mark 0 = .ok (.aload_n 0, 1) := by decide +kernel
theorem dX11_mark_1 : decode cX11_mark 1 = .ok (.getfield 62, 3) := by decide +kernel
theorem dX11_mark_4 : decode cX11_mark 4 = .ok (.iconst 3, 1) := by decide +kernel
theorem dX11_mark_5 : decode cX11_mark 5 = .ok (.if_icmp .lt 9, 3) := by decide +kernel
theorem dX11_mark_8 : decode cX11_mark 8 = .ok (.aload_n 0, 1) := by decide +kernel
theorem dX11_mark_9 : decode cX11_mark 9 = .ok (.iconst 4, 1) := by decide +kernel
theorem dX11_mark_10 : decode cX11_mark 10 = .ok (.invokevirtual 138, 3) := by decide +kernel
theorem dX11_mark_13 : decode cX11_mark 13 = .ok (.ireturn, 1) := by decide +kernel
theorem dX11_mark_14 : decode cX11_mark 14 = .ok (.aload_n 0, 1) := by decide +kernel
theorem dX11_mark_15 : decode cX11_mark 15 = .ok (.getfield 54, 3) := by decide +kernel
theorem dX11_mark_18 : decode cX11_mark 18 = .ok (.aload_n 0, 1) := by decide +kernel
theorem dX11_mark_19 : decode cX11_mark 19 = .ok (.getfield 62, 3) := by decide +kernel
theorem dX11_mark_22 : decode cX11_mark 22 = .ok (.aaload, 1) := by decide +kernel
theorem dX11_mark_23 : decode cX11_mark 23 = .ok (.aload_n 0, 1) := by decide +kernel
theorem dX11_mark_24 : decode cX11_mark 24 = .ok (.getfield 37, 3) := by decide +kernel
theorem dX11_mark_27 : decode cX11_mark 27 = .ok (.invokevirtual 428, 3) := by decide +kernel
theorem dX11_mark_30 : decode cX11_mark 30 = .ok (.aload_n 0, 1) := by decide +kernel
theorem dX11_mark_31 : decode cX11_mark 31 = .ok (.getfield 58, 3) := by decide +kernel
theorem dX11_mark_34 : decode cX11_mark 34 = .ok (.aload_n 0, 1) := by decide +kernel
theorem dX11_mark_35 : decode cX11_mark 35 = .ok (.getfield 62, 3) := by decide +kernel
theorem dX11_mark_38 : decode cX11_mark 38 = .ok (.aaload, 1) := by decide +kernel
theorem dX11_mark_39 : decode cX11_mark 39 = .ok (.aload_n 0, 1) := by decide +kernel
theorem dX11_mark_40 : decode cX11_mark 40 = .ok (.getfield 47, 3) := by decide +kernel
theorem dX11_mark_43 : decode cX11_mark 43 = .ok (.invokevirtual 432, 3) := by decide +kernel
theorem dX11_mark_46 : decode cX11_mark 46 = .ok (.aload_n 0, 1) := by decide +kernel
theorem dX11_mark_47 : decode cX11_mark 47 = .ok (.dup, 1) := by decide +kernel
theorem dX11_mark_48 : decode cX11_mark 48 = .ok (.getfield 62, 3) := by decide +kernel
theorem dX11_mark_51 : decode cX11_mark 51 = .ok (.iconst 1, 1) := by decide +kernel
theorem dX11_mark_52 : decode cX11_mark 52 = .ok (.iadd, 1) := by decide +kernel
theorem dX11_mark_53 : decode cX11_mark 53 = .ok (.putfield 62, 3) := by decide +kernel
theorem dX11_mark_56 : decode cX11_mark 56 = .ok (.aload_n 0, 1) := by decide +kernel
theorem dX11_mark_57 : decode cX11_mark 57 = .ok (.aload_n 0, 1) := by decide +kernel
theorem dX11_mark_58 : decode cX11_mark 58 = .ok (.getfield 62, 3) := by decide +kernel
theorem dX11_mark_61 : decode cX11_mark 61 = .ok (.invokevirtual 192, 3) := by decide +kernel
theorem dX11_mark_64 : decode cX11_mark 64 = .ok (.ireturn, 1) := by decide +kernel
set_option maxRecDepth 100000 in
def f_X11_mark (p0 : Nat) (μ : dtM) : Option (Int32 × dtM) :=
  (opGI 11 11 μ p0).bind fun x1 => if x1 < (3 : Int32) then ((opGR 11 9 μ p0).bind fun x6 => (opGI 11 11 μ p0).bind fun x8 => (opLR 5 μ x6 x8).bind fun x10 => (opGR 11 5 μ p0).bind fun x12 => (opRv 3 μ x10).bind fun _ => (f_X3_copyFrom x10 x12 μ).bind fun μ15 => (opGR 11 10 μ15 p0).bind fun x17 => (opGI 11 11 μ15 p0).bind fun x19 => (opLR 6 μ15 x17 x19).bind fun x21 => (opGR 11 7 μ15 p0).bind fun x23 => (opRv 0 μ15 x21).bind fun _ => (f_X0_copyFrom x21 x23 μ15).bind fun μ26 => (opGI 11 11 μ26 p0).bind fun x28 => (opPI 11 11 μ26 p0 (x28 + (1 : Int32))).bind fun μ30 => (opGI 11 11 μ30 p0).bind fun x32 => (opRv 11 μ30 p0).bind fun _ => opCall (f_X11_answer p0 x32 μ30) fun x37 μ35 => some (x37, μ35)) else ((opRv 11 μ p0).bind fun _ => opCall (f_X11_fail p0 (4 : Int32) μ) fun x41 μ39 => some (x41, μ39))
set_option maxRecDepth 100000 in
theorem c_X11_mark {r : Int32} {F : dtM} (p0 : Nat) (μ : dtM) (h : f_X11_mark p0 μ = some (r, F)) : dtMet yX11_mark cX11_mark 1 (some .int) 2 [.ref p0] μ (some (.int r)) F := by
  refine dtMet.of (by decide +kernel) (Nat.le_of_ble_eq_true rfl) (show dtW yX11_mark cX11_mark 1 (some .int) 2 (some (.int r)) F 0 [some (.ref p0)] [] μ from ?_)
  rw [f_X11_mark] at h
  refine dr_aload_n p0 dX11_mark_0 rfl ?_
  obtain ⟨x1, e2, h⟩ := dtBind h
  refine dr_getI x1 dX11_mark_1 fl_RX11_62 e2 ?_
  refine dr_iconst (3 : Int32) dX11_mark_4 (by decide) ?_
  obtain ⟨ht4, hf5⟩ := dtIte h
  refine dr_icmp_lt 14 dX11_mark_5 (by decide) (fun hc3 => ?_) (fun hc3 => ?_)
  · have h := ht4 hc3
    refine dr_aload_n p0 dX11_mark_14 rfl ?_
    obtain ⟨x6, e7, h⟩ := dtBind h
    refine dr_getR x6 dX11_mark_15 fl_RX11_54 e7 ?_
    refine dr_aload_n p0 dX11_mark_18 rfl ?_
    obtain ⟨x8, e9, h⟩ := dtBind h
    refine dr_getI x8 dX11_mark_19 fl_RX11_62 e9 ?_
    obtain ⟨x10, e11, h⟩ := dtBind h
    refine dr_aaload5 x10 dX11_mark_22 e11 ?_
    refine dr_aload_n p0 dX11_mark_23 rfl ?_
    obtain ⟨x12, e13, h⟩ := dtBind h
    refine dr_getR x12 dX11_mark_24 fl_RX11_37 e13 ?_
    obtain ⟨_, hb14, h⟩ := dtBind h
    obtain ⟨μ15, e16, h⟩ := dtBind h
    refine dr_callV_v (S0 := []) [.ref x12] μ15 dX11_mark_27 (c_X3_copyFrom x10 x12 μ e16) mf_X3_copyFrom wt_1320 wt_1321 wt_1319 rfl (dtRv hb14) (by decide) rfl (Nat.le_of_ble_eq_true rfl) (Nat.le_of_ble_eq_true rfl) rfl ?_
    refine dr_aload_n p0 dX11_mark_30 rfl ?_
    obtain ⟨x17, e18, h⟩ := dtBind h
    refine dr_getR x17 dX11_mark_31 fl_RX11_58 e18 ?_
    refine dr_aload_n p0 dX11_mark_34 rfl ?_
    obtain ⟨x19, e20, h⟩ := dtBind h
    refine dr_getI x19 dX11_mark_35 fl_RX11_62 e20 ?_
    obtain ⟨x21, e22, h⟩ := dtBind h
    refine dr_aaload6 x21 dX11_mark_38 e22 ?_
    refine dr_aload_n p0 dX11_mark_39 rfl ?_
    obtain ⟨x23, e24, h⟩ := dtBind h
    refine dr_getR x23 dX11_mark_40 fl_RX11_47 e24 ?_
    obtain ⟨_, hb25, h⟩ := dtBind h
    obtain ⟨μ26, e27, h⟩ := dtBind h
    refine dr_callV_v (S0 := []) [.ref x23] μ26 dX11_mark_43 (c_X0_copyFrom x21 x23 μ15 e27) mf_X0_copyFrom wt_1329 wt_1330 wt_1328 rfl (dtRv hb25) (by decide) rfl (Nat.le_of_ble_eq_true rfl) (Nat.le_of_ble_eq_true rfl) rfl ?_
    refine dr_aload_n p0 dX11_mark_46 rfl ?_
    refine dr_dup dX11_mark_47 rfl ?_
    obtain ⟨x28, e29, h⟩ := dtBind h
    refine dr_getI x28 dX11_mark_48 fl_RX11_62 e29 ?_
    refine dr_iconst (1 : Int32) dX11_mark_51 (by decide) ?_
    refine dr_iadd dX11_mark_52 ?_
    obtain ⟨μ30, e31, h⟩ := dtBind h
    refine dr_putI μ30 dX11_mark_53 fl_RX11_62 rfl e31 ?_
    refine dr_aload_n p0 dX11_mark_56 rfl ?_
    refine dr_aload_n p0 dX11_mark_57 rfl ?_
    obtain ⟨x32, e33, h⟩ := dtBind h
    refine dr_getI x32 dX11_mark_58 fl_RX11_62 e33 ?_
    obtain ⟨_, hb34, h⟩ := dtBind h
    obtain ⟨x37, μ35, e36, h⟩ := dtCall h
    refine dr_callV_i (S0 := []) [.int x32] x37 μ35 dX11_mark_61 (c_X11_answer p0 x32 μ30 e36) mf_X11_answer wt_764 ws_19 wt_762 rfl (dtRv hb34) (by decide) rfl (Nat.le_of_ble_eq_true rfl) (Nat.le_of_ble_eq_true rfl) rfl ?_
    cases h
    exact dr_ireturn dX11_mark_64 rfl
  · have h := hf5 hc3
    refine dr_aload_n p0 dX11_mark_8 rfl ?_
    refine dr_iconst (4 : Int32) dX11_mark_9 (by decide) ?_
    obtain ⟨_, hb38, h⟩ := dtBind h
    obtain ⟨x41, μ39, e40, h⟩ := dtCall h
    refine dr_callV_i (S0 := []) [.int (4 : Int32)] x41 μ39 dX11_mark_10 (c_X11_fail p0 (4 : Int32) μ e40) mf_X11_fail wt_510 ws_3 wt_508 rfl (dtRv hb38) (by decide) rfl (Nat.le_of_ble_eq_true rfl) (Nat.le_of_ble_eq_true rfl) rfl ?_
    cases h
    exact dr_ireturn dX11_mark_13 rfl
/-! X11_undo -/
theorem dX11_undo_0 : decode cX11_undo 0 = .ok (.aload_n 0, 1) := by decide +kernel
theorem dX11_undo_1 : decode cX11_undo 1 = .ok (.getfield 62, 3) := by decide +kernel
theorem dX11_undo_4 : decode cX11_undo 4 = .ok (.ifCond .gt 10, 3) := by decide +kernel
theorem dX11_undo_7 : decode cX11_undo 7 = .ok (.aload_n 0, 1) := by decide +kernel
theorem dX11_undo_8 : decode cX11_undo 8 = .ok (.bipush 6, 2) := by decide +kernel
theorem dX11_undo_10 : decode cX11_undo 10 = .ok (.invokevirtual 138, 3) := by decide +kernel
theorem dX11_undo_13 : decode cX11_undo 13 = .ok (.ireturn, 1) := by decide +kernel
theorem dX11_undo_14 : decode cX11_undo 14 = .ok (.aload_n 0, 1) := by decide +kernel
theorem dX11_undo_15 : decode cX11_undo 15 = .ok (.dup, 1) := by decide +kernel
theorem dX11_undo_16 : decode cX11_undo 16 = .ok (.getfield 62, 3) := by decide +kernel
theorem dX11_undo_19 : decode cX11_undo 19 = .ok (.iconst 1, 1) := by decide +kernel
theorem dX11_undo_20 : decode cX11_undo 20 = .ok (.isub, 1) := by decide +kernel
theorem dX11_undo_21 : decode cX11_undo 21 = .ok (.putfield 62, 3) := by decide +kernel
theorem dX11_undo_24 : decode cX11_undo 24 = .ok (.aload_n 0, 1) := by decide +kernel
theorem dX11_undo_25 : decode cX11_undo 25 = .ok (.getfield 37, 3) := by decide +kernel
theorem dX11_undo_28 : decode cX11_undo 28 = .ok (.aload_n 0, 1) := by decide +kernel
theorem dX11_undo_29 : decode cX11_undo 29 = .ok (.getfield 54, 3) := by decide +kernel
theorem dX11_undo_32 : decode cX11_undo 32 = .ok (.aload_n 0, 1) := by decide +kernel
theorem dX11_undo_33 : decode cX11_undo 33 = .ok (.getfield 62, 3) := by decide +kernel
theorem dX11_undo_36 : decode cX11_undo 36 = .ok (.aaload, 1) := by decide +kernel
theorem dX11_undo_37 : decode cX11_undo 37 = .ok (.invokevirtual 428, 3) := by decide +kernel
theorem dX11_undo_40 : decode cX11_undo 40 = .ok (.aload_n 0, 1) := by decide +kernel
theorem dX11_undo_41 : decode cX11_undo 41 = .ok (.getfield 47, 3) := by decide +kernel
theorem dX11_undo_44 : decode cX11_undo 44 = .ok (.aload_n 0, 1) := by decide +kernel
theorem dX11_undo_45 : decode cX11_undo 45 = .ok (.getfield 58, 3) := by decide +kernel
theorem dX11_undo_48 : decode cX11_undo 48 = .ok (.aload_n 0, 1) := by decide +kernel
theorem dX11_undo_49 : decode cX11_undo 49 = .ok (.getfield 62, 3) := by decide +kernel
theorem dX11_undo_52 : decode cX11_undo 52 = .ok (.aaload, 1) := by decide +kernel
theorem dX11_undo_53 : decode cX11_undo 53 = .ok (.invokevirtual 432, 3) := by decide +kernel
theorem dX11_undo_56 : decode cX11_undo 56 = .ok (.aload_n 0, 1) := by decide +kernel
theorem dX11_undo_57 : decode cX11_undo 57 = .ok (.aload_n 0, 1) := by decide +kernel
theorem dX11_undo_58 : decode cX11_undo 58 = .ok (.getfield 62, 3) := by decide +kernel
theorem dX11_undo_61 : decode cX11_undo 61 = .ok (.invokevirtual 192, 3) := by decide +kernel
theorem dX11_undo_64 : decode cX11_undo 64 = .ok (.ireturn, 1) := by decide +kernel
set_option maxRecDepth 100000 in
def f_X11_undo (p0 : Nat) (μ : dtM) : Option (Int32 × dtM) :=
  (opGI 11 11 μ p0).bind fun x1 => if 0 < x1 then ((opGI 11 11 μ p0).bind fun x6 => (opPI 11 11 μ p0 (x6 - (1 : Int32))).bind fun μ8 => (opGR 11 5 μ8 p0).bind fun x10 => (opGR 11 9 μ8 p0).bind fun x12 => (opGI 11 11 μ8 p0).bind fun x14 => (opLR 5 μ8 x12 x14).bind fun x16 => (opRv 3 μ8 x10).bind fun _ => (f_X3_copyFrom x10 x16 μ8).bind fun μ19 => (opGR 11 7 μ19 p0).bind fun x21 => (opGR 11 10 μ19 p0).bind fun x23 => (opGI 11 11 μ19 p0).bind fun x25 => (opLR 6 μ19 x23 x25).bind fun x27 => (opRv 0 μ19 x21).bind fun _ => (f_X0_copyFrom x21 x27 μ19).bind fun μ30 => (opGI 11 11 μ30 p0).bind fun x32 => (opRv 11 μ30 p0).bind fun _ => opCall (f_X11_answer p0 x32 μ30) fun x37 μ35 => some (x37, μ35)) else ((opRv 11 μ p0).bind fun _ => opCall (f_X11_fail p0 (6 : Int32) μ) fun x41 μ39 => some (x41, μ39))
set_option maxRecDepth 100000 in
theorem c_X11_undo {r : Int32} {F : dtM} (p0 : Nat) (μ : dtM) (h : f_X11_undo p0 μ = some (r, F)) : dtMet yX11_undo cX11_undo 1 (some .int) 2 [.ref p0] μ (some (.int r)) F := by
  refine dtMet.of (by decide +kernel) (Nat.le_of_ble_eq_true rfl) (show dtW yX11_undo cX11_undo 1 (some .int) 2 (some (.int r)) F 0 [some (.ref p0)] [] μ from ?_)
  rw [f_X11_undo] at h
  refine dr_aload_n p0 dX11_undo_0 rfl ?_
  obtain ⟨x1, e2, h⟩ := dtBind h
  refine dr_getI x1 dX11_undo_1 fl_RX11_62 e2 ?_
  obtain ⟨ht4, hf5⟩ := dtIte h
  refine dr_if_gt 14 dX11_undo_4 (by decide) (fun hc3 => ?_) (fun hc3 => ?_)
  · have h := ht4 hc3
    refine dr_aload_n p0 dX11_undo_14 rfl ?_
    refine dr_dup dX11_undo_15 rfl ?_
    obtain ⟨x6, e7, h⟩ := dtBind h
    refine dr_getI x6 dX11_undo_16 fl_RX11_62 e7 ?_
    refine dr_iconst (1 : Int32) dX11_undo_19 (by decide) ?_
    refine dr_isub dX11_undo_20 ?_
    obtain ⟨μ8, e9, h⟩ := dtBind h
    refine dr_putI μ8 dX11_undo_21 fl_RX11_62 rfl e9 ?_
    refine dr_aload_n p0 dX11_undo_24 rfl ?_
    obtain ⟨x10, e11, h⟩ := dtBind h
    refine dr_getR x10 dX11_undo_25 fl_RX11_37 e11 ?_
    refine dr_aload_n p0 dX11_undo_28 rfl ?_
    obtain ⟨x12, e13, h⟩ := dtBind h
    refine dr_getR x12 dX11_undo_29 fl_RX11_54 e13 ?_
    refine dr_aload_n p0 dX11_undo_32 rfl ?_
    obtain ⟨x14, e15, h⟩ := dtBind h
    refine dr_getI x14 dX11_undo_33 fl_RX11_62 e15 ?_
    obtain ⟨x16, e17, h⟩ := dtBind h
    refine dr_aaload5 x16 dX11_undo_36 e17 ?_
    obtain ⟨_, hb18, h⟩ := dtBind h
    obtain ⟨μ19, e20, h⟩ := dtBind h
    refine dr_callV_v (S0 := []) [.ref x16] μ19 dX11_undo_37 (c_X3_copyFrom x10 x16 μ8 e20) mf_X3_copyFrom wt_1320 wt_1321 wt_1319 rfl (dtRv hb18) (by decide) rfl (Nat.le_of_ble_eq_true rfl) (Nat.le_of_ble_eq_true rfl) rfl ?_
    refine dr_aload_n p0 dX11_undo_40 rfl ?_
    obtain ⟨x21, e22, h⟩ := dtBind h
    refine dr_getR x21 dX11_undo_41 fl_RX11_47 e22 ?_
    refine dr_aload_n p0 dX11_undo_44 rfl ?_
    obtain ⟨x23, e24, h⟩ := dtBind h
    refine dr_getR x23 dX11_undo_45 fl_RX11_58 e24 ?_
    refine dr_aload_n p0 dX11_undo_48 rfl ?_
    obtain ⟨x25, e26, h⟩ := dtBind h
    refine dr_getI x25 dX11_undo_49 fl_RX11_62 e26 ?_
    obtain ⟨x27, e28, h⟩ := dtBind h
    refine dr_aaload6 x27 dX11_undo_52 e28 ?_
    obtain ⟨_, hb29, h⟩ := dtBind h
    obtain ⟨μ30, e31, h⟩ := dtBind h
    refine dr_callV_v (S0 := []) [.ref x27] μ30 dX11_undo_53 (c_X0_copyFrom x21 x27 μ19 e31) mf_X0_copyFrom wt_1329 wt_1330 wt_1328 rfl (dtRv hb29) (by decide) rfl (Nat.le_of_ble_eq_true rfl) (Nat.le_of_ble_eq_true rfl) rfl ?_
    refine dr_aload_n p0 dX11_undo_56 rfl ?_
    refine dr_aload_n p0 dX11_undo_57 rfl ?_
    obtain ⟨x32, e33, h⟩ := dtBind h
    refine dr_getI x32 dX11_undo_58 fl_RX11_62 e33 ?_
    obtain ⟨_, hb34, h⟩ := dtBind h
    obtain ⟨x37, μ35, e36, h⟩ := dtCall h
    refine dr_callV_i (S0 := []) [.int x32] x37 μ35 dX11_undo_61 (c_X11_answer p0 x32 μ30 e36) mf_X11_answer wt_764 ws_19 wt_762 rfl (dtRv hb34) (by decide) rfl (Nat.le_of_ble_eq_true rfl) (Nat.le_of_ble_eq_true rfl) rfl ?_
    cases h
    exact dr_ireturn dX11_undo_64 rfl
  · have h := hf5 hc3
    refine dr_aload_n p0 dX11_undo_7 rfl ?_
    refine dr_bipush (6 : Int32) dX11_undo_8 (by decide) ?_
    obtain ⟨_, hb38, h⟩ := dtBind h
    obtain ⟨x41, μ39, e40, h⟩ := dtCall h
    refine dr_callV_i (S0 := []) [.int (6 : Int32)] x41 μ39 dX11_undo_10 (c_X11_fail p0 (6 : Int32) μ e40) mf_X11_fail wt_510 ws_3 wt_508 rfl (dtRv hb38) (by decide) rfl (Nat.le_of_ble_eq_true rfl) (Nat.le_of_ble_eq_true rfl) rfl ?_
    cases h
    exact dr_ireturn dX11_undo_13 rfl
/-! X12_plain -/
theorem dX12_plain_0 : decode cX12_plain 0 = .ok (.iconst 0, 1) := by decide +kernel
theorem dX12_plain_1 : decode cX12_plain 1 = .ok (.istore_n 2, 1) := by decide +kernel
theorem dX12_plain_2 : decode cX12_plain 2 = .ok (.iload_n 2, 1) := by decide +kernel
theorem dX12_plain_3 : decode cX12_plain 3 = .ok (.sipush 504, 3) := by decide +kernel
theorem dX12_plain_6 : decode cX12_plain 6 = .ok (.if_icmp .ge 18, 3) := by decide +kernel
theorem dX12_plain_9 : decode cX12_plain 9 = .ok (.aload_n 0, 1) := by decide +kernel
theorem dX12_plain_10 : decode cX12_plain 10 = .ok (.getfield 7, 3) := by decide +kernel
theorem dX12_plain_13 : decode cX12_plain 13 = .ok (.iload_n 1, 1) := by decide +kernel
theorem dX12_plain_14 : decode cX12_plain 14 = .ok (.iload_n 2, 1) := by decide +kernel
theorem dX12_plain_15 : decode cX12_plain 15 = .ok (.iadd, 1) := by decide +kernel
theorem dX12_plain_16 : decode cX12_plain 16 = .ok (.iconst 0, 1) := by decide +kernel
theorem dX12_plain_17 : decode cX12_plain 17 = .ok (.iastore, 1) := by decide +kernel
theorem dX12_plain_18 : decode cX12_plain 18 = .ok (.iinc 2 1, 3) := by decide +kernel
theorem dX12_plain_21 : decode cX12_plain 21 = .ok (.goto (-19), 3) := by decide +kernel
theorem dX12_plain_24 : decode cX12_plain 24 = .ok (.aload_n 0, 1) := by decide +kernel
theorem dX12_plain_25 : decode cX12_plain 25 = .ok (.getfield 7, 3) := by decide +kernel
theorem dX12_plain_28 : decode cX12_plain 28 = .ok (.iload_n 1, 1) := by decide +kernel
theorem dX12_plain_29 : decode cX12_plain 29 = .ok (.iconst 4, 1) := by decide +kernel
theorem dX12_plain_30 : decode cX12_plain 30 = .ok (.iadd, 1) := by decide +kernel
theorem dX12_plain_31 : decode cX12_plain 31 = .ok (.iconst 4, 1) := by decide +kernel
theorem dX12_plain_32 : decode cX12_plain 32 = .ok (.iastore, 1) := by decide +kernel
theorem dX12_plain_33 : decode cX12_plain 33 = .ok (.aload_n 0, 1) := by decide +kernel
theorem dX12_plain_34 : decode cX12_plain 34 = .ok (.getfield 7, 3) := by decide +kernel
theorem dX12_plain_37 : decode cX12_plain 37 = .ok (.iload_n 1, 1) := by decide +kernel
theorem dX12_plain_38 : decode cX12_plain 38 = .ok (.bipush 7, 2) := by decide +kernel
theorem dX12_plain_40 : decode cX12_plain 40 = .ok (.iadd, 1) := by decide +kernel
theorem dX12_plain_41 : decode cX12_plain 41 = .ok (.iconst (-1), 1) := by decide +kernel
theorem dX12_plain_42 : decode cX12_plain 42 = .ok (.iastore, 1) := by decide +kernel
theorem dX12_plain_43 : decode cX12_plain 43 = .ok (.return_, 1) := by decide +kernel
set_option maxRecDepth 100000 in
def f_X12_plain_2 : Nat → Nat → Int32 → Int32 → dtM → Option dtM
  | 0, _, _, _, _ => none
  | n + 1, l0, l1, l2, μ =>
    if (504 : Int32) ≤ l2 then ((opGR 12 0 μ l0).bind fun x4 => (opSI μ x4 (l1 + (4 : Int32)) (4 : Int32)).bind fun μ6 => (opGR 12 0 μ6 l0).bind fun x8 => (opSI μ6 x8 (l1 + (7 : Int32)) (-1 : Int32)).bind fun μ10 => some μ10) else ((opGR 12 0 μ l0).bind fun x12 => (opSI μ x12 (l1 + l2) (0 : Int32)).bind fun μ14 => f_X12_plain_2 n l0 l1 (l2 + 1) μ14)
set_option maxRecDepth 100000 in
def f_X12_plain (p0 : Nat) (p1 : Int32) (μ : dtM) : Option dtM :=
  f_X12_plain_2 dtFuel p0 p1 (0 : Int32) μ
set_option maxRecDepth 100000 in
theorem c_X12_plain_2 {F : dtM} : ∀ (n : Nat) (l0 : Nat) (l1 : Int32) (l2 : Int32) (μ : dtM), f_X12_plain_2 n l0 l1 l2 μ = some F → dtW yX12_plain cX12_plain 3 (none) 1 (none) F 2 [some (.ref l0), some (.int l1), some (.int l2)] [] μ := by
  intro n
  induction n with
  | zero => intro l0 l1 l2 μ h; cases h
  | succ n ih =>
    intro l0 l1 l2 μ h
    have h := (show f_X12_plain_2 (n + 1) l0 l1 l2 μ = some _ from h)
    rw [f_X12_plain_2] at h
    refine dr_iload_n l2 dX12_plain_2 rfl ?_
    refine dr_sipush (504 : Int32) dX12_plain_3 (by decide) ?_
    obtain ⟨ht2, hf3⟩ := dtIte h
    refine dr_icmp_ge 24 dX12_plain_6 (by decide) (fun hc1 => ?_) (fun hc1 => ?_)
    · have h := ht2 hc1
      refine dr_aload_n l0 dX12_plain_24 rfl ?_
      obtain ⟨x4, e5, h⟩ := dtBind h
      refine dr_getR x4 dX12_plain_25 fl_RX12_7 e5 ?_
      refine dr_iload_n l1 dX12_plain_28 rfl ?_
      refine dr_iconst (4 : Int32) dX12_plain_29 (by decide) ?_
      refine dr_iadd dX12_plain_30 ?_
      refine dr_iconst (4 : Int32) dX12_plain_31 (by decide) ?_
      obtain ⟨μ6, e7, h⟩ := dtBind h
      refine dr_iastore μ6 dX12_plain_32 e7 ?_
      refine dr_aload_n l0 dX12_plain_33 rfl ?_
      obtain ⟨x8, e9, h⟩ := dtBind h
      refine dr_getR x8 dX12_plain_34 fl_RX12_7 e9 ?_
      refine dr_iload_n l1 dX12_plain_37 rfl ?_
      refine dr_bipush (7 : Int32) dX12_plain_38 (by decide) ?_
      refine dr_iadd dX12_plain_40 ?_
      refine dr_iconst (-1 : Int32) dX12_plain_41 (by decide) ?_
      obtain ⟨μ10, e11, h⟩ := dtBind h
      refine dr_iastore μ10 dX12_plain_42 e11 ?_
      cases h
      exact dr_return dX12_plain_43
    · have h := hf3 hc1
      refine dr_aload_n l0 dX12_plain_9 rfl ?_
      obtain ⟨x12, e13, h⟩ := dtBind h
      refine dr_getR x12 dX12_plain_10 fl_RX12_7 e13 ?_
      refine dr_iload_n l1 dX12_plain_13 rfl ?_
      refine dr_iload_n l2 dX12_plain_14 rfl ?_
      refine dr_iadd dX12_plain_15 ?_
      refine dr_iconst (0 : Int32) dX12_plain_16 (by decide) ?_
      obtain ⟨μ14, e15, h⟩ := dtBind h
      refine dr_iastore μ14 dX12_plain_17 e15 ?_
      refine dr_iinc l2 (l2 + 1) [some (.ref l0), some (.int l1), some (.int (l2 + 1))] dX12_plain_18 rfl rfl rfl rfl rfl ?_
      refine dr_goto 2 dX12_plain_21 (by decide) ?_
      exact ih l0 l1 (l2 + 1) μ14 h
set_option maxRecDepth 100000 in
theorem c_X12_plain {F : dtM} (p0 : Nat) (p1 : Int32) (μ : dtM) (h : f_X12_plain p0 p1 μ = some F) : dtMet yX12_plain cX12_plain 3 (none) 1 [.ref p0, .int p1] μ (none) F := by
  refine dtMet.of (by decide +kernel) (Nat.le_of_ble_eq_true rfl) (show dtW yX12_plain cX12_plain 3 (none) 1 (none) F 0 [some (.ref p0), some (.int p1)] [] μ from ?_)
  rw [f_X12_plain] at h
  refine dr_iconst (0 : Int32) dX12_plain_0 (by decide) ?_
  refine dr_istore_n 2 [some (.ref p0), some (.int p1), some (.int (0 : Int32))] dX12_plain_1 rfl rfl rfl rfl ?_
  exact c_X12_plain_2 dtFuel p0 p1 (0 : Int32) μ h
/-! X12_init -/
theorem dX12_init_0 : decode cX12_init 0 = .ok (.aload_n 0, 1) := by decide +kernel
theorem dX12_init_1 : decode cX12_init 1 = .ok (.invokespecial 1, 3) := by decide +kernel
theorem dX12_init_4 : decode cX12_init 4 = .ok (.aload_n 0, 1) := by decide +kernel
theorem dX12_init_5 : decode cX12_init 5 = .ok (.sipush 2656, 3) := by decide +kernel
theorem dX12_init_8 : decode cX12_init 8 = .ok (.newarray .int, 2) := by decide +kernel
theorem dX12_init_10 : decode cX12_init 10 = .ok (.putfield 7, 3) := by decide +kernel
theorem dX12_init_13 : decode cX12_init 13 = .ok (.aload_n 0, 1) := by decide +kernel
theorem dX12_init_14 : decode cX12_init 14 = .ok (.bipush 114, 2) := by decide +kernel
theorem dX12_init_16 : decode cX12_init 16 = .ok (.newarray .long, 2) := by decide +kernel
theorem dX12_init_18 : decode cX12_init 18 = .ok (.putfield 13, 3) := by decide +kernel
theorem dX12_init_21 : decode cX12_init 21 = .ok (.aload_n 0, 1) := by decide +kernel
theorem dX12_init_22 : decode cX12_init 22 = .ok (.lconst 1, 1) := by decide +kernel
theorem dX12_init_23 : decode cX12_init 23 = .ok (.putfield 17, 3) := by decide +kernel
theorem dX12_init_26 : decode cX12_init 26 = .ok (.aload_n 0, 1) := by decide +kernel
theorem dX12_init_27 : decode cX12_init 27 = .ok (.iconst 4, 1) := by decide +kernel
theorem dX12_init_28 : decode cX12_init 28 = .ok (.newarray .int, 2) := by decide +kernel
theorem dX12_init_30 : decode cX12_init 30 = .ok (.putfield 21, 3) := by decide +kernel
theorem dX12_init_33 : decode cX12_init 33 = .ok (.aload_n 0, 1) := by decide +kernel
theorem dX12_init_34 : decode cX12_init 34 = .ok (.iconst 4, 1) := by decide +kernel
theorem dX12_init_35 : decode cX12_init 35 = .ok (.newarray .int, 2) := by decide +kernel
theorem dX12_init_37 : decode cX12_init 37 = .ok (.dup, 1) := by decide +kernel
theorem dX12_init_38 : decode cX12_init 38 = .ok (.iconst 0, 1) := by decide +kernel
theorem dX12_init_39 : decode cX12_init 39 = .ok (.iconst (-1), 1) := by decide +kernel
theorem dX12_init_40 : decode cX12_init 40 = .ok (.iastore, 1) := by decide +kernel
theorem dX12_init_41 : decode cX12_init 41 = .ok (.dup, 1) := by decide +kernel
theorem dX12_init_42 : decode cX12_init 42 = .ok (.iconst 1, 1) := by decide +kernel
theorem dX12_init_43 : decode cX12_init 43 = .ok (.iconst (-1), 1) := by decide +kernel
theorem dX12_init_44 : decode cX12_init 44 = .ok (.iastore, 1) := by decide +kernel
theorem dX12_init_45 : decode cX12_init 45 = .ok (.dup, 1) := by decide +kernel
theorem dX12_init_46 : decode cX12_init 46 = .ok (.iconst 2, 1) := by decide +kernel
theorem dX12_init_47 : decode cX12_init 47 = .ok (.iconst (-1), 1) := by decide +kernel
theorem dX12_init_48 : decode cX12_init 48 = .ok (.iastore, 1) := by decide +kernel
theorem dX12_init_49 : decode cX12_init 49 = .ok (.dup, 1) := by decide +kernel
theorem dX12_init_50 : decode cX12_init 50 = .ok (.iconst 3, 1) := by decide +kernel
theorem dX12_init_51 : decode cX12_init 51 = .ok (.iconst (-1), 1) := by decide +kernel
theorem dX12_init_52 : decode cX12_init 52 = .ok (.iastore, 1) := by decide +kernel
theorem dX12_init_53 : decode cX12_init 53 = .ok (.putfield 24, 3) := by decide +kernel
theorem dX12_init_56 : decode cX12_init 56 = .ok (.aload_n 0, 1) := by decide +kernel
theorem dX12_init_57 : decode cX12_init 57 = .ok (.sipush 240, 3) := by decide +kernel
theorem dX12_init_60 : decode cX12_init 60 = .ok (.newarray .long, 2) := by decide +kernel
theorem dX12_init_62 : decode cX12_init 62 = .ok (.putfield 27, 3) := by decide +kernel
theorem dX12_init_65 : decode cX12_init 65 = .ok (.aload_n 0, 1) := by decide +kernel
theorem dX12_init_66 : decode cX12_init 66 = .ok (.sipush 900, 3) := by decide +kernel
theorem dX12_init_69 : decode cX12_init 69 = .ok (.newarray .byte, 2) := by decide +kernel
theorem dX12_init_71 : decode cX12_init 71 = .ok (.putfield 30, 3) := by decide +kernel
theorem dX12_init_74 : decode cX12_init 74 = .ok (.aload_n 0, 1) := by decide +kernel
theorem dX12_init_75 : decode cX12_init 75 = .ok (.sipush 900, 3) := by decide +kernel
theorem dX12_init_78 : decode cX12_init 78 = .ok (.newarray .byte, 2) := by decide +kernel
theorem dX12_init_80 : decode cX12_init 80 = .ok (.putfield 34, 3) := by decide +kernel
theorem dX12_init_83 : decode cX12_init 83 = .ok (.aload_n 0, 1) := by decide +kernel
theorem dX12_init_84 : decode cX12_init 84 = .ok (.iconst (-1), 1) := by decide +kernel
theorem dX12_init_85 : decode cX12_init 85 = .ok (.putfield 37, 3) := by decide +kernel
theorem dX12_init_88 : decode cX12_init 88 = .ok (.aload_n 0, 1) := by decide +kernel
theorem dX12_init_89 : decode cX12_init 89 = .ok (.iconst (-1), 1) := by decide +kernel
theorem dX12_init_90 : decode cX12_init 90 = .ok (.putfield 41, 3) := by decide +kernel
theorem dX12_init_93 : decode cX12_init 93 = .ok (.aload_n 0, 1) := by decide +kernel
theorem dX12_init_94 : decode cX12_init 94 = .ok (.iconst 3, 1) := by decide +kernel
theorem dX12_init_95 : decode cX12_init 95 = .ok (.newarray .int, 2) := by decide +kernel
theorem dX12_init_97 : decode cX12_init 97 = .ok (.putfield 44, 3) := by decide +kernel
theorem dX12_init_100 : decode cX12_init 100 = .ok (.aload_n 0, 1) := by decide +kernel
theorem dX12_init_101 : decode cX12_init 101 = .ok (.bipush 49, 2) := by decide +kernel
theorem dX12_init_103 : decode cX12_init 103 = .ok (.newarray .int, 2) := by decide +kernel
theorem dX12_init_105 : decode cX12_init 105 = .ok (.putfield 47, 3) := by decide +kernel
theorem dX12_init_108 : decode cX12_init 108 = .ok (.aload_n 0, 1) := by decide +kernel
theorem dX12_init_109 : decode cX12_init 109 = .ok (.bipush 24, 2) := by decide +kernel
theorem dX12_init_111 : decode cX12_init 111 = .ok (.newarray .int, 2) := by decide +kernel
theorem dX12_init_113 : decode cX12_init 113 = .ok (.putfield 50, 3) := by decide +kernel
theorem dX12_init_116 : decode cX12_init 116 = .ok (.aload_n 0, 1) := by decide +kernel
theorem dX12_init_117 : decode cX12_init 117 = .ok (.bipush 25, 2) := by decide +kernel
theorem dX12_init_119 : decode cX12_init 119 = .ok (.newarray .int, 2) := by decide +kernel
theorem dX12_init_121 : decode cX12_init 121 = .ok (.putfield 53, 3) := by decide +kernel
theorem dX12_init_124 : decode cX12_init 124 = .ok (.aload_n 0, 1) := by decide +kernel
theorem dX12_init_125 : decode cX12_init 125 = .ok (.bipush 7, 2) := by decide +kernel
theorem dX12_init_127 : decode cX12_init 127 = .ok (.newarray .int, 2) := by decide +kernel
theorem dX12_init_129 : decode cX12_init 129 = .ok (.putfield 56, 3) := by decide +kernel
theorem dX12_init_132 : decode cX12_init 132 = .ok (.aload_n 0, 1) := by decide +kernel
theorem dX12_init_133 : decode cX12_init 133 = .ok (.iconst 5, 1) := by decide +kernel
theorem dX12_init_134 : decode cX12_init 134 = .ok (.newarray .int, 2) := by decide +kernel
theorem dX12_init_136 : decode cX12_init 136 = .ok (.putfield 59, 3) := by decide +kernel
theorem dX12_init_139 : decode cX12_init 139 = .ok (.aload_n 0, 1) := by decide +kernel
theorem dX12_init_140 : decode cX12_init 140 = .ok (.iconst 5, 1) := by decide +kernel
theorem dX12_init_141 : decode cX12_init 141 = .ok (.newarray .int, 2) := by decide +kernel
theorem dX12_init_143 : decode cX12_init 143 = .ok (.putfield 62, 3) := by decide +kernel
theorem dX12_init_146 : decode cX12_init 146 = .ok (.aload_n 0, 1) := by decide +kernel
theorem dX12_init_147 : decode cX12_init 147 = .ok (.iconst 5, 1) := by decide +kernel
theorem dX12_init_148 : decode cX12_init 148 = .ok (.newarray .int, 2) := by decide +kernel
theorem dX12_init_150 : decode cX12_init 150 = .ok (.putfield 65, 3) := by decide +kernel
theorem dX12_init_153 : decode cX12_init 153 = .ok (.aload_n 0, 1) := by decide +kernel
theorem dX12_init_154 : decode cX12_init 154 = .ok (.iconst 5, 1) := by decide +kernel
theorem dX12_init_155 : decode cX12_init 155 = .ok (.newarray .int, 2) := by decide +kernel
theorem dX12_init_157 : decode cX12_init 157 = .ok (.putfield 68, 3) := by decide +kernel
theorem dX12_init_160 : decode cX12_init 160 = .ok (.aload_n 0, 1) := by decide +kernel
theorem dX12_init_161 : decode cX12_init 161 = .ok (.bipush 13, 2) := by decide +kernel
theorem dX12_init_163 : decode cX12_init 163 = .ok (.newarray .long, 2) := by decide +kernel
theorem dX12_init_165 : decode cX12_init 165 = .ok (.putfield 71, 3) := by decide +kernel
theorem dX12_init_168 : decode cX12_init 168 = .ok (.aload_n 0, 1) := by decide +kernel
theorem dX12_init_169 : decode cX12_init 169 = .ok (.bipush 80, 2) := by decide +kernel
theorem dX12_init_171 : decode cX12_init 171 = .ok (.newarray .int, 2) := by decide +kernel
theorem dX12_init_173 : decode cX12_init 173 = .ok (.putfield 74, 3) := by decide +kernel
theorem dX12_init_176 : decode cX12_init 176 = .ok (.aload_n 0, 1) := by decide +kernel
theorem dX12_init_177 : decode cX12_init 177 = .ok (.iconst 5, 1) := by decide +kernel
theorem dX12_init_178 : decode cX12_init 178 = .ok (.newarray .int, 2) := by decide +kernel
theorem dX12_init_180 : decode cX12_init 180 = .ok (.putfield 77, 3) := by decide +kernel
theorem dX12_init_183 : decode cX12_init 183 = .ok (.aload_n 0, 1) := by decide +kernel
theorem dX12_init_184 : decode cX12_init 184 = .ok (.iconst 5, 1) := by decide +kernel
theorem dX12_init_185 : decode cX12_init 185 = .ok (.newarray .int, 2) := by decide +kernel
theorem dX12_init_187 : decode cX12_init 187 = .ok (.putfield 80, 3) := by decide +kernel
theorem dX12_init_190 : decode cX12_init 190 = .ok (.aload_n 0, 1) := by decide +kernel
theorem dX12_init_191 : decode cX12_init 191 = .ok (.iconst 0, 1) := by decide +kernel
theorem dX12_init_192 : decode cX12_init 192 = .ok (.invokevirtual 83, 3) := by decide +kernel
theorem dX12_init_195 : decode cX12_init 195 = .ok (.return_, 1) := by decide +kernel
set_option maxRecDepth 100000 in
def f_X12_init (p0 : Nat) (μ : dtM) : Option dtM :=
  (opLt p0).bind fun _ => opCall (opNA 1 μ (2656 : Int32)) fun q2 μ3 => (opPR 12 0 μ3 p0 q2).bind fun μ5 => opCall (opNA 3 μ5 (114 : Int32)) fun q7 μ8 => (opPR 12 1 μ8 p0 q7).bind fun μ10 => (opPJ 12 4 μ10 p0 (1 : Int64)).bind fun μ12 => opCall (opNA 1 μ12 (4 : Int32)) fun q14 μ15 => (opPR 12 5 μ15 p0 q14).bind fun μ17 => opCall (opNA 1 μ17 (4 : Int32)) fun q19 μ20 => (opSI μ20 q19 (0 : Int32) (-1 : Int32)).bind fun μ22 => (opSI μ22 q19 (1 : Int32) (-1 : Int32)).bind fun μ24 => (opSI μ24 q19 (2 : Int32) (-1 : Int32)).bind fun μ26 => (opSI μ26 q19 (3 : Int32) (-1 : Int32)).bind fun μ28 => (opPR 12 6 μ28 p0 q19).bind fun μ30 => opCall (opNA 3 μ30 (240 : Int32)) fun q32 μ33 => (opPR 12 7 μ33 p0 q32).bind fun μ35 => opCall (opNA 2 μ35 (900 : Int32)) fun q37 μ38 => (opPR 12 8 μ38 p0 q37).bind fun μ40 => opCall (opNA 2 μ40 (900 : Int32)) fun q42 μ43 => (opPR 12 9 μ43 p0 q42).bind fun μ45 => (opPI 12 16 μ45 p0 (-1 : Int32)).bind fun μ47 => (opPI 12 17 μ47 p0 (-1 : Int32)).bind fun μ49 => opCall (opNA 1 μ49 (3 : Int32)) fun q51 μ52 => (opPR 12 21 μ52 p0 q51).bind fun μ54 => opCall (opNA 1 μ54 (49 : Int32)) fun q56 μ57 => (opPR 12 24 μ57 p0 q56).bind fun μ59 => opCall (opNA 1 μ59 (24 : Int32)) fun q61 μ62 => (opPR 12 25 μ62 p0 q61).bind fun μ64 => opCall (opNA 1 μ64 (25 : Int32)) fun q66 μ67 => (opPR 12 26 μ67 p0 q66).bind fun μ69 => opCall (opNA 1 μ69 (7 : Int32)) fun q71 μ72 => (opPR 12 28 μ72 p0 q71).bind fun μ74 => opCall (opNA 1 μ74 (5 : Int32)) fun q76 μ77 => (opPR 12 29 μ77 p0 q76).bind fun μ79 => opCall (opNA 1 μ79 (5 : Int32)) fun q81 μ82 => (opPR 12 30 μ82 p0 q81).bind fun μ84 => opCall (opNA 1 μ84 (5 : Int32)) fun q86 μ87 => (opPR 12 31 μ87 p0 q86).bind fun μ89 => opCall (opNA 1 μ89 (5 : Int32)) fun q91 μ92 => (opPR 12 32 μ92 p0 q91).bind fun μ94 => opCall (opNA 3 μ94 (13 : Int32)) fun q96 μ97 => (opPR 12 33 μ97 p0 q96).bind fun μ99 => opCall (opNA 1 μ99 (80 : Int32)) fun q101 μ102 => (opPR 12 36 μ102 p0 q101).bind fun μ104 => opCall (opNA 1 μ104 (5 : Int32)) fun q106 μ107 => (opPR 12 37 μ107 p0 q106).bind fun μ109 => opCall (opNA 1 μ109 (5 : Int32)) fun q111 μ112 => (opPR 12 38 μ112 p0 q111).bind fun μ114 => (opRv 12 μ114 p0).bind fun _ => (f_X12_plain p0 (0 : Int32) μ114).bind fun μ117 => some μ117
set_option maxRecDepth 100000 in
theorem c_X12_init {F : dtM} (p0 : Nat) (μ : dtM) (h : f_X12_init p0 μ = some F) : dtMet yX12_init cX12_init 1 (none) 2 [.ref p0] μ (none) F := by
  refine dtMet.of (by decide +kernel) (Nat.le_of_ble_eq_true rfl) (show dtW yX12_init cX12_init 1 (none) 2 (none) F 0 [some (.ref p0)] [] μ from ?_)
  rw [f_X12_init] at h
  refine dr_aload_n p0 dX12_init_0 rfl ?_
  obtain ⟨_, hb1, h⟩ := dtBind h
  refine dr_objInit dX12_init_1 wt_1342 wt_27 wt_28 (dtLt hb1) (Nat.le_of_ble_eq_true rfl) rfl ?_
  refine dr_aload_n p0 dX12_init_4 rfl ?_
  refine dr_sipush (2656 : Int32) dX12_init_5 (by decide) ?_
  obtain ⟨q2, μ3, e4, h⟩ := dtCall h
  refine dr_newarray_i q2 μ3 dX12_init_8 wt_192 e4 ?_
  obtain ⟨μ5, e6, h⟩ := dtBind h
  refine dr_putRF μ5 dX12_init_10 fl_RX12_7 rfl rfl rfl e6 ?_
  refine dr_aload_n p0 dX12_init_13 rfl ?_
  refine dr_bipush (114 : Int32) dX12_init_14 (by decide) ?_
  obtain ⟨q7, μ8, e9, h⟩ := dtCall h
  refine dr_newarray_l q7 μ8 dX12_init_16 wt_53 e9 ?_
  obtain ⟨μ10, e11, h⟩ := dtBind h
  refine dr_putRF μ10 dX12_init_18 fl_RX12_13 rfl rfl rfl e11 ?_
  refine dr_aload_n p0 dX12_init_21 rfl ?_
  refine dr_lconst (1 : Int64) dX12_init_22 (by decide) ?_
  obtain ⟨μ12, e13, h⟩ := dtBind h
  refine dr_putJ μ12 dX12_init_23 fl_RX12_17 rfl e13 ?_
  refine dr_aload_n p0 dX12_init_26 rfl ?_
  refine dr_iconst (4 : Int32) dX12_init_27 (by decide) ?_
  obtain ⟨q14, μ15, e16, h⟩ := dtCall h
  refine dr_newarray_i q14 μ15 dX12_init_28 wt_192 e16 ?_
  obtain ⟨μ17, e18, h⟩ := dtBind h
  refine dr_putRF μ17 dX12_init_30 fl_RX12_21 rfl rfl rfl e18 ?_
  refine dr_aload_n p0 dX12_init_33 rfl ?_
  refine dr_iconst (4 : Int32) dX12_init_34 (by decide) ?_
  obtain ⟨q19, μ20, e21, h⟩ := dtCall h
  refine dr_newarray_i q19 μ20 dX12_init_35 wt_192 e21 ?_
  refine dr_dup dX12_init_37 rfl ?_
  refine dr_iconst (0 : Int32) dX12_init_38 (by decide) ?_
  refine dr_iconst (-1 : Int32) dX12_init_39 (by decide) ?_
  obtain ⟨μ22, e23, h⟩ := dtBind h
  refine dr_iastore μ22 dX12_init_40 e23 ?_
  refine dr_dup dX12_init_41 rfl ?_
  refine dr_iconst (1 : Int32) dX12_init_42 (by decide) ?_
  refine dr_iconst (-1 : Int32) dX12_init_43 (by decide) ?_
  obtain ⟨μ24, e25, h⟩ := dtBind h
  refine dr_iastore μ24 dX12_init_44 e25 ?_
  refine dr_dup dX12_init_45 rfl ?_
  refine dr_iconst (2 : Int32) dX12_init_46 (by decide) ?_
  refine dr_iconst (-1 : Int32) dX12_init_47 (by decide) ?_
  obtain ⟨μ26, e27, h⟩ := dtBind h
  refine dr_iastore μ26 dX12_init_48 e27 ?_
  refine dr_dup dX12_init_49 rfl ?_
  refine dr_iconst (3 : Int32) dX12_init_50 (by decide) ?_
  refine dr_iconst (-1 : Int32) dX12_init_51 (by decide) ?_
  obtain ⟨μ28, e29, h⟩ := dtBind h
  refine dr_iastore μ28 dX12_init_52 e29 ?_
  obtain ⟨μ30, e31, h⟩ := dtBind h
  refine dr_putRF μ30 dX12_init_53 fl_RX12_24 rfl rfl rfl e31 ?_
  refine dr_aload_n p0 dX12_init_56 rfl ?_
  refine dr_sipush (240 : Int32) dX12_init_57 (by decide) ?_
  obtain ⟨q32, μ33, e34, h⟩ := dtCall h
  refine dr_newarray_l q32 μ33 dX12_init_60 wt_53 e34 ?_
  obtain ⟨μ35, e36, h⟩ := dtBind h
  refine dr_putRF μ35 dX12_init_62 fl_RX12_27 rfl rfl rfl e36 ?_
  refine dr_aload_n p0 dX12_init_65 rfl ?_
  refine dr_sipush (900 : Int32) dX12_init_66 (by decide) ?_
  obtain ⟨q37, μ38, e39, h⟩ := dtCall h
  refine dr_newarray_b q37 μ38 dX12_init_69 wt_77 e39 ?_
  obtain ⟨μ40, e41, h⟩ := dtBind h
  refine dr_putRF μ40 dX12_init_71 fl_RX12_30 rfl rfl rfl e41 ?_
  refine dr_aload_n p0 dX12_init_74 rfl ?_
  refine dr_sipush (900 : Int32) dX12_init_75 (by decide) ?_
  obtain ⟨q42, μ43, e44, h⟩ := dtCall h
  refine dr_newarray_b q42 μ43 dX12_init_78 wt_77 e44 ?_
  obtain ⟨μ45, e46, h⟩ := dtBind h
  refine dr_putRF μ45 dX12_init_80 fl_RX12_34 rfl rfl rfl e46 ?_
  refine dr_aload_n p0 dX12_init_83 rfl ?_
  refine dr_iconst (-1 : Int32) dX12_init_84 (by decide) ?_
  obtain ⟨μ47, e48, h⟩ := dtBind h
  refine dr_putI μ47 dX12_init_85 fl_RX12_37 rfl e48 ?_
  refine dr_aload_n p0 dX12_init_88 rfl ?_
  refine dr_iconst (-1 : Int32) dX12_init_89 (by decide) ?_
  obtain ⟨μ49, e50, h⟩ := dtBind h
  refine dr_putI μ49 dX12_init_90 fl_RX12_41 rfl e50 ?_
  refine dr_aload_n p0 dX12_init_93 rfl ?_
  refine dr_iconst (3 : Int32) dX12_init_94 (by decide) ?_
  obtain ⟨q51, μ52, e53, h⟩ := dtCall h
  refine dr_newarray_i q51 μ52 dX12_init_95 wt_192 e53 ?_
  obtain ⟨μ54, e55, h⟩ := dtBind h
  refine dr_putRF μ54 dX12_init_97 fl_RX12_44 rfl rfl rfl e55 ?_
  refine dr_aload_n p0 dX12_init_100 rfl ?_
  refine dr_bipush (49 : Int32) dX12_init_101 (by decide) ?_
  obtain ⟨q56, μ57, e58, h⟩ := dtCall h
  refine dr_newarray_i q56 μ57 dX12_init_103 wt_192 e58 ?_
  obtain ⟨μ59, e60, h⟩ := dtBind h
  refine dr_putRF μ59 dX12_init_105 fl_RX12_47 rfl rfl rfl e60 ?_
  refine dr_aload_n p0 dX12_init_108 rfl ?_
  refine dr_bipush (24 : Int32) dX12_init_109 (by decide) ?_
  obtain ⟨q61, μ62, e63, h⟩ := dtCall h
  refine dr_newarray_i q61 μ62 dX12_init_111 wt_192 e63 ?_
  obtain ⟨μ64, e65, h⟩ := dtBind h
  refine dr_putRF μ64 dX12_init_113 fl_RX12_50 rfl rfl rfl e65 ?_
  refine dr_aload_n p0 dX12_init_116 rfl ?_
  refine dr_bipush (25 : Int32) dX12_init_117 (by decide) ?_
  obtain ⟨q66, μ67, e68, h⟩ := dtCall h
  refine dr_newarray_i q66 μ67 dX12_init_119 wt_192 e68 ?_
  obtain ⟨μ69, e70, h⟩ := dtBind h
  refine dr_putRF μ69 dX12_init_121 fl_RX12_53 rfl rfl rfl e70 ?_
  refine dr_aload_n p0 dX12_init_124 rfl ?_
  refine dr_bipush (7 : Int32) dX12_init_125 (by decide) ?_
  obtain ⟨q71, μ72, e73, h⟩ := dtCall h
  refine dr_newarray_i q71 μ72 dX12_init_127 wt_192 e73 ?_
  obtain ⟨μ74, e75, h⟩ := dtBind h
  refine dr_putRF μ74 dX12_init_129 fl_RX12_56 rfl rfl rfl e75 ?_
  refine dr_aload_n p0 dX12_init_132 rfl ?_
  refine dr_iconst (5 : Int32) dX12_init_133 (by decide) ?_
  obtain ⟨q76, μ77, e78, h⟩ := dtCall h
  refine dr_newarray_i q76 μ77 dX12_init_134 wt_192 e78 ?_
  obtain ⟨μ79, e80, h⟩ := dtBind h
  refine dr_putRF μ79 dX12_init_136 fl_RX12_59 rfl rfl rfl e80 ?_
  refine dr_aload_n p0 dX12_init_139 rfl ?_
  refine dr_iconst (5 : Int32) dX12_init_140 (by decide) ?_
  obtain ⟨q81, μ82, e83, h⟩ := dtCall h
  refine dr_newarray_i q81 μ82 dX12_init_141 wt_192 e83 ?_
  obtain ⟨μ84, e85, h⟩ := dtBind h
  refine dr_putRF μ84 dX12_init_143 fl_RX12_62 rfl rfl rfl e85 ?_
  refine dr_aload_n p0 dX12_init_146 rfl ?_
  refine dr_iconst (5 : Int32) dX12_init_147 (by decide) ?_
  obtain ⟨q86, μ87, e88, h⟩ := dtCall h
  refine dr_newarray_i q86 μ87 dX12_init_148 wt_192 e88 ?_
  obtain ⟨μ89, e90, h⟩ := dtBind h
  refine dr_putRF μ89 dX12_init_150 fl_RX12_65 rfl rfl rfl e90 ?_
  refine dr_aload_n p0 dX12_init_153 rfl ?_
  refine dr_iconst (5 : Int32) dX12_init_154 (by decide) ?_
  obtain ⟨q91, μ92, e93, h⟩ := dtCall h
  refine dr_newarray_i q91 μ92 dX12_init_155 wt_192 e93 ?_
  obtain ⟨μ94, e95, h⟩ := dtBind h
  refine dr_putRF μ94 dX12_init_157 fl_RX12_68 rfl rfl rfl e95 ?_
  refine dr_aload_n p0 dX12_init_160 rfl ?_
  refine dr_bipush (13 : Int32) dX12_init_161 (by decide) ?_
  obtain ⟨q96, μ97, e98, h⟩ := dtCall h
  refine dr_newarray_l q96 μ97 dX12_init_163 wt_53 e98 ?_
  obtain ⟨μ99, e100, h⟩ := dtBind h
  refine dr_putRF μ99 dX12_init_165 fl_RX12_71 rfl rfl rfl e100 ?_
  refine dr_aload_n p0 dX12_init_168 rfl ?_
  refine dr_bipush (80 : Int32) dX12_init_169 (by decide) ?_
  obtain ⟨q101, μ102, e103, h⟩ := dtCall h
  refine dr_newarray_i q101 μ102 dX12_init_171 wt_192 e103 ?_
  obtain ⟨μ104, e105, h⟩ := dtBind h
  refine dr_putRF μ104 dX12_init_173 fl_RX12_74 rfl rfl rfl e105 ?_
  refine dr_aload_n p0 dX12_init_176 rfl ?_
  refine dr_iconst (5 : Int32) dX12_init_177 (by decide) ?_
  obtain ⟨q106, μ107, e108, h⟩ := dtCall h
  refine dr_newarray_i q106 μ107 dX12_init_178 wt_192 e108 ?_
  obtain ⟨μ109, e110, h⟩ := dtBind h
  refine dr_putRF μ109 dX12_init_180 fl_RX12_77 rfl rfl rfl e110 ?_
  refine dr_aload_n p0 dX12_init_183 rfl ?_
  refine dr_iconst (5 : Int32) dX12_init_184 (by decide) ?_
  obtain ⟨q111, μ112, e113, h⟩ := dtCall h
  refine dr_newarray_i q111 μ112 dX12_init_185 wt_192 e113 ?_
  obtain ⟨μ114, e115, h⟩ := dtBind h
  refine dr_putRF μ114 dX12_init_187 fl_RX12_80 rfl rfl rfl e115 ?_
  refine dr_aload_n p0 dX12_init_190 rfl ?_
  refine dr_iconst (0 : Int32) dX12_init_191 (by decide) ?_
  obtain ⟨_, hb116, h⟩ := dtBind h
  obtain ⟨μ117, e118, h⟩ := dtBind h
  refine dr_callV_v (S0 := []) [.int (0 : Int32)] μ117 dX12_init_192 (c_X12_plain p0 (0 : Int32) μ114 e118) mf_X12_plain wt_1345 ws_52 wt_1343 rfl (dtRv hb116) (by decide) rfl (Nat.le_of_ble_eq_true rfl) (Nat.le_of_ble_eq_true rfl) rfl ?_
  cases h
  exact dr_return dX12_init_195
/-! X12_status -/
theorem dX12_status_0 : decode cX12_status 0 = .ok (.aload_n 0, 1) := by decide +kernel
theorem dX12_status_1 : decode cX12_status 1 = .ok (.getfield 87, 3) := by decide +kernel
theorem dX12_status_4 : decode cX12_status 4 = .ok (.ireturn, 1) := by decide +kernel
set_option maxRecDepth 100000 in
def f_X12_status (p0 : Nat) (μ : dtM) : Option (Int32 × dtM) :=
  (opGI 12 2 μ p0).bind fun x1 => some (x1, μ)
set_option maxRecDepth 100000 in
theorem c_X12_status {r : Int32} {F : dtM} (p0 : Nat) (μ : dtM) (h : f_X12_status p0 μ = some (r, F)) : dtMet yX12_status cX12_status 1 (some .int) 1 [.ref p0] μ (some (.int r)) F := by
  refine dtMet.of (by decide +kernel) (Nat.le_of_ble_eq_true rfl) (show dtW yX12_status cX12_status 1 (some .int) 1 (some (.int r)) F 0 [some (.ref p0)] [] μ from ?_)
  rw [f_X12_status] at h
  refine dr_aload_n p0 dX12_status_0 rfl ?_
  obtain ⟨x1, e2, h⟩ := dtBind h
  refine dr_getI x1 dX12_status_1 fl_RX12_87 e2 ?_
  cases h
  exact dr_ireturn dX12_status_4 rfl
/-! X12_top -/
theorem dX12_top_0 : decode cX12_top 0 = .ok (.aload_n 0, 1) := by decide +kernel
theorem dX12_top_1 : decode cX12_top 1 = .ok (.getfield 90, 3) := by decide +kernel
theorem dX12_top_4 : decode cX12_top 4 = .ok (.lreturn, 1) := by decide +kernel
set_option maxRecDepth 100000 in
def f_X12_top (p0 : Nat) (μ : dtM) : Option (Int64 × dtM) :=
  (opGJ 12 3 μ p0).bind fun x1 => some (x1, μ)
set_option maxRecDepth 100000 in
theorem c_X12_top {r : Int64} {F : dtM} (p0 : Nat) (μ : dtM) (h : f_X12_top p0 μ = some (r, F)) : dtMet yX12_top cX12_top 1 (some .long) 1 [.ref p0] μ (some (.long r)) F := by
  refine dtMet.of (by decide +kernel) (Nat.le_of_ble_eq_true rfl) (show dtW yX12_top cX12_top 1 (some .long) 1 (some (.long r)) F 0 [some (.ref p0)] [] μ from ?_)
  rw [f_X12_top] at h
  refine dr_aload_n p0 dX12_top_0 rfl ?_
  obtain ⟨x1, e2, h⟩ := dtBind h
  refine dr_getJ x1 dX12_top_1 fl_RX12_90 e2 ?_
  cases h
  exact dr_lreturn dX12_top_4
/-! X12_bottom -/
theorem dX12_bottom_0 : decode cX12_bottom 0 = .ok (.aload_n 0, 1) := by decide +kernel
theorem dX12_bottom_1 : decode cX12_bottom 1 = .ok (.getfield 17, 3) := by decide +kernel
theorem dX12_bottom_4 : decode cX12_bottom 4 = .ok (.lreturn, 1) := by decide +kernel
set_option maxRecDepth 100000 in
def f_X12_bottom (p0 : Nat) (μ : dtM) : Option (Int64 × dtM) :=
  (opGJ 12 4 μ p0).bind fun x1 => some (x1, μ)
set_option maxRecDepth 100000 in
theorem c_X12_bottom {r : Int64} {F : dtM} (p0 : Nat) (μ : dtM) (h : f_X12_bottom p0 μ = some (r, F)) : dtMet yX12_bottom cX12_bottom 1 (some .long) 1 [.ref p0] μ (some (.long r)) F := by
  refine dtMet.of (by decide +kernel) (Nat.le_of_ble_eq_true rfl) (show dtW yX12_bottom cX12_bottom 1 (some .long) 1 (some (.long r)) F 0 [some (.ref p0)] [] μ from ?_)
  rw [f_X12_bottom] at h
  refine dr_aload_n p0 dX12_bottom_0 rfl ?_
  obtain ⟨x1, e2, h⟩ := dtBind h
  refine dr_getJ x1 dX12_bottom_1 fl_RX12_17 e2 ?_
  cases h
  exact dr_lreturn dX12_bottom_4
/-! X12_is -/
theorem dX12_is_0 : decode cX12_is 0 = .ok (.aload_n 0, 1) := by decide +kernel
theorem dX12_is_1 : decode cX12_is 1 = .ok (.iload_n 1, 1) := by decide +kernel
theorem dX12_is_2 : decode cX12_is 2 = .ok (.putfield 87, 3) := by decide +kernel
theorem dX12_is_5 : decode cX12_is 5 = .ok (.iload_n 1, 1) := by decide +kernel
theorem dX12_is_6 : decode cX12_is 6 = .ok (.ifCond .ne 7, 3) := by decide +kernel
theorem dX12_is_9 : decode cX12_is 9 = .ok (.iconst 1, 1) := by decide +kernel
theorem dX12_is_10 : decode cX12_is 10 = .ok (.goto 4, 3) := by decide +kernel
theorem dX12_is_13 : decode cX12_is 13 = .ok (.iconst 0, 1) := by decide +kernel
theorem dX12_is_14 : decode cX12_is 14 = .ok (.ireturn, 1) := by decide +kernel
set_option maxRecDepth 100000 in
def f_X12_is_14 (s0 : Int32) (μ : dtM) : Option (Int32 × dtM) :=
  opRet s0 μ
set_option maxRecDepth 100000 in
def f_X12_is (p0 : Nat) (p1 : Int32) (μ : dtM) : Option (Int32 × dtM) :=
  (opPI 12 2 μ p0 p1).bind fun μ1 => if p1 = 0 then (f_X12_is_14 (1 : Int32) μ1) else (f_X12_is_14 (0 : Int32) μ1)
set_option maxRecDepth 100000 in
theorem c_X12_is_14 {r : Int32} {F : dtM} (s0 : Int32) (μ : dtM) (h : f_X12_is_14 s0 μ = some (r, F)) : dtW yX12_is cX12_is 2 (some .boolean) 1 (some (.int r)) F 14 [] [.int s0] μ := by
  rw [f_X12_is_14] at h
  obtain ⟨hz, rfl, rfl⟩ := dtRet h
  exact dr_ireturn dX12_is_14 (dtNz hz)
set_option maxRecDepth 100000 in
theorem c_X12_is {r : Int32} {F : dtM} (p0 : Nat) (p1 : Int32) (μ : dtM) (h : f_X12_is p0 p1 μ = some (r, F)) : dtMet yX12_is cX12_is 2 (some .boolean) 1 [.ref p0, .int p1] μ (some (.int r)) F := by
  refine dtMet.of (by decide +kernel) (Nat.le_of_ble_eq_true rfl) (show dtW yX12_is cX12_is 2 (some .boolean) 1 (some (.int r)) F 0 [some (.ref p0), some (.int p1)] [] μ from ?_)
  rw [f_X12_is] at h
  refine dr_aload_n p0 dX12_is_0 rfl ?_
  refine dr_iload_n p1 dX12_is_1 rfl ?_
  obtain ⟨μ1, e2, h⟩ := dtBind h
  refine dr_putI μ1 dX12_is_2 fl_RX12_87 rfl e2 ?_
  refine dr_iload_n p1 dX12_is_5 rfl ?_
  obtain ⟨ht4, hf5⟩ := dtIte h
  refine dr_if_ne 13 dX12_is_6 (by decide) (fun hc3 => ?_) (fun hc3 => ?_)
  · have h := hf5 hc3
    refine dr_iconst (0 : Int32) dX12_is_13 (by decide) ?_
    refine dr_mask [] [] rfl ?_
    exact c_X12_is_14 (0 : Int32) μ1 h
  · have h := ht4 hc3
    refine dr_iconst (1 : Int32) dX12_is_9 (by decide) ?_
    refine dr_goto 14 dX12_is_10 (by decide) ?_
    refine dr_mask [] [] rfl ?_
    exact c_X12_is_14 (1 : Int32) μ1 h
/-! X12_refuse -/
theorem dX12_refuse_0 : decode cX12_refuse 0 = .ok (.aload_n 0, 1) := by decide +kernel
theorem dX12_refuse_1 : decode cX12_refuse 1 = .ok (.iload_n 1, 1) := by decide +kernel
theorem dX12_refuse_2 : decode cX12_refuse 2 = .ok (.putfield 87, 3) := by decide +kernel
theorem dX12_refuse_5 : decode cX12_refuse 5 = .ok (.iconst (-1), 1) := by decide +kernel
theorem dX12_refuse_6 : decode cX12_refuse 6 = .ok (.ireturn, 1) := by decide +kernel
set_option maxRecDepth 100000 in
def f_X12_refuse (p0 : Nat) (p1 : Int32) (μ : dtM) : Option (Int32 × dtM) :=
  (opPI 12 2 μ p0 p1).bind fun μ1 => some ((-1 : Int32), μ1)
set_option maxRecDepth 100000 in
theorem c_X12_refuse {r : Int32} {F : dtM} (p0 : Nat) (p1 : Int32) (μ : dtM) (h : f_X12_refuse p0 p1 μ = some (r, F)) : dtMet yX12_refuse cX12_refuse 2 (some .int) 1 [.ref p0, .int p1] μ (some (.int r)) F := by
  refine dtMet.of (by decide +kernel) (Nat.le_of_ble_eq_true rfl) (show dtW yX12_refuse cX12_refuse 2 (some .int) 1 (some (.int r)) F 0 [some (.ref p0), some (.int p1)] [] μ from ?_)
  rw [f_X12_refuse] at h
  refine dr_aload_n p0 dX12_refuse_0 rfl ?_
  refine dr_iload_n p1 dX12_refuse_1 rfl ?_
  obtain ⟨μ1, e2, h⟩ := dtBind h
  refine dr_putI μ1 dX12_refuse_2 fl_RX12_87 rfl e2 ?_
  refine dr_iconst (-1 : Int32) dX12_refuse_5 (by decide) ?_
  cases h
  exact dr_ireturn dX12_refuse_6 rfl
/-! X12_gives -/
theorem dX12_gives_0 : decode cX12_gives 0 = .ok (.aload_n 0, 1) := by decide +kernel
theorem dX12_gives_1 : decode cX12_gives 1 = .ok (.iconst 0, 1) := by decide +kernel
theorem dX12_gives_2 : decode cX12_gives 2 = .ok (.putfield 87, 3) := by decide +kernel
theorem dX12_gives_5 : decode cX12_gives 5 = .ok (.iload_n 1, 1) := by decide +kernel
theorem dX12_gives_6 : decode cX12_gives 6 = .ok (.ireturn, 1) := by decide +kernel
set_option maxRecDepth 100000 in
def f_X12_gives (p0 : Nat) (p1 : Int32) (μ : dtM) : Option (Int32 × dtM) :=
  (opPI 12 2 μ p0 (0 : Int32)).bind fun μ1 => some (p1, μ1)
set_option maxRecDepth 100000 in
theorem c_X12_gives {r : Int32} {F : dtM} (p0 : Nat) (p1 : Int32) (μ : dtM) (h : f_X12_gives p0 p1 μ = some (r, F)) : dtMet yX12_gives cX12_gives 2 (some .int) 1 [.ref p0, .int p1] μ (some (.int r)) F := by
  refine dtMet.of (by decide +kernel) (Nat.le_of_ble_eq_true rfl) (show dtW yX12_gives cX12_gives 2 (some .int) 1 (some (.int r)) F 0 [some (.ref p0), some (.int p1)] [] μ from ?_)
  rw [f_X12_gives] at h
  refine dr_aload_n p0 dX12_gives_0 rfl ?_
  refine dr_iconst (0 : Int32) dX12_gives_1 (by decide) ?_
  obtain ⟨μ1, e2, h⟩ := dtBind h
  refine dr_putI μ1 dX12_gives_2 fl_RX12_87 rfl e2 ?_
  refine dr_iload_n p1 dX12_gives_5 rfl ?_
  cases h
  exact dr_ireturn dX12_gives_6 rfl
/-! X12_orNone -/
theorem dX12_orNone_0 : decode cX12_orNone 0 = .ok (.iload_n 1, 1) := by decide +kernel
theorem dX12_orNone_1 : decode cX12_orNone 1 = .ok (.iconst (-1), 1) := by decide +kernel
theorem dX12_orNone_2 : decode cX12_orNone 2 = .ok (.if_icmp .ne 10, 3) := by decide +kernel
theorem dX12_orNone_5 : decode cX12_orNone 5 = .ok (.aload_n 0, 1) := by decide +kernel
theorem dX12_orNone_6 : decode cX12_orNone 6 = .ok (.bipush 6, 2) := by decide +kernel
theorem dX12_orNone_8 : decode cX12_orNone 8 = .ok (.invokevirtual 93, 3) := by decide +kernel
theorem dX12_orNone_11 : decode cX12_orNone 11 = .ok (.ireturn, 1) := by decide +kernel
theorem dX12_orNone_12 : decode cX12_orNone 12 = .ok (.aload_n 0, 1) := by decide +kernel
theorem dX12_orNone_13 : decode cX12_orNone 13 = .ok (.iload_n 1, 1) := by decide +kernel
theorem dX12_orNone_14 : decode cX12_orNone 14 = .ok (.invokevirtual 97, 3) := by decide +kernel
theorem dX12_orNone_17 : decode cX12_orNone 17 = .ok (.ireturn, 1) := by decide +kernel
set_option maxRecDepth 100000 in
def f_X12_orNone (p0 : Nat) (p1 : Int32) (μ : dtM) : Option (Int32 × dtM) :=
  if p1 = (-1 : Int32) then ((opRv 12 μ p0).bind fun _ => opCall (f_X12_refuse p0 (6 : Int32) μ) fun x11 μ9 => some (x11, μ9)) else ((opRv 12 μ p0).bind fun _ => opCall (f_X12_gives p0 p1 μ) fun x7 μ5 => some (x7, μ5))
set_option maxRecDepth 100000 in
theorem c_X12_orNone {r : Int32} {F : dtM} (p0 : Nat) (p1 : Int32) (μ : dtM) (h : f_X12_orNone p0 p1 μ = some (r, F)) : dtMet yX12_orNone cX12_orNone 2 (some .int) 2 [.ref p0, .int p1] μ (some (.int r)) F := by
  refine dtMet.of (by decide +kernel) (Nat.le_of_ble_eq_true rfl) (show dtW yX12_orNone cX12_orNone 2 (some .int) 2 (some (.int r)) F 0 [some (.ref p0), some (.int p1)] [] μ from ?_)
  rw [f_X12_orNone] at h
  refine dr_iload_n p1 dX12_orNone_0 rfl ?_
  refine dr_iconst (-1 : Int32) dX12_orNone_1 (by decide) ?_
  obtain ⟨ht2, hf3⟩ := dtIte h
  refine dr_icmp_ne 12 dX12_orNone_2 (by decide) (fun hc1 => ?_) (fun hc1 => ?_)
  · have h := hf3 hc1
    refine dr_aload_n p0 dX12_orNone_12 rfl ?_
    refine dr_iload_n p1 dX12_orNone_13 rfl ?_
    obtain ⟨_, hb4, h⟩ := dtBind h
    obtain ⟨x7, μ5, e6, h⟩ := dtCall h
    refine dr_callV_i (S0 := []) [.int p1] x7 μ5 dX12_orNone_14 (c_X12_gives p0 p1 μ e6) mf_X12_gives wt_1668 ws_85 wt_1666 rfl (dtRv hb4) (by decide) rfl (Nat.le_of_ble_eq_true rfl) (Nat.le_of_ble_eq_true rfl) rfl ?_
    cases h
    exact dr_ireturn dX12_orNone_17 rfl
  · have h := ht2 hc1
    refine dr_aload_n p0 dX12_orNone_5 rfl ?_
    refine dr_bipush (6 : Int32) dX12_orNone_6 (by decide) ?_
    obtain ⟨_, hb8, h⟩ := dtBind h
    obtain ⟨x11, μ9, e10, h⟩ := dtCall h
    refine dr_callV_i (S0 := []) [.int (6 : Int32)] x11 μ9 dX12_orNone_8 (c_X12_refuse p0 (6 : Int32) μ e10) mf_X12_refuse wt_1552 ws_59 wt_1550 rfl (dtRv hb8) (by decide) rfl (Nat.le_of_ble_eq_true rfl) (Nat.le_of_ble_eq_true rfl) rfl ?_
    cases h
    exact dr_ireturn dX12_orNone_11 rfl
/-! X12_tellsBy -/
theorem dX12_tellsBy_0 : decode cX12_tellsBy 0 = .ok (.lload_n 1, 1) := by decide +kernel
theorem dX12_tellsBy_1 : decode cX12_tellsBy 1 = .ok (.lstore 5, 2) := by decide +kernel
theorem dX12_tellsBy_3 : decode cX12_tellsBy 3 = .ok (.lload_n 3, 1) := by decide +kernel
theorem dX12_tellsBy_4 : decode cX12_tellsBy 4 = .ok (.lstore 7, 2) := by decide +kernel
theorem dX12_tellsBy_6 : decode cX12_tellsBy 6 = .ok (.lload 7, 2) := by decide +kernel
theorem dX12_tellsBy_8 : decode cX12_tellsBy 8 = .ok (.lconst 0, 1) := by decide +kernel
theorem dX12_tellsBy_9 : decode cX12_tellsBy 9 = .ok (.lcmp, 1) := by decide +kernel
theorem dX12_tellsBy_10 : decode cX12_tellsBy 10 = .ok (.ifCond .eq 21, 3) := by decide +kernel
theorem dX12_tellsBy_13 : decode cX12_tellsBy 13 = .ok (.lload 5, 2) := by decide +kernel
theorem dX12_tellsBy_15 : decode cX12_tellsBy 15 = .ok (.lload 7, 2) := by decide +kernel
theorem dX12_tellsBy_17 : decode cX12_tellsBy 17 = .ok (.lrem, 1) := by decide +kernel
theorem dX12_tellsBy_18 : decode cX12_tellsBy 18 = .ok (.lstore 9, 2) := by decide +kernel
theorem dX12_tellsBy_20 : decode cX12_tellsBy 20 = .ok (.lload 7, 2) := by decide +kernel
theorem dX12_tellsBy_22 : decode cX12_tellsBy 22 = .ok (.lstore 5, 2) := by decide +kernel
theorem dX12_tellsBy_24 : decode cX12_tellsBy 24 = .ok (.lload 9, 2) := by decide +kernel
theorem dX12_tellsBy_26 : decode cX12_tellsBy 26 = .ok (.lstore 7, 2) := by decide +kernel
theorem dX12_tellsBy_28 : decode cX12_tellsBy 28 = .ok (.goto (-22), 3) := by decide +kernel
theorem dX12_tellsBy_31 : decode cX12_tellsBy 31 = .ok (.aload_n 0, 1) := by decide +kernel
theorem dX12_tellsBy_32 : decode cX12_tellsBy 32 = .ok (.lload_n 1, 1) := by decide +kernel
theorem dX12_tellsBy_33 : decode cX12_tellsBy 33 = .ok (.lload 5, 2) := by decide +kernel
theorem dX12_tellsBy_35 : decode cX12_tellsBy 35 = .ok (.ldiv, 1) := by decide +kernel
theorem dX12_tellsBy_36 : decode cX12_tellsBy 36 = .ok (.putfield 90, 3) := by decide +kernel
theorem dX12_tellsBy_39 : decode cX12_tellsBy 39 = .ok (.aload_n 0, 1) := by decide +kernel
theorem dX12_tellsBy_40 : decode cX12_tellsBy 40 = .ok (.lload_n 3, 1) := by decide +kernel
theorem dX12_tellsBy_41 : decode cX12_tellsBy 41 = .ok (.lload 5, 2) := by decide +kernel
theorem dX12_tellsBy_43 : decode cX12_tellsBy 43 = .ok (.ldiv, 1) := by decide +kernel
theorem dX12_tellsBy_44 : decode cX12_tellsBy 44 = .ok (.putfield 17, 3) := by decide +kernel
theorem dX12_tellsBy_47 : decode cX12_tellsBy 47 = .ok (.aload_n 0, 1) := by decide +kernel
theorem dX12_tellsBy_48 : decode cX12_tellsBy 48 = .ok (.iconst 0, 1) := by decide +kernel
theorem dX12_tellsBy_49 : decode cX12_tellsBy 49 = .ok (.invokevirtual 100, 3) := by decide +kernel
theorem dX12_tellsBy_52 : decode cX12_tellsBy 52 = .ok (.ireturn, 1) := by decide +kernel
set_option maxRecDepth 100000 in
def f_X12_tellsBy_6 : Nat → Nat → Int64 → Int64 → Int64 → Int64 → dtM → Option (Int32 × dtM)
  | 0, _, _, _, _, _, _ => none
  | n + 1, l0, l1, l3, l5, l7, μ =>
    if (lg_cmp l7 (0 : Int64)) = 0 then ((opDivJ l1 l5).bind fun x4 => (opPJ 12 3 μ l0 x4).bind fun μ6 => (opDivJ l3 l5).bind fun x8 => (opPJ 12 4 μ6 l0 x8).bind fun μ10 => (opRv 12 μ10 l0).bind fun _ => opCall (f_X12_is l0 (0 : Int32) μ10) fun x15 μ13 => opRet x15 μ13) else ((opRemJ l5 l7).bind fun x16 => f_X12_tellsBy_6 n l0 l1 l3 l7 x16 μ)
set_option maxRecDepth 100000 in
def f_X12_tellsBy (p0 : Nat) (p1 : Int64) (p3 : Int64) (μ : dtM) : Option (Int32 × dtM) :=
  f_X12_tellsBy_6 dtFuel p0 p1 p3 p1 p3 μ
set_option maxRecDepth 100000 in
theorem c_X12_tellsBy_6 {r : Int32} {F : dtM} : ∀ (n : Nat) (l0 : Nat) (l1 : Int64) (l3 : Int64) (l5 : Int64) (l7 : Int64) (μ : dtM), f_X12_tellsBy_6 n l0 l1 l3 l5 l7 μ = some (r, F) → dtW yX12_tellsBy cX12_tellsBy 11 (some .boolean) 2 (some (.int r)) F 6 [some (.ref l0), some (.long l1), none, some (.long l3), none, some (.long l5), none, some (.long l7)] [] μ := by
  intro n
  induction n with
  | zero => intro l0 l1 l3 l5 l7 μ h; cases h
  | succ n ih =>
    intro l0 l1 l3 l5 l7 μ h
    have h := (show f_X12_tellsBy_6 (n + 1) l0 l1 l3 l5 l7 μ = some _ from h)
    rw [f_X12_tellsBy_6] at h
    refine dr_lload l7 dX12_tellsBy_6 rfl ?_
    refine dr_lconst (0 : Int64) dX12_tellsBy_8 (by decide) ?_
    refine dr_lcmp dX12_tellsBy_9 ?_
    obtain ⟨ht2, hf3⟩ := dtIte h
    refine dr_if_eq 31 dX12_tellsBy_10 (by decide) (fun hc1 => ?_) (fun hc1 => ?_)
    · have h := ht2 hc1
      refine dr_aload_n l0 dX12_tellsBy_31 rfl ?_
      refine dr_lload_n l1 dX12_tellsBy_32 rfl ?_
      refine dr_lload l5 dX12_tellsBy_33 rfl ?_
      obtain ⟨x4, e5, h⟩ := dtBind h
      refine dr_ldiv_n x4 dX12_tellsBy_35 e5 ?_
      obtain ⟨μ6, e7, h⟩ := dtBind h
      refine dr_putJ μ6 dX12_tellsBy_36 fl_RX12_90 rfl e7 ?_
      refine dr_aload_n l0 dX12_tellsBy_39 rfl ?_
      refine dr_lload_n l3 dX12_tellsBy_40 rfl ?_
      refine dr_lload l5 dX12_tellsBy_41 rfl ?_
      obtain ⟨x8, e9, h⟩ := dtBind h
      refine dr_ldiv_n x8 dX12_tellsBy_43 e9 ?_
      obtain ⟨μ10, e11, h⟩ := dtBind h
      refine dr_putJ μ10 dX12_tellsBy_44 fl_RX12_17 rfl e11 ?_
      refine dr_aload_n l0 dX12_tellsBy_47 rfl ?_
      refine dr_iconst (0 : Int32) dX12_tellsBy_48 (by decide) ?_
      obtain ⟨_, hb12, h⟩ := dtBind h
      obtain ⟨x15, μ13, e14, h⟩ := dtCall h
      refine dr_callV_i (S0 := []) [.int (0 : Int32)] x15 μ13 dX12_tellsBy_49 (c_X12_is l0 (0 : Int32) μ10 e14) mf_X12_is wt_1492 ws_53 wt_1490 rfl (dtRv hb12) (by decide) rfl (Nat.le_of_ble_eq_true rfl) (Nat.le_of_ble_eq_true rfl) rfl ?_
      obtain ⟨hz, rfl, rfl⟩ := dtRet h
      exact dr_ireturn dX12_tellsBy_52 (dtNz hz)
    · have h := hf3 hc1
      refine dr_lload l5 dX12_tellsBy_13 rfl ?_
      refine dr_lload l7 dX12_tellsBy_15 rfl ?_
      obtain ⟨x16, e17, h⟩ := dtBind h
      refine dr_lrem_n x16 dX12_tellsBy_17 e17 ?_
      refine dr_lstore [some (.ref l0), some (.long l1), none, some (.long l3), none, some (.long l5), none, some (.long l7), none, some (.long x16), none] dX12_tellsBy_18 rfl rfl rfl ?_
      refine dr_lload l7 dX12_tellsBy_20 rfl ?_
      refine dr_lstore [some (.ref l0), some (.long l1), none, some (.long l3), none, some (.long l7), none, some (.long l7), none, some (.long x16), none] dX12_tellsBy_22 rfl rfl rfl ?_
      refine dr_lload x16 dX12_tellsBy_24 rfl ?_
      refine dr_lstore [some (.ref l0), some (.long l1), none, some (.long l3), none, some (.long l7), none, some (.long x16), none, some (.long x16), none] dX12_tellsBy_26 rfl rfl rfl ?_
      refine dr_goto 6 dX12_tellsBy_28 (by decide) ?_
      refine dr_mask [true, true, false, true, false, true, false, true] [some (.ref l0), some (.long l1), none, some (.long l3), none, some (.long l7), none, some (.long x16)] rfl ?_
      exact ih l0 l1 l3 l7 x16 μ h
set_option maxRecDepth 100000 in
theorem c_X12_tellsBy {r : Int32} {F : dtM} (p0 : Nat) (p1 : Int64) (p3 : Int64) (μ : dtM) (h : f_X12_tellsBy p0 p1 p3 μ = some (r, F)) : dtMet yX12_tellsBy cX12_tellsBy 11 (some .boolean) 2 [.ref p0, .long p1, .long p3] μ (some (.int r)) F := by
  refine dtMet.of (by decide +kernel) (Nat.le_of_ble_eq_true rfl) (show dtW yX12_tellsBy cX12_tellsBy 11 (some .boolean) 2 (some (.int r)) F 0 [some (.ref p0), some (.long p1), none, some (.long p3), none] [] μ from ?_)
  rw [f_X12_tellsBy] at h
  refine dr_lload_n p1 dX12_tellsBy_0 rfl ?_
  refine dr_lstore [some (.ref p0), some (.long p1), none, some (.long p3), none, some (.long p1), none] dX12_tellsBy_1 rfl rfl rfl ?_
  refine dr_lload_n p3 dX12_tellsBy_3 rfl ?_
  refine dr_lstore [some (.ref p0), some (.long p1), none, some (.long p3), none, some (.long p1), none, some (.long p3), none] dX12_tellsBy_4 rfl rfl rfl ?_
  refine dr_mask [true, true, false, true, false, true, false, true] [some (.ref p0), some (.long p1), none, some (.long p3), none, some (.long p1), none, some (.long p3)] rfl ?_
  exact c_X12_tellsBy_6 dtFuel p0 p1 p3 p1 p3 μ h
/-! X12_isTray -/
theorem dX12_isTray_0 : decode cX12_isTray 0 = .ok (.iload_n 0, 1) := by decide +kernel
theorem dX12_isTray_1 : decode cX12_isTray 1 = .ok (.ifCond .lt 12, 3) := by decide +kernel
theorem dX12_isTray_4 : decode cX12_isTray 4 = .ok (.iload_n 0, 1) := by decide +kernel
theorem dX12_isTray_5 : decode cX12_isTray 5 = .ok (.iconst 4, 1) := by decide +kernel
theorem dX12_isTray_6 : decode cX12_isTray 6 = .ok (.if_icmp .ge 7, 3) := by decide +kernel
theorem dX12_isTray_9 : decode cX12_isTray 9 = .ok (.iconst 1, 1) := by decide +kernel
theorem dX12_isTray_10 : decode cX12_isTray 10 = .ok (.goto 4, 3) := by decide +kernel
theorem dX12_isTray_13 : decode cX12_isTray 13 = .ok (.iconst 0, 1) := by decide +kernel
theorem dX12_isTray_14 : decode cX12_isTray 14 = .ok (.ireturn, 1) := by decide +kernel
set_option maxRecDepth 100000 in
def f_X12_isTray_14 (s0 : Int32) (μ : dtM) : Option (Int32 × dtM) :=
  opRet s0 μ
set_option maxRecDepth 100000 in
def f_X12_isTray_13  (μ : dtM) : Option (Int32 × dtM) :=
  f_X12_isTray_14 (0 : Int32) μ
set_option maxRecDepth 100000 in
def f_X12_isTray (p0 : Int32) (μ : dtM) : Option (Int32 × dtM) :=
  if p0 < 0 then (f_X12_isTray_13 μ) else (if (4 : Int32) ≤ p0 then (f_X12_isTray_13 μ) else (f_X12_isTray_14 (1 : Int32) μ))
set_option maxRecDepth 100000 in
theorem c_X12_isTray_14 {r : Int32} {F : dtM} (s0 : Int32) (μ : dtM) (h : f_X12_isTray_14 s0 μ = some (r, F)) : dtW yX12_isTray cX12_isTray 1 (some .boolean) 1 (some (.int r)) F 14 [] [.int s0] μ := by
  rw [f_X12_isTray_14] at h
  obtain ⟨hz, rfl, rfl⟩ := dtRet h
  exact dr_ireturn dX12_isTray_14 (dtNz hz)
set_option maxRecDepth 100000 in
theorem c_X12_isTray_13 {r : Int32} {F : dtM}  (μ : dtM) (h : f_X12_isTray_13  μ = some (r, F)) : dtW yX12_isTray cX12_isTray 1 (some .boolean) 1 (some (.int r)) F 13 [] [] μ := by
  rw [f_X12_isTray_13] at h
  refine dr_iconst (0 : Int32) dX12_isTray_13 (by decide) ?_
  exact c_X12_isTray_14 (0 : Int32) μ h
set_option maxRecDepth 100000 in
theorem c_X12_isTray {r : Int32} {F : dtM} (p0 : Int32) (μ : dtM) (h : f_X12_isTray p0 μ = some (r, F)) : dtMet yX12_isTray cX12_isTray 1 (some .boolean) 1 [.int p0] μ (some (.int r)) F := by
  refine dtMet.of (by decide +kernel) (Nat.le_of_ble_eq_true rfl) (show dtW yX12_isTray cX12_isTray 1 (some .boolean) 1 (some (.int r)) F 0 [some (.int p0)] [] μ from ?_)
  rw [f_X12_isTray] at h
  refine dr_iload_n p0 dX12_isTray_0 rfl ?_
  obtain ⟨ht2, hf3⟩ := dtIte h
  refine dr_if_lt 13 dX12_isTray_1 (by decide) (fun hc1 => ?_) (fun hc1 => ?_)
  · have h := ht2 hc1
    refine dr_mask [] [] rfl ?_
    exact c_X12_isTray_13 μ h
  · have h := hf3 hc1
    refine dr_iload_n p0 dX12_isTray_4 rfl ?_
    refine dr_iconst (4 : Int32) dX12_isTray_5 (by decide) ?_
    obtain ⟨ht5, hf6⟩ := dtIte h
    refine dr_icmp_ge 13 dX12_isTray_6 (by decide) (fun hc4 => ?_) (fun hc4 => ?_)
    · have h := ht5 hc4
      refine dr_mask [] [] rfl ?_
      exact c_X12_isTray_13 μ h
    · have h := hf6 hc4
      refine dr_iconst (1 : Int32) dX12_isTray_9 (by decide) ?_
      refine dr_goto 14 dX12_isTray_10 (by decide) ?_
      refine dr_mask [] [] rfl ?_
      exact c_X12_isTray_14 (1 : Int32) μ h
/-! X12_cut -/
theorem dX12_cut_0 : decode cX12_cut 0 = .ok (.iload_n 2, 1) := by decide +kernel
theorem dX12_cut_1 : decode cX12_cut 1 = .ok (.ifCond .ne 10, 3) := by decide +kernel
theorem dX12_cut_4 : decode cX12_cut 4 = .ok (.lload_n 0, 1) := by decide +kernel
theorem dX12_cut_5 : decode cX12_cut 5 = .ok (.l2i, 1) := by decide +kernel
theorem dX12_cut_6 : decode cX12_cut 6 = .ok (.i2b, 1) := by decide +kernel
theorem dX12_cut_7 : decode cX12_cut 7 = .ok (.i2l, 1) := by decide +kernel
theorem dX12_cut_8 : decode cX12_cut 8 = .ok (.goto 27, 3) := by decide +kernel
theorem dX12_cut_11 : decode cX12_cut 11 = .ok (.iload_n 2, 1) := by decide +kernel
theorem dX12_cut_12 : decode cX12_cut 12 = .ok (.iconst 1, 1) := by decide +kernel
theorem dX12_cut_13 : decode cX12_cut 13 = .ok (.if_icmp .ne 10, 3) := by decide +kernel
theorem dX12_cut_16 : decode cX12_cut 16 = .ok (.lload_n 0, 1) := by decide +kernel
theorem dX12_cut_17 : decode cX12_cut 17 = .ok (.l2i, 1) := by decide +kernel
theorem dX12_cut_18 : decode cX12_cut 18 = .ok (.i2s, 1) := by decide +kernel
theorem dX12_cut_19 : decode cX12_cut 19 = .ok (.i2l, 1) := by decide +kernel
theorem dX12_cut_20 : decode cX12_cut 20 = .ok (.goto 15, 3) := by decide +kernel
theorem dX12_cut_23 : decode cX12_cut 23 = .ok (.iload_n 2, 1) := by decide +kernel
theorem dX12_cut_24 : decode cX12_cut 24 = .ok (.iconst 2, 1) := by decide +kernel
theorem dX12_cut_25 : decode cX12_cut 25 = .ok (.if_icmp .ne 9, 3) := by decide +kernel
theorem dX12_cut_28 : decode cX12_cut 28 = .ok (.lload_n 0, 1) := by decide +kernel
theorem dX12_cut_29 : decode cX12_cut 29 = .ok (.l2i, 1) := by decide +kernel
theorem dX12_cut_30 : decode cX12_cut 30 = .ok (.i2l, 1) := by decide +kernel
theorem dX12_cut_31 : decode cX12_cut 31 = .ok (.goto 4, 3) := by decide +kernel
theorem dX12_cut_34 : decode cX12_cut 34 = .ok (.lload_n 0, 1) := by decide +kernel
theorem dX12_cut_35 : decode cX12_cut 35 = .ok (.lreturn, 1) := by decide +kernel
set_option maxRecDepth 100000 in
def f_X12_cut_35 (s0 : Int64) (μ : dtM) : Option (Int64 × dtM) :=
  some (s0, μ)
set_option maxRecDepth 100000 in
def f_X12_cut (p0 : Int64) (p2 : Int32) (μ : dtM) : Option (Int64 × dtM) :=
  if p2 = 0 then (f_X12_cut_35 (((p0.toInt32).toInt8.toInt32).toInt64) μ) else (if p2 = (1 : Int32) then (f_X12_cut_35 (((p0.toInt32).toInt16.toInt32).toInt64) μ) else (if p2 = (2 : Int32) then (f_X12_cut_35 ((p0.toInt32).toInt64) μ) else (f_X12_cut_35 p0 μ)))
set_option maxRecDepth 100000 in
theorem c_X12_cut_35 {r : Int64} {F : dtM} (s0 : Int64) (μ : dtM) (h : f_X12_cut_35 s0 μ = some (r, F)) : dtW yX12_cut cX12_cut 3 (some .long) 1 (some (.long r)) F 35 [] [.long s0] μ := by
  rw [f_X12_cut_35] at h
  cases h
  exact dr_lreturn dX12_cut_35
set_option maxRecDepth 100000 in
theorem c_X12_cut {r : Int64} {F : dtM} (p0 : Int64) (p2 : Int32) (μ : dtM) (h : f_X12_cut p0 p2 μ = some (r, F)) : dtMet yX12_cut cX12_cut 3 (some .long) 1 [.long p0, .int p2] μ (some (.long r)) F := by
  refine dtMet.of (by decide +kernel) (Nat.le_of_ble_eq_true rfl) (show dtW yX12_cut cX12_cut 3 (some .long) 1 (some (.long r)) F 0 [some (.long p0), none, some (.int p2)] [] μ from ?_)
  rw [f_X12_cut] at h
  refine dr_iload_n p2 dX12_cut_0 rfl ?_
  obtain ⟨ht2, hf3⟩ := dtIte h
  refine dr_if_ne 11 dX12_cut_1 (by decide) (fun hc1 => ?_) (fun hc1 => ?_)
  · have h := hf3 hc1
    refine dr_iload_n p2 dX12_cut_11 rfl ?_
    refine dr_iconst (1 : Int32) dX12_cut_12 (by decide) ?_
    obtain ⟨ht5, hf6⟩ := dtIte h
    refine dr_icmp_ne 23 dX12_cut_13 (by decide) (fun hc4 => ?_) (fun hc4 => ?_)
    · have h := hf6 hc4
      refine dr_iload_n p2 dX12_cut_23 rfl ?_
      refine dr_iconst (2 : Int32) dX12_cut_24 (by decide) ?_
      obtain ⟨ht8, hf9⟩ := dtIte h
      refine dr_icmp_ne 34 dX12_cut_25 (by decide) (fun hc7 => ?_) (fun hc7 => ?_)
      · have h := hf9 hc7
        refine dr_lload_n p0 dX12_cut_34 rfl ?_
        refine dr_mask [] [] rfl ?_
        exact c_X12_cut_35 p0 μ h
      · have h := ht8 hc7
        refine dr_lload_n p0 dX12_cut_28 rfl ?_
        refine dr_l2i dX12_cut_29 ?_
        refine dr_i2l dX12_cut_30 ?_
        refine dr_goto 35 dX12_cut_31 (by decide) ?_
        refine dr_mask [] [] rfl ?_
        exact c_X12_cut_35 ((p0.toInt32).toInt64) μ h
    · have h := ht5 hc4
      refine dr_lload_n p0 dX12_cut_16 rfl ?_
      refine dr_l2i dX12_cut_17 ?_
      refine dr_i2s dX12_cut_18 ?_
      refine dr_i2l dX12_cut_19 ?_
      refine dr_goto 35 dX12_cut_20 (by decide) ?_
      refine dr_mask [] [] rfl ?_
      exact c_X12_cut_35 (((p0.toInt32).toInt16.toInt32).toInt64) μ h
  · have h := ht2 hc1
    refine dr_lload_n p0 dX12_cut_4 rfl ?_
    refine dr_l2i dX12_cut_5 ?_
    refine dr_i2b dX12_cut_6 ?_
    refine dr_i2l dX12_cut_7 ?_
    refine dr_goto 35 dX12_cut_8 (by decide) ?_
    refine dr_mask [] [] rfl ?_
    exact c_X12_cut_35 (((p0.toInt32).toInt8.toInt32).toInt64) μ h
/-! X12_tray -/
theorem dX12_tray_0 : decode cX12_tray 0 = .ok (.iload_n 1, 1) := by decide +kernel
theorem dX12_tray_1 : decode cX12_tray 1 = .ok (.invokestatic 104, 3) := by decide +kernel
theorem dX12_tray_4 : decode cX12_tray 4 = .ok (.ifCond .eq 22, 3) := by decide +kernel
theorem dX12_tray_7 : decode cX12_tray 7 = .ok (.iload_n 2, 1) := by decide +kernel
theorem dX12_tray_8 : decode cX12_tray 8 = .ok (.ifCond .lt 18, 3) := by decide +kernel
theorem dX12_tray_11 : decode cX12_tray 11 = .ok (.iload_n 2, 1) := by decide +kernel
theorem dX12_tray_12 : decode cX12_tray 12 = .ok (.iconst 3, 1) := by decide +kernel
theorem dX12_tray_13 : decode cX12_tray 13 = .ok (.if_icmp .gt 13, 3) := by decide +kernel
theorem dX12_tray_16 : decode cX12_tray 16 = .ok (.iload_n 3, 1) := by decide +kernel
theorem dX12_tray_17 : decode cX12_tray 17 = .ok (.ifCond .lt 9, 3) := by decide +kernel
theorem dX12_tray_20 : decode cX12_tray 20 = .ok (.iload_n 3, 1) := by decide +kernel
theorem dX12_tray_21 : decode cX12_tray 21 = .ok (.bipush 60, 2) := by decide +kernel
theorem dX12_tray_23 : decode cX12_tray 23 = .ok (.if_icmp .le 9, 3) := by decide +kernel
theorem dX12_tray_26 : decode cX12_tray 26 = .ok (.aload_n 0, 1) := by decide +kernel
theorem dX12_tray_27 : decode cX12_tray 27 = .ok (.iconst 1, 1) := by decide +kernel
theorem dX12_tray_28 : decode cX12_tray 28 = .ok (.invokevirtual 100, 3) := by decide +kernel
theorem dX12_tray_31 : decode cX12_tray 31 = .ok (.ireturn, 1) := by decide +kernel
theorem dX12_tray_32 : decode cX12_tray 32 = .ok (.aload_n 0, 1) := by decide +kernel
theorem dX12_tray_33 : decode cX12_tray 33 = .ok (.getfield 21, 3) := by decide +kernel
theorem dX12_tray_36 : decode cX12_tray 36 = .ok (.iload_n 1, 1) := by decide +kernel
theorem dX12_tray_37 : decode cX12_tray 37 = .ok (.iload_n 2, 1) := by decide +kernel
theorem dX12_tray_38 : decode cX12_tray 38 = .ok (.iastore, 1) := by decide +kernel
theorem dX12_tray_39 : decode cX12_tray 39 = .ok (.aload_n 0, 1) := by decide +kernel
theorem dX12_tray_40 : decode cX12_tray 40 = .ok (.getfield 24, 3) := by decide +kernel
theorem dX12_tray_43 : decode cX12_tray 43 = .ok (.iload_n 1, 1) := by decide +kernel
theorem dX12_tray_44 : decode cX12_tray 44 = .ok (.iload_n 3, 1) := by decide +kernel
theorem dX12_tray_45 : decode cX12_tray 45 = .ok (.iastore, 1) := by decide +kernel
theorem dX12_tray_46 : decode cX12_tray 46 = .ok (.iconst 0, 1) := by decide +kernel
theorem dX12_tray_47 : decode cX12_tray 47 = .ok (.istore 4, 2) := by decide +kernel
theorem dX12_tray_49 : decode cX12_tray 49 = .ok (.iload 4, 2) := by decide +kernel
theorem dX12_tray_51 : decode cX12_tray 51 = .ok (.iload_n 3, 1) := by decide +kernel
theorem dX12_tray_52 : decode cX12_tray 52 = .ok (.if_icmp .ge 22, 3) := by decide +kernel
theorem dX12_tray_55 : decode cX12_tray 55 = .ok (.aload_n 0, 1) := by decide +kernel
theorem dX12_tray_56 : decode cX12_tray 56 = .ok (.getfield 27, 3) := by decide +kernel
theorem dX12_tray_59 : decode cX12_tray 59 = .ok (.bipush 60, 2) := by decide +kernel
theorem dX12_tray_61 : decode cX12_tray 61 = .ok (.iload_n 1, 1) := by decide +kernel
theorem dX12_tray_62 : decode cX12_tray 62 = .ok (.imul, 1) := by decide +kernel
theorem dX12_tray_63 : decode cX12_tray 63 = .ok (.iload 4, 2) := by decide +kernel
theorem dX12_tray_65 : decode cX12_tray 65 = .ok (.iadd, 1) := by decide +kernel
theorem dX12_tray_66 : decode cX12_tray 66 = .ok (.lconst 0, 1) := by decide +kernel
theorem dX12_tray_67 : decode cX12_tray 67 = .ok (.lastore, 1) := by decide +kernel
theorem dX12_tray_68 : decode cX12_tray 68 = .ok (.iinc 4 1, 3) := by decide +kernel
theorem dX12_tray_71 : decode cX12_tray 71 = .ok (.goto (-22), 3) := by decide +kernel
theorem dX12_tray_74 : decode cX12_tray 74 = .ok (.aload_n 0, 1) := by decide +kernel
theorem dX12_tray_75 : decode cX12_tray 75 = .ok (.iconst 0, 1) := by decide +kernel
theorem dX12_tray_76 : decode cX12_tray 76 = .ok (.invokevirtual 100, 3) := by decide +kernel
theorem dX12_tray_79 : decode cX12_tray 79 = .ok (.ireturn, 1) := by decide +kernel
set_option maxRecDepth 100000 in
def f_X12_tray_26 (l0 : Nat) (μ : dtM) : Option (Int32 × dtM) :=
  (opRv 12 μ l0).bind fun _ => opCall (f_X12_is l0 (1 : Int32) μ) fun x4 μ2 => opRet x4 μ2
set_option maxRecDepth 100000 in
def f_X12_tray_49 : Nat → Nat → Int32 → Int32 → Int32 → dtM → Option (Int32 × dtM)
  | 0, _, _, _, _, _ => none
  | n + 1, l0, l1, l3, l4, μ =>
    if l3 ≤ l4 then ((opRv 12 μ l0).bind fun _ => opCall (f_X12_is l0 (0 : Int32) μ) fun x7 μ5 => opRet x7 μ5) else ((opGR 12 7 μ l0).bind fun x8 => (opSJ μ x8 (((60 : Int32) * l1) + l4) (0 : Int64)).bind fun μ10 => f_X12_tray_49 n l0 l1 l3 (l4 + 1) μ10)
set_option maxRecDepth 100000 in
def f_X12_tray (p0 : Nat) (p1 : Int32) (p2 : Int32) (p3 : Int32) (μ : dtM) : Option (Int32 × dtM) :=
  opCall (f_X12_isTray p1 μ) fun x3 μ1 => if x3 = 0 then (f_X12_tray_26 p0 μ1) else (if p2 < 0 then (f_X12_tray_26 p0 μ1) else (if (3 : Int32) < p2 then (f_X12_tray_26 p0 μ1) else (if p3 < 0 then (f_X12_tray_26 p0 μ1) else (if p3 ≤ (60 : Int32) then ((opGR 12 5 μ1 p0).bind fun x19 => (opSI μ1 x19 p1 p2).bind fun μ21 => (opGR 12 6 μ21 p0).bind fun x23 => (opSI μ21 x23 p1 p3).bind fun μ25 => f_X12_tray_49 dtFuel p0 p1 p3 (0 : Int32) μ25) else (f_X12_tray_26 p0 μ1)))))
set_option maxRecDepth 100000 in
theorem c_X12_tray_26 {r : Int32} {F : dtM} (l0 : Nat) (μ : dtM) (h : f_X12_tray_26 l0 μ = some (r, F)) : dtW yX12_tray cX12_tray 5 (some .boolean) 2 (some (.int r)) F 26 [some (.ref l0)] [] μ := by
  rw [f_X12_tray_26] at h
  refine dr_aload_n l0 dX12_tray_26 rfl ?_
  refine dr_iconst (1 : Int32) dX12_tray_27 (by decide) ?_
  obtain ⟨_, hb1, h⟩ := dtBind h
  obtain ⟨x4, μ2, e3, h⟩ := dtCall h
  refine dr_callV_i (S0 := []) [.int (1 : Int32)] x4 μ2 dX12_tray_28 (c_X12_is l0 (1 : Int32) μ e3) mf_X12_is wt_1492 ws_53 wt_1490 rfl (dtRv hb1) (by decide) rfl (Nat.le_of_ble_eq_true rfl) (Nat.le_of_ble_eq_true rfl) rfl ?_
  obtain ⟨hz, rfl, rfl⟩ := dtRet h
  exact dr_ireturn dX12_tray_31 (dtNz hz)
set_option maxRecDepth 100000 in
theorem c_X12_tray_49 {r : Int32} {F : dtM} : ∀ (n : Nat) (l0 : Nat) (l1 : Int32) (l3 : Int32) (l4 : Int32) (μ : dtM), f_X12_tray_49 n l0 l1 l3 l4 μ = some (r, F) → dtW yX12_tray cX12_tray 5 (some .boolean) 2 (some (.int r)) F 49 [some (.ref l0), some (.int l1), none, some (.int l3), some (.int l4)] [] μ := by
  intro n
  induction n with
  | zero => intro l0 l1 l3 l4 μ h; cases h
  | succ n ih =>
    intro l0 l1 l3 l4 μ h
    have h := (show f_X12_tray_49 (n + 1) l0 l1 l3 l4 μ = some _ from h)
    rw [f_X12_tray_49] at h
    refine dr_iload l4 dX12_tray_49 rfl ?_
    refine dr_iload_n l3 dX12_tray_51 rfl ?_
    obtain ⟨ht2, hf3⟩ := dtIte h
    refine dr_icmp_ge 74 dX12_tray_52 (by decide) (fun hc1 => ?_) (fun hc1 => ?_)
    · have h := ht2 hc1
      refine dr_aload_n l0 dX12_tray_74 rfl ?_
      refine dr_iconst (0 : Int32) dX12_tray_75 (by decide) ?_
      obtain ⟨_, hb4, h⟩ := dtBind h
      obtain ⟨x7, μ5, e6, h⟩ := dtCall h
      refine dr_callV_i (S0 := []) [.int (0 : Int32)] x7 μ5 dX12_tray_76 (c_X12_is l0 (0 : Int32) μ e6) mf_X12_is wt_1492 ws_53 wt_1490 rfl (dtRv hb4) (by decide) rfl (Nat.le_of_ble_eq_true rfl) (Nat.le_of_ble_eq_true rfl) rfl ?_
      obtain ⟨hz, rfl, rfl⟩ := dtRet h
      exact dr_ireturn dX12_tray_79 (dtNz hz)
    · have h := hf3 hc1
      refine dr_aload_n l0 dX12_tray_55 rfl ?_
      obtain ⟨x8, e9, h⟩ := dtBind h
      refine dr_getR x8 dX12_tray_56 fl_RX12_27 e9 ?_
      refine dr_bipush (60 : Int32) dX12_tray_59 (by decide) ?_
      refine dr_iload_n l1 dX12_tray_61 rfl ?_
      refine dr_imul dX12_tray_62 ?_
      refine dr_iload l4 dX12_tray_63 rfl ?_
      refine dr_iadd dX12_tray_65 ?_
      refine dr_lconst (0 : Int64) dX12_tray_66 (by decide) ?_
      obtain ⟨μ10, e11, h⟩ := dtBind h
      refine dr_lastore μ10 dX12_tray_67 e11 ?_
      refine dr_iinc l4 (l4 + 1) [some (.ref l0), some (.int l1), none, some (.int l3), some (.int (l4 + 1))] dX12_tray_68 rfl rfl rfl rfl rfl ?_
      refine dr_goto 49 dX12_tray_71 (by decide) ?_
      exact ih l0 l1 l3 (l4 + 1) μ10 h
set_option maxRecDepth 100000 in
theorem c_X12_tray {r : Int32} {F : dtM} (p0 : Nat) (p1 : Int32) (p2 : Int32) (p3 : Int32) (μ : dtM) (h : f_X12_tray p0 p1 p2 p3 μ = some (r, F)) : dtMet yX12_tray cX12_tray 5 (some .boolean) 2 [.ref p0, .int p1, .int p2, .int p3] μ (some (.int r)) F := by
  refine dtMet.of (by decide +kernel) (Nat.le_of_ble_eq_true rfl) (show dtW yX12_tray cX12_tray 5 (some .boolean) 2 (some (.int r)) F 0 [some (.ref p0), some (.int p1), some (.int p2), some (.int p3)] [] μ from ?_)
  rw [f_X12_tray] at h
  refine dr_iload_n p1 dX12_tray_0 rfl ?_
  obtain ⟨x3, μ1, e2, h⟩ := dtCall h
  refine dr_callS_i (S0 := []) [.int p1] x3 μ1 dX12_tray_1 (c_X12_isTray p1 μ e2) mf_X12_isTray wt_1488 wt_1487 rfl (Nat.le_of_ble_eq_true rfl) (Nat.le_of_ble_eq_true rfl) rfl ?_
  obtain ⟨ht5, hf6⟩ := dtIte h
  refine dr_if_eq 26 dX12_tray_4 (by decide) (fun hc4 => ?_) (fun hc4 => ?_)
  · have h := ht5 hc4
    refine dr_mask [true] [some (.ref p0)] rfl ?_
    exact c_X12_tray_26 p0 μ1 h
  · have h := hf6 hc4
    refine dr_iload_n p2 dX12_tray_7 rfl ?_
    obtain ⟨ht8, hf9⟩ := dtIte h
    refine dr_if_lt 26 dX12_tray_8 (by decide) (fun hc7 => ?_) (fun hc7 => ?_)
    · have h := ht8 hc7
      refine dr_mask [true] [some (.ref p0)] rfl ?_
      exact c_X12_tray_26 p0 μ1 h
    · have h := hf9 hc7
      refine dr_iload_n p2 dX12_tray_11 rfl ?_
      refine dr_iconst (3 : Int32) dX12_tray_12 (by decide) ?_
      obtain ⟨ht11, hf12⟩ := dtIte h
      refine dr_icmp_gt 26 dX12_tray_13 (by decide) (fun hc10 => ?_) (fun hc10 => ?_)
      · have h := ht11 hc10
        refine dr_mask [true] [some (.ref p0)] rfl ?_
        exact c_X12_tray_26 p0 μ1 h
      · have h := hf12 hc10
        refine dr_iload_n p3 dX12_tray_16 rfl ?_
        obtain ⟨ht14, hf15⟩ := dtIte h
        refine dr_if_lt 26 dX12_tray_17 (by decide) (fun hc13 => ?_) (fun hc13 => ?_)
        · have h := ht14 hc13
          refine dr_mask [true] [some (.ref p0)] rfl ?_
          exact c_X12_tray_26 p0 μ1 h
        · have h := hf15 hc13
          refine dr_iload_n p3 dX12_tray_20 rfl ?_
          refine dr_bipush (60 : Int32) dX12_tray_21 (by decide) ?_
          obtain ⟨ht17, hf18⟩ := dtIte h
          refine dr_icmp_le 32 dX12_tray_23 (by decide) (fun hc16 => ?_) (fun hc16 => ?_)
          · have h := ht17 hc16
            refine dr_aload_n p0 dX12_tray_32 rfl ?_
            obtain ⟨x19, e20, h⟩ := dtBind h
            refine dr_getR x19 dX12_tray_33 fl_RX12_21 e20 ?_
            refine dr_iload_n p1 dX12_tray_36 rfl ?_
            refine dr_iload_n p2 dX12_tray_37 rfl ?_
            obtain ⟨μ21, e22, h⟩ := dtBind h
            refine dr_iastore μ21 dX12_tray_38 e22 ?_
            refine dr_aload_n p0 dX12_tray_39 rfl ?_
            obtain ⟨x23, e24, h⟩ := dtBind h
            refine dr_getR x23 dX12_tray_40 fl_RX12_24 e24 ?_
            refine dr_iload_n p1 dX12_tray_43 rfl ?_
            refine dr_iload_n p3 dX12_tray_44 rfl ?_
            obtain ⟨μ25, e26, h⟩ := dtBind h
            refine dr_iastore μ25 dX12_tray_45 e26 ?_
            refine dr_iconst (0 : Int32) dX12_tray_46 (by decide) ?_
            refine dr_istore [some (.ref p0), some (.int p1), some (.int p2), some (.int p3), some (.int (0 : Int32))] dX12_tray_47 rfl rfl rfl ?_
            refine dr_mask [true, true, false, true, true] [some (.ref p0), some (.int p1), none, some (.int p3), some (.int (0 : Int32))] rfl ?_
            exact c_X12_tray_49 dtFuel p0 p1 p3 (0 : Int32) μ25 h
          · have h := hf18 hc16
            refine dr_mask [true] [some (.ref p0)] rfl ?_
            exact c_X12_tray_26 p0 μ1 h
/-! X12_wrongPlace -/
theorem dX12_wrongPlace_0 : decode cX12_wrongPlace 0 = .ok (.iload_n 1, 1) := by decide +kernel
theorem dX12_wrongPlace_1 : decode cX12_wrongPlace 1 = .ok (.invokestatic 104, 3) := by decide +kernel
theorem dX12_wrongPlace_4 : decode cX12_wrongPlace 4 = .ok (.ifCond .ne 7, 3) := by decide +kernel
theorem dX12_wrongPlace_7 : decode cX12_wrongPlace 7 = .ok (.iconst 1, 1) := by decide +kernel
theorem dX12_wrongPlace_8 : decode cX12_wrongPlace 8 = .ok (.goto 36, 3) := by decide +kernel
theorem dX12_wrongPlace_11 : decode cX12_wrongPlace 11 = .ok (.aload_n 0, 1) := by decide +kernel
theorem dX12_wrongPlace_12 : decode cX12_wrongPlace 12 = .ok (.getfield 24, 3) := by decide +kernel
theorem dX12_wrongPlace_15 : decode cX12_wrongPlace 15 = .ok (.iload_n 1, 1) := by decide +kernel
theorem dX12_wrongPlace_16 : decode cX12_wrongPlace 16 = .ok (.iaload, 1) := by decide +kernel
theorem dX12_wrongPlace_17 : decode cX12_wrongPlace 17 = .ok (.iconst (-1), 1) := by decide +kernel
theorem dX12_wrongPlace_18 : decode cX12_wrongPlace 18 = .ok (.if_icmp .ne 7, 3) := by decide +kernel
theorem dX12_wrongPlace_21 : decode cX12_wrongPlace 21 = .ok (.iconst 2, 1) := by decide +kernel
theorem dX12_wrongPlace_22 : decode cX12_wrongPlace 22 = .ok (.goto 22, 3) := by decide +kernel
theorem dX12_wrongPlace_25 : decode cX12_wrongPlace 25 = .ok (.iload_n 2, 1) := by decide +kernel
theorem dX12_wrongPlace_26 : decode cX12_wrongPlace 26 = .ok (.ifCond .lt 13, 3) := by decide +kernel
theorem dX12_wrongPlace_29 : decode cX12_wrongPlace 29 = .ok (.iload_n 2, 1) := by decide +kernel
theorem dX12_wrongPlace_30 : decode cX12_wrongPlace 30 = .ok (.aload_n 0, 1) := by decide +kernel
theorem dX12_wrongPlace_31 : decode cX12_wrongPlace 31 = .ok (.getfield 24, 3) := by decide +kernel
theorem dX12_wrongPlace_34 : decode cX12_wrongPlace 34 = .ok (.iload_n 1, 1) := by decide +kernel
theorem dX12_wrongPlace_35 : decode cX12_wrongPlace 35 = .ok (.iaload, 1) := by decide +kernel
theorem dX12_wrongPlace_36 : decode cX12_wrongPlace 36 = .ok (.if_icmp .lt 7, 3) := by decide +kernel
theorem dX12_wrongPlace_39 : decode cX12_wrongPlace 39 = .ok (.iconst 3, 1) := by decide +kernel
theorem dX12_wrongPlace_40 : decode cX12_wrongPlace 40 = .ok (.goto 4, 3) := by decide +kernel
theorem dX12_wrongPlace_43 : decode cX12_wrongPlace 43 = .ok (.iconst 0, 1) := by decide +kernel
theorem dX12_wrongPlace_44 : decode cX12_wrongPlace 44 = .ok (.ireturn, 1) := by decide +kernel
set_option maxRecDepth 100000 in
def f_X12_wrongPlace_44 (s0 : Int32) (μ : dtM) : Option (Int32 × dtM) :=
  some (s0, μ)
set_option maxRecDepth 100000 in
def f_X12_wrongPlace_39  (μ : dtM) : Option (Int32 × dtM) :=
  f_X12_wrongPlace_44 (3 : Int32) μ
set_option maxRecDepth 100000 in
def f_X12_wrongPlace (p0 : Nat) (p1 : Int32) (p2 : Int32) (μ : dtM) : Option (Int32 × dtM) :=
  opCall (f_X12_isTray p1 μ) fun x3 μ1 => if x3 = 0 then (f_X12_wrongPlace_44 (1 : Int32) μ1) else ((opGR 12 6 μ1 p0).bind fun x7 => (opLI 1 μ1 x7 p1).bind fun x9 => if x9 = (-1 : Int32) then (f_X12_wrongPlace_44 (2 : Int32) μ1) else (if p2 < 0 then (f_X12_wrongPlace_39 μ1) else ((opGR 12 6 μ1 p0).bind fun x17 => (opLI 1 μ1 x17 p1).bind fun x19 => if p2 < x19 then (f_X12_wrongPlace_44 (0 : Int32) μ1) else (f_X12_wrongPlace_39 μ1))))
set_option maxRecDepth 100000 in
theorem c_X12_wrongPlace_44 {r : Int32} {F : dtM} (s0 : Int32) (μ : dtM) (h : f_X12_wrongPlace_44 s0 μ = some (r, F)) : dtW yX12_wrongPlace cX12_wrongPlace 3 (some .int) 2 (some (.int r)) F 44 [] [.int s0] μ := by
  rw [f_X12_wrongPlace_44] at h
  cases h
  exact dr_ireturn dX12_wrongPlace_44 rfl
set_option maxRecDepth 100000 in
theorem c_X12_wrongPlace_39 {r : Int32} {F : dtM}  (μ : dtM) (h : f_X12_wrongPlace_39  μ = some (r, F)) : dtW yX12_wrongPlace cX12_wrongPlace 3 (some .int) 2 (some (.int r)) F 39 [] [] μ := by
  rw [f_X12_wrongPlace_39] at h
  refine dr_iconst (3 : Int32) dX12_wrongPlace_39 (by decide) ?_
  refine dr_goto 44 dX12_wrongPlace_40 (by decide) ?_
  exact c_X12_wrongPlace_44 (3 : Int32) μ h
set_option maxRecDepth 100000 in
theorem c_X12_wrongPlace {r : Int32} {F : dtM} (p0 : Nat) (p1 : Int32) (p2 : Int32) (μ : dtM) (h : f_X12_wrongPlace p0 p1 p2 μ = some (r, F)) : dtMet yX12_wrongPlace cX12_wrongPlace 3 (some .int) 2 [.ref p0, .int p1, .int p2] μ (some (.int r)) F := by
  refine dtMet.of (by decide +kernel) (Nat.le_of_ble_eq_true rfl) (show dtW yX12_wrongPlace cX12_wrongPlace 3 (some .int) 2 (some (.int r)) F 0 [some (.ref p0), some (.int p1), some (.int p2)] [] μ from ?_)
  rw [f_X12_wrongPlace] at h
  refine dr_iload_n p1 dX12_wrongPlace_0 rfl ?_
  obtain ⟨x3, μ1, e2, h⟩ := dtCall h
  refine dr_callS_i (S0 := []) [.int p1] x3 μ1 dX12_wrongPlace_1 (c_X12_isTray p1 μ e2) mf_X12_isTray wt_1488 wt_1487 rfl (Nat.le_of_ble_eq_true rfl) (Nat.le_of_ble_eq_true rfl) rfl ?_
  obtain ⟨ht5, hf6⟩ := dtIte h
  refine dr_if_ne 11 dX12_wrongPlace_4 (by decide) (fun hc4 => ?_) (fun hc4 => ?_)
  · have h := hf6 hc4
    refine dr_aload_n p0 dX12_wrongPlace_11 rfl ?_
    obtain ⟨x7, e8, h⟩ := dtBind h
    refine dr_getR x7 dX12_wrongPlace_12 fl_RX12_24 e8 ?_
    refine dr_iload_n p1 dX12_wrongPlace_15 rfl ?_
    obtain ⟨x9, e10, h⟩ := dtBind h
    refine dr_iaload x9 dX12_wrongPlace_16 e10 ?_
    refine dr_iconst (-1 : Int32) dX12_wrongPlace_17 (by decide) ?_
    obtain ⟨ht12, hf13⟩ := dtIte h
    refine dr_icmp_ne 25 dX12_wrongPlace_18 (by decide) (fun hc11 => ?_) (fun hc11 => ?_)
    · have h := hf13 hc11
      refine dr_iload_n p2 dX12_wrongPlace_25 rfl ?_
      obtain ⟨ht15, hf16⟩ := dtIte h
      refine dr_if_lt 39 dX12_wrongPlace_26 (by decide) (fun hc14 => ?_) (fun hc14 => ?_)
      · have h := ht15 hc14
        refine dr_mask [] [] rfl ?_
        exact c_X12_wrongPlace_39 μ1 h
      · have h := hf16 hc14
        refine dr_iload_n p2 dX12_wrongPlace_29 rfl ?_
        refine dr_aload_n p0 dX12_wrongPlace_30 rfl ?_
        obtain ⟨x17, e18, h⟩ := dtBind h
        refine dr_getR x17 dX12_wrongPlace_31 fl_RX12_24 e18 ?_
        refine dr_iload_n p1 dX12_wrongPlace_34 rfl ?_
        obtain ⟨x19, e20, h⟩ := dtBind h
        refine dr_iaload x19 dX12_wrongPlace_35 e20 ?_
        obtain ⟨ht22, hf23⟩ := dtIte h
        refine dr_icmp_lt 43 dX12_wrongPlace_36 (by decide) (fun hc21 => ?_) (fun hc21 => ?_)
        · have h := ht22 hc21
          refine dr_iconst (0 : Int32) dX12_wrongPlace_43 (by decide) ?_
          refine dr_mask [] [] rfl ?_
          exact c_X12_wrongPlace_44 (0 : Int32) μ1 h
        · have h := hf23 hc21
          refine dr_mask [] [] rfl ?_
          exact c_X12_wrongPlace_39 μ1 h
    · have h := ht12 hc11
      refine dr_iconst (2 : Int32) dX12_wrongPlace_21 (by decide) ?_
      refine dr_goto 44 dX12_wrongPlace_22 (by decide) ?_
      refine dr_mask [] [] rfl ?_
      exact c_X12_wrongPlace_44 (2 : Int32) μ1 h
  · have h := ht5 hc4
    refine dr_iconst (1 : Int32) dX12_wrongPlace_7 (by decide) ?_
    refine dr_goto 44 dX12_wrongPlace_8 (by decide) ?_
    refine dr_mask [] [] rfl ?_
    exact c_X12_wrongPlace_44 (1 : Int32) μ1 h
/-! X12_write -/
theorem dX12_write_0 : decode cX12_write 0 = .ok (.aload_n 0, 1) := by decide +kernel
theorem dX12_write_1 : decode cX12_write 1 = .ok (.iload_n 1, 1) := by decide +kernel
theorem dX12_write_2 : decode cX12_write 2 = .ok (.iload_n 2, 1) := by decide +kernel
theorem dX12_write_3 : decode cX12_write 3 = .ok (.invokevirtual 107, 3) := by decide +kernel
theorem dX12_write_6 : decode cX12_write 6 = .ok (.istore 5, 2) := by decide +kernel
theorem dX12_write_8 : decode cX12_write 8 = .ok (.iload 5, 2) := by decide +kernel
theorem dX12_write_10 : decode cX12_write 10 = .ok (.ifCond .ne 24, 3) := by decide +kernel
theorem dX12_write_13 : decode cX12_write 13 = .ok (.aload_n 0, 1) := by decide +kernel
theorem dX12_write_14 : decode cX12_write 14 = .ok (.getfield 27, 3) := by decide +kernel
theorem dX12_write_17 : decode cX12_write 17 = .ok (.bipush 60, 2) := by decide +kernel
theorem dX12_write_19 : decode cX12_write 19 = .ok (.iload_n 1, 1) := by decide +kernel
theorem dX12_write_20 : decode cX12_write 20 = .ok (.imul, 1) := by decide +kernel
theorem dX12_write_21 : decode cX12_write 21 = .ok (.iload_n 2, 1) := by decide +kernel
theorem dX12_write_22 : decode cX12_write 22 = .ok (.iadd, 1) := by decide +kernel
theorem dX12_write_23 : decode cX12_write 23 = .ok (.lload_n 3, 1) := by decide +kernel
theorem dX12_write_24 : decode cX12_write 24 = .ok (.aload_n 0, 1) := by decide +kernel
theorem dX12_write_25 : decode cX12_write 25 = .ok (.getfield 21, 3) := by decide +kernel
theorem dX12_write_28 : decode cX12_write 28 = .ok (.iload_n 1, 1) := by decide +kernel
theorem dX12_write_29 : decode cX12_write 29 = .ok (.iaload, 1) := by decide +kernel
theorem dX12_write_30 : decode cX12_write 30 = .ok (.invokestatic 111, 3) := by decide +kernel
theorem dX12_write_33 : decode cX12_write 33 = .ok (.lastore, 1) := by decide +kernel
theorem dX12_write_34 : decode cX12_write 34 = .ok (.aload_n 0, 1) := by decide +kernel
theorem dX12_write_35 : decode cX12_write 35 = .ok (.iload 5, 2) := by decide +kernel
theorem dX12_write_37 : decode cX12_write 37 = .ok (.invokevirtual 100, 3) := by decide +kernel
theorem dX12_write_40 : decode cX12_write 40 = .ok (.ireturn, 1) := by decide +kernel
set_option maxRecDepth 100000 in
def f_X12_write_34 (l0 : Nat) (l5 : Int32) (μ : dtM) : Option (Int32 × dtM) :=
  (opRv 12 μ l0).bind fun _ => opCall (f_X12_is l0 l5 μ) fun x4 μ2 => opRet x4 μ2
set_option maxRecDepth 100000 in
def f_X12_write (p0 : Nat) (p1 : Int32) (p2 : Int32) (p3 : Int64) (μ : dtM) : Option (Int32 × dtM) :=
  (opRv 12 μ p0).bind fun _ => opCall (f_X12_wrongPlace p0 p1 p2 μ) fun x4 μ2 => if x4 = 0 then ((opGR 12 7 μ2 p0).bind fun x8 => (opGR 12 5 μ2 p0).bind fun x10 => (opLI 1 μ2 x10 p1).bind fun x12 => opCall (f_X12_cut p3 x12 μ2) fun x16 μ14 => (opSJ μ14 x8 (((60 : Int32) * p1) + p2) x16).bind fun μ17 => f_X12_write_34 p0 x4 μ17) else (f_X12_write_34 p0 x4 μ2)
set_option maxRecDepth 100000 in
theorem c_X12_write_34 {r : Int32} {F : dtM} (l0 : Nat) (l5 : Int32) (μ : dtM) (h : f_X12_write_34 l0 l5 μ = some (r, F)) : dtW yX12_write cX12_write 6 (some .boolean) 3 (some (.int r)) F 34 [some (.ref l0), none, none, none, none, some (.int l5)] [] μ := by
  rw [f_X12_write_34] at h
  refine dr_aload_n l0 dX12_write_34 rfl ?_
  refine dr_iload l5 dX12_write_35 rfl ?_
  obtain ⟨_, hb1, h⟩ := dtBind h
  obtain ⟨x4, μ2, e3, h⟩ := dtCall h
  refine dr_callV_i (S0 := []) [.int l5] x4 μ2 dX12_write_37 (c_X12_is l0 l5 μ e3) mf_X12_is wt_1492 ws_53 wt_1490 rfl (dtRv hb1) (by decide) rfl (Nat.le_of_ble_eq_true rfl) (Nat.le_of_ble_eq_true rfl) rfl ?_
  obtain ⟨hz, rfl, rfl⟩ := dtRet h
  exact dr_ireturn dX12_write_40 (dtNz hz)
set_option maxRecDepth 100000 in
theorem c_X12_write {r : Int32} {F : dtM} (p0 : Nat) (p1 : Int32) (p2 : Int32) (p3 : Int64) (μ : dtM) (h : f_X12_write p0 p1 p2 p3 μ = some (r, F)) : dtMet yX12_write cX12_write 6 (some .boolean) 3 [.ref p0, .int p1, .int p2, .long p3] μ (some (.int r)) F := by
  refine dtMet.of (by decide +kernel) (Nat.le_of_ble_eq_true rfl) (show dtW yX12_write cX12_write 6 (some .boolean) 3 (some (.int r)) F 0 [some (.ref p0), some (.int p1), some (.int p2), some (.long p3), none] [] μ from ?_)
  rw [f_X12_write] at h
  refine dr_aload_n p0 dX12_write_0 rfl ?_
  refine dr_iload_n p1 dX12_write_1 rfl ?_
  refine dr_iload_n p2 dX12_write_2 rfl ?_
  obtain ⟨_, hb1, h⟩ := dtBind h
  obtain ⟨x4, μ2, e3, h⟩ := dtCall h
  refine dr_callV_i (S0 := []) [.int p1, .int p2] x4 μ2 dX12_write_3 (c_X12_wrongPlace p0 p1 p2 μ e3) mf_X12_wrongPlace wt_1500 ws_54 wt_1498 rfl (dtRv hb1) (by decide) rfl (Nat.le_of_ble_eq_true rfl) (Nat.le_of_ble_eq_true rfl) rfl ?_
  refine dr_istore [some (.ref p0), some (.int p1), some (.int p2), some (.long p3), none, some (.int x4)] dX12_write_6 rfl rfl rfl ?_
  refine dr_iload x4 dX12_write_8 rfl ?_
  obtain ⟨ht6, hf7⟩ := dtIte h
  refine dr_if_ne 34 dX12_write_10 (by decide) (fun hc5 => ?_) (fun hc5 => ?_)
  · have h := hf7 hc5
    refine dr_mask [true, false, false, false, false, true] [some (.ref p0), none, none, none, none, some (.int x4)] rfl ?_
    exact c_X12_write_34 p0 x4 μ2 h
  · have h := ht6 hc5
    refine dr_aload_n p0 dX12_write_13 rfl ?_
    obtain ⟨x8, e9, h⟩ := dtBind h
    refine dr_getR x8 dX12_write_14 fl_RX12_27 e9 ?_
    refine dr_bipush (60 : Int32) dX12_write_17 (by decide) ?_
    refine dr_iload_n p1 dX12_write_19 rfl ?_
    refine dr_imul dX12_write_20 ?_
    refine dr_iload_n p2 dX12_write_21 rfl ?_
    refine dr_iadd dX12_write_22 ?_
    refine dr_lload_n p3 dX12_write_23 rfl ?_
    refine dr_aload_n p0 dX12_write_24 rfl ?_
    obtain ⟨x10, e11, h⟩ := dtBind h
    refine dr_getR x10 dX12_write_25 fl_RX12_21 e11 ?_
    refine dr_iload_n p1 dX12_write_28 rfl ?_
    obtain ⟨x12, e13, h⟩ := dtBind h
    refine dr_iaload x12 dX12_write_29 e13 ?_
    obtain ⟨x16, μ14, e15, h⟩ := dtCall h
    refine dr_callS_l (S0 := [.int (((60 : Int32) * p1) + p2), .ref x8]) [.long p3, .int x12] x16 μ14 dX12_write_30 (c_X12_cut p3 x12 μ2 e15) mf_X12_cut wt_1503 wt_1502 rfl (Nat.le_of_ble_eq_true rfl) (Nat.le_of_ble_eq_true rfl) rfl ?_
    obtain ⟨μ17, e18, h⟩ := dtBind h
    refine dr_lastore μ17 dX12_write_33 e18 ?_
    refine dr_mask [true, false, false, false, false, true] [some (.ref p0), none, none, none, none, some (.int x4)] rfl ?_
    exact c_X12_write_34 p0 x4 μ17 h
/-! X12_read -/
theorem dX12_read_0 : decode cX12_read 0 = .ok (.aload_n 0, 1) := by decide +kernel
theorem dX12_read_1 : decode cX12_read 1 = .ok (.aload_n 0, 1) := by decide +kernel
theorem dX12_read_2 : decode cX12_read 2 = .ok (.iload_n 1, 1) := by decide +kernel
theorem dX12_read_3 : decode cX12_read 3 = .ok (.iload_n 2, 1) := by decide +kernel
theorem dX12_read_4 : decode cX12_read 4 = .ok (.invokevirtual 107, 3) := by decide +kernel
theorem dX12_read_7 : decode cX12_read 7 = .ok (.putfield 87, 3) := by decide +kernel
theorem dX12_read_10 : decode cX12_read 10 = .ok (.aload_n 0, 1) := by decide +kernel
theorem dX12_read_11 : decode cX12_read 11 = .ok (.getfield 87, 3) := by decide +kernel
theorem dX12_read_14 : decode cX12_read 14 = .ok (.ifCond .le 9, 3) := by decide +kernel
theorem dX12_read_17 : decode cX12_read 17 = .ok (.ldc2_w 115, 3) := by decide +kernel
theorem dX12_read_20 : decode cX12_read 20 = .ok (.goto 14, 3) := by decide +kernel
theorem dX12_read_23 : decode cX12_read 23 = .ok (.aload_n 0, 1) := by decide +kernel
theorem dX12_read_24 : decode cX12_read 24 = .ok (.getfield 27, 3) := by decide +kernel
theorem dX12_read_27 : decode cX12_read 27 = .ok (.bipush 60, 2) := by decide +kernel
theorem dX12_read_29 : decode cX12_read 29 = .ok (.iload_n 1, 1) := by decide +kernel
theorem dX12_read_30 : decode cX12_read 30 = .ok (.imul, 1) := by decide +kernel
theorem dX12_read_31 : decode cX12_read 31 = .ok (.iload_n 2, 1) := by decide +kernel
theorem dX12_read_32 : decode cX12_read 32 = .ok (.iadd, 1) := by decide +kernel
theorem dX12_read_33 : decode cX12_read 33 = .ok (.laload, 1) := by decide +kernel
theorem dX12_read_34 : decode cX12_read 34 = .ok (.lreturn, 1) := by decide +kernel
set_option maxRecDepth 100000 in
def f_X12_read_34 (s0 : Int64) (μ : dtM) : Option (Int64 × dtM) :=
  some (s0, μ)
set_option maxRecDepth 100000 in
def f_X12_read (p0 : Nat) (p1 : Int32) (p2 : Int32) (μ : dtM) : Option (Int64 × dtM) :=
  (opRv 12 μ p0).bind fun _ => opCall (f_X12_wrongPlace p0 p1 p2 μ) fun x4 μ2 => (opPI 12 2 μ2 p0 x4).bind fun μ5 => (opGI 12 2 μ5 p0).bind fun x7 => if x7 ≤ 0 then ((opGR 12 7 μ5 p0).bind fun x12 => (opLJ 3 μ5 x12 (((60 : Int32) * p1) + p2)).bind fun x14 => f_X12_read_34 x14 μ5) else (f_X12_read_34 (-1 : Int64) μ5)
set_option maxRecDepth 100000 in
theorem c_X12_read_34 {r : Int64} {F : dtM} (s0 : Int64) (μ : dtM) (h : f_X12_read_34 s0 μ = some (r, F)) : dtW yX12_read cX12_read 3 (some .long) 3 (some (.long r)) F 34 [] [.long s0] μ := by
  rw [f_X12_read_34] at h
  cases h
  exact dr_lreturn dX12_read_34
set_option maxRecDepth 100000 in
theorem c_X12_read {r : Int64} {F : dtM} (p0 : Nat) (p1 : Int32) (p2 : Int32) (μ : dtM) (h : f_X12_read p0 p1 p2 μ = some (r, F)) : dtMet yX12_read cX12_read 3 (some .long) 3 [.ref p0, .int p1, .int p2] μ (some (.long r)) F := by
  refine dtMet.of (by decide +kernel) (Nat.le_of_ble_eq_true rfl) (show dtW yX12_read cX12_read 3 (some .long) 3 (some (.long r)) F 0 [some (.ref p0), some (.int p1), some (.int p2)] [] μ from ?_)
  rw [f_X12_read] at h
  refine dr_aload_n p0 dX12_read_0 rfl ?_
  refine dr_aload_n p0 dX12_read_1 rfl ?_
  refine dr_iload_n p1 dX12_read_2 rfl ?_
  refine dr_iload_n p2 dX12_read_3 rfl ?_
  obtain ⟨_, hb1, h⟩ := dtBind h
  obtain ⟨x4, μ2, e3, h⟩ := dtCall h
  refine dr_callV_i (S0 := [.ref p0]) [.int p1, .int p2] x4 μ2 dX12_read_4 (c_X12_wrongPlace p0 p1 p2 μ e3) mf_X12_wrongPlace wt_1500 ws_54 wt_1498 rfl (dtRv hb1) (by decide) rfl (Nat.le_of_ble_eq_true rfl) (Nat.le_of_ble_eq_true rfl) rfl ?_
  obtain ⟨μ5, e6, h⟩ := dtBind h
  refine dr_putI μ5 dX12_read_7 fl_RX12_87 rfl e6 ?_
  refine dr_aload_n p0 dX12_read_10 rfl ?_
  obtain ⟨x7, e8, h⟩ := dtBind h
  refine dr_getI x7 dX12_read_11 fl_RX12_87 e8 ?_
  obtain ⟨ht10, hf11⟩ := dtIte h
  refine dr_if_le 23 dX12_read_14 (by decide) (fun hc9 => ?_) (fun hc9 => ?_)
  · have h := ht10 hc9
    refine dr_aload_n p0 dX12_read_23 rfl ?_
    obtain ⟨x12, e13, h⟩ := dtBind h
    refine dr_getR x12 dX12_read_24 fl_RX12_27 e13 ?_
    refine dr_bipush (60 : Int32) dX12_read_27 (by decide) ?_
    refine dr_iload_n p1 dX12_read_29 rfl ?_
    refine dr_imul dX12_read_30 ?_
    refine dr_iload_n p2 dX12_read_31 rfl ?_
    refine dr_iadd dX12_read_32 ?_
    obtain ⟨x14, e15, h⟩ := dtBind h
    refine dr_laload x14 dX12_read_33 e15 ?_
    refine dr_mask [] [] rfl ?_
    exact c_X12_read_34 x14 μ5 h
  · have h := hf11 hc9
    refine dr_ldc2 (-1 : Int64) dX12_read_17 wt_1509 ?_
    refine dr_goto 34 dX12_read_20 (by decide) ?_
    refine dr_mask [] [] rfl ?_
    exact c_X12_read_34 (-1 : Int64) μ5 h
/-! X12_pour -/
theorem dX12_pour_0 : decode cX12_pour 0 = .ok (.iload_n 1, 1) := by decide +kernel
theorem dX12_pour_1 : decode cX12_pour 1 = .ok (.invokestatic 104, 3) := by decide +kernel
theorem dX12_pour_4 : decode cX12_pour 4 = .ok (.ifCond .eq 24, 3) := by decide +kernel
theorem dX12_pour_7 : decode cX12_pour 7 = .ok (.iload_n 3, 1) := by decide +kernel
theorem dX12_pour_8 : decode cX12_pour 8 = .ok (.invokestatic 104, 3) := by decide +kernel
theorem dX12_pour_11 : decode cX12_pour 11 = .ok (.ifCond .eq 17, 3) := by decide +kernel
theorem dX12_pour_14 : decode cX12_pour 14 = .ok (.iload_n 2, 1) := by decide +kernel
theorem dX12_pour_15 : decode cX12_pour 15 = .ok (.ifCond .lt 13, 3) := by decide +kernel
theorem dX12_pour_18 : decode cX12_pour 18 = .ok (.iload 4, 2) := by decide +kernel
theorem dX12_pour_20 : decode cX12_pour 20 = .ok (.ifCond .lt 8, 3) := by decide +kernel
theorem dX12_pour_23 : decode cX12_pour 23 = .ok (.iload 5, 2) := by decide +kernel
theorem dX12_pour_25 : decode cX12_pour 25 = .ok (.ifCond .ge 9, 3) := by decide +kernel
theorem dX12_pour_28 : decode cX12_pour 28 = .ok (.aload_n 0, 1) := by decide +kernel
theorem dX12_pour_29 : decode cX12_pour 29 = .ok (.iconst 1, 1) := by decide +kernel
theorem dX12_pour_30 : decode cX12_pour 30 = .ok (.invokevirtual 100, 3) := by decide +kernel
theorem dX12_pour_33 : decode cX12_pour 33 = .ok (.ireturn, 1) := by decide +kernel
theorem dX12_pour_34 : decode cX12_pour 34 = .ok (.aload_n 0, 1) := by decide +kernel
theorem dX12_pour_35 : decode cX12_pour 35 = .ok (.getfield 24, 3) := by decide +kernel
theorem dX12_pour_38 : decode cX12_pour 38 = .ok (.iload_n 1, 1) := by decide +kernel
theorem dX12_pour_39 : decode cX12_pour 39 = .ok (.iaload, 1) := by decide +kernel
theorem dX12_pour_40 : decode cX12_pour 40 = .ok (.iconst (-1), 1) := by decide +kernel
theorem dX12_pour_41 : decode cX12_pour 41 = .ok (.if_icmp .eq 13, 3) := by decide +kernel
theorem dX12_pour_44 : decode cX12_pour 44 = .ok (.aload_n 0, 1) := by decide +kernel
theorem dX12_pour_45 : decode cX12_pour 45 = .ok (.getfield 24, 3) := by decide +kernel
theorem dX12_pour_48 : decode cX12_pour 48 = .ok (.iload_n 3, 1) := by decide +kernel
theorem dX12_pour_49 : decode cX12_pour 49 = .ok (.iaload, 1) := by decide +kernel
theorem dX12_pour_50 : decode cX12_pour 50 = .ok (.iconst (-1), 1) := by decide +kernel
theorem dX12_pour_51 : decode cX12_pour 51 = .ok (.if_icmp .ne 9, 3) := by decide +kernel
theorem dX12_pour_54 : decode cX12_pour 54 = .ok (.aload_n 0, 1) := by decide +kernel
theorem dX12_pour_55 : decode cX12_pour 55 = .ok (.iconst 2, 1) := by decide +kernel
theorem dX12_pour_56 : decode cX12_pour 56 = .ok (.invokevirtual 100, 3) := by decide +kernel
theorem dX12_pour_59 : decode cX12_pour 59 = .ok (.ireturn, 1) := by decide +kernel
theorem dX12_pour_60 : decode cX12_pour 60 = .ok (.aload_n 0, 1) := by decide +kernel
theorem dX12_pour_61 : decode cX12_pour 61 = .ok (.getfield 21, 3) := by decide +kernel
theorem dX12_pour_64 : decode cX12_pour 64 = .ok (.iload_n 1, 1) := by decide +kernel
theorem dX12_pour_65 : decode cX12_pour 65 = .ok (.iaload, 1) := by decide +kernel
theorem dX12_pour_66 : decode cX12_pour 66 = .ok (.aload_n 0, 1) := by decide +kernel
theorem dX12_pour_67 : decode cX12_pour 67 = .ok (.getfield 21, 3) := by decide +kernel
theorem dX12_pour_70 : decode cX12_pour 70 = .ok (.iload_n 3, 1) := by decide +kernel
theorem dX12_pour_71 : decode cX12_pour 71 = .ok (.iaload, 1) := by decide +kernel
theorem dX12_pour_72 : decode cX12_pour 72 = .ok (.if_icmp .eq 10, 3) := by decide +kernel
theorem dX12_pour_75 : decode cX12_pour 75 = .ok (.aload_n 0, 1) := by decide +kernel
theorem dX12_pour_76 : decode cX12_pour 76 = .ok (.bipush 8, 2) := by decide +kernel
theorem dX12_pour_78 : decode cX12_pour 78 = .ok (.invokevirtual 100, 3) := by decide +kernel
theorem dX12_pour_81 : decode cX12_pour 81 = .ok (.ireturn, 1) := by decide +kernel
theorem dX12_pour_82 : decode cX12_pour 82 = .ok (.iload 5, 2) := by decide +kernel
theorem dX12_pour_84 : decode cX12_pour 84 = .ok (.aload_n 0, 1) := by decide +kernel
theorem dX12_pour_85 : decode cX12_pour 85 = .ok (.getfield 24, 3) := by decide +kernel
theorem dX12_pour_88 : decode cX12_pour 88 = .ok (.iload_n 1, 1) := by decide +kernel
theorem dX12_pour_89 : decode cX12_pour 89 = .ok (.iaload, 1) := by decide +kernel
theorem dX12_pour_90 : decode cX12_pour 90 = .ok (.iload_n 2, 1) := by decide +kernel
theorem dX12_pour_91 : decode cX12_pour 91 = .ok (.isub, 1) := by decide +kernel
theorem dX12_pour_92 : decode cX12_pour 92 = .ok (.if_icmp .gt 17, 3) := by decide +kernel
theorem dX12_pour_95 : decode cX12_pour 95 = .ok (.iload 5, 2) := by decide +kernel
theorem dX12_pour_97 : decode cX12_pour 97 = .ok (.aload_n 0, 1) := by decide +kernel
theorem dX12_pour_98 : decode cX12_pour 98 = .ok (.getfield 24, 3) := by decide +kernel
theorem dX12_pour_101 : decode cX12_pour 101 = .ok (.iload_n 3, 1) := by decide +kernel
theorem dX12_pour_102 : decode cX12_pour 102 = .ok (.iaload, 1) := by decide +kernel
theorem dX12_pour_103 : decode cX12_pour 103 = .ok (.iload 4, 2) := by decide +kernel
theorem dX12_pour_105 : decode cX12_pour 105 = .ok (.isub, 1) := by decide +kernel
theorem dX12_pour_106 : decode cX12_pour 106 = .ok (.if_icmp .le 9, 3) := by decide +kernel
theorem dX12_pour_109 : decode cX12_pour 109 = .ok (.aload_n 0, 1) := by decide +kernel
theorem dX12_pour_110 : decode cX12_pour 110 = .ok (.iconst 3, 1) := by decide +kernel
theorem dX12_pour_111 : decode cX12_pour 111 = .ok (.invokevirtual 100, 3) := by decide +kernel
theorem dX12_pour_114 : decode cX12_pour 114 = .ok (.ireturn, 1) := by decide +kernel
theorem dX12_pour_115 : decode cX12_pour 115 = .ok (.iconst 0, 1) := by decide +kernel
theorem dX12_pour_116 : decode cX12_pour 116 = .ok (.istore 6, 2) := by decide +kernel
theorem dX12_pour_118 : decode cX12_pour 118 = .ok (.iload 6, 2) := by decide +kernel
theorem dX12_pour_120 : decode cX12_pour 120 = .ok (.iload 5, 2) := by decide +kernel
theorem dX12_pour_122 : decode cX12_pour 122 = .ok (.if_icmp .ge 58, 3) := by decide +kernel
theorem dX12_pour_125 : decode cX12_pour 125 = .ok (.iload_n 2, 1) := by decide +kernel
theorem dX12_pour_126 : decode cX12_pour 126 = .ok (.iload 4, 2) := by decide +kernel
theorem dX12_pour_128 : decode cX12_pour 128 = .ok (.if_icmp .ge 13, 3) := by decide +kernel
theorem dX12_pour_131 : decode cX12_pour 131 = .ok (.iload 5, 2) := by decide +kernel
theorem dX12_pour_133 : decode cX12_pour 133 = .ok (.iconst 1, 1) := by decide +kernel
theorem dX12_pour_134 : decode cX12_pour 134 = .ok (.isub, 1) := by decide +kernel
theorem dX12_pour_135 : decode cX12_pour 135 = .ok (.iload 6, 2) := by decide +kernel
theorem dX12_pour_137 : decode cX12_pour 137 = .ok (.isub, 1) := by decide +kernel
theorem dX12_pour_138 : decode cX12_pour 138 = .ok (.goto 5, 3) := by decide +kernel
theorem dX12_pour_141 : decode cX12_pour 141 = .ok (.iload 6, 2) := by decide +kernel
theorem dX12_pour_143 : decode cX12_pour 143 = .ok (.istore 7, 2) := by decide +kernel
theorem dX12_pour_145 : decode cX12_pour 145 = .ok (.aload_n 0, 1) := by decide +kernel
theorem dX12_pour_146 : decode cX12_pour 146 = .ok (.getfield 27, 3) := by decide +kernel
theorem dX12_pour_149 : decode cX12_pour 149 = .ok (.bipush 60, 2) := by decide +kernel
theorem dX12_pour_151 : decode cX12_pour 151 = .ok (.iload_n 3, 1) := by decide +kernel
theorem dX12_pour_152 : decode cX12_pour 152 = .ok (.imul, 1) := by decide +kernel
theorem dX12_pour_153 : decode cX12_pour 153 = .ok (.iload 4, 2) := by decide +kernel
theorem dX12_pour_155 : decode cX12_pour 155 = .ok (.iadd, 1) := by decide +kernel
theorem dX12_pour_156 : decode cX12_pour 156 = .ok (.iload 7, 2) := by decide +kernel
theorem dX12_pour_158 : decode cX12_pour 158 = .ok (.iadd, 1) := by decide +kernel
theorem dX12_pour_159 : decode cX12_pour 159 = .ok (.aload_n 0, 1) := by decide +kernel
theorem dX12_pour_160 : decode cX12_pour 160 = .ok (.getfield 27, 3) := by decide +kernel
theorem dX12_pour_163 : decode cX12_pour 163 = .ok (.bipush 60, 2) := by decide +kernel
theorem dX12_pour_165 : decode cX12_pour 165 = .ok (.iload_n 1, 1) := by decide +kernel
theorem dX12_pour_166 : decode cX12_pour 166 = .ok (.imul, 1) := by decide +kernel
theorem dX12_pour_167 : decode cX12_pour 167 = .ok (.iload_n 2, 1) := by decide +kernel
theorem dX12_pour_168 : decode cX12_pour 168 = .ok (.iadd, 1) := by decide +kernel
theorem dX12_pour_169 : decode cX12_pour 169 = .ok (.iload 7, 2) := by decide +kernel
theorem dX12_pour_171 : decode cX12_pour 171 = .ok (.iadd, 1) := by decide +kernel
theorem dX12_pour_172 : decode cX12_pour 172 = .ok (.laload, 1) := by decide +kernel
theorem dX12_pour_173 : decode cX12_pour 173 = .ok (.lastore, 1) := by decide +kernel
theorem dX12_pour_174 : decode cX12_pour 174 = .ok (.iinc 6 1, 3) := by decide +kernel
theorem dX12_pour_177 : decode cX12_pour 177 = .ok (.goto (-59), 3) := by decide +kernel
theorem dX12_pour_180 : decode cX12_pour 180 = .ok (.aload_n 0, 1) := by decide +kernel
theorem dX12_pour_181 : decode cX12_pour 181 = .ok (.iconst 0, 1) := by decide +kernel
theorem dX12_pour_182 : decode cX12_pour 182 = .ok (.invokevirtual 100, 3) := by decide +kernel
theorem dX12_pour_185 : decode cX12_pour 185 = .ok (.ireturn, 1) := by decide +kernel
set_option maxRecDepth 100000 in
def f_X12_pour_28 (l0 : Nat) (μ : dtM) : Option (Int32 × dtM) :=
  (opRv 12 μ l0).bind fun _ => opCall (f_X12_is l0 (1 : Int32) μ) fun x4 μ2 => opRet x4 μ2
set_option maxRecDepth 100000 in
def f_X12_pour_54 (l0 : Nat) (μ : dtM) : Option (Int32 × dtM) :=
  (opRv 12 μ l0).bind fun _ => opCall (f_X12_is l0 (2 : Int32) μ) fun x4 μ2 => opRet x4 μ2
set_option maxRecDepth 100000 in
def f_X12_pour_109 (l0 : Nat) (μ : dtM) : Option (Int32 × dtM) :=
  (opRv 12 μ l0).bind fun _ => opCall (f_X12_is l0 (3 : Int32) μ) fun x4 μ2 => opRet x4 μ2
set_option maxRecDepth 100000 in
def f_X12_pour_143 (k118 : Nat → Int32 → Int32 → Int32 → Int32 → Int32 → Int32 → dtM → Option (Int32 × dtM)) (l0 : Nat) (l1 : Int32) (l2 : Int32) (l3 : Int32) (l4 : Int32) (l5 : Int32) (l6 : Int32) (s0 : Int32) (μ : dtM) : Option (Int32 × dtM) :=
  (opGR 12 7 μ l0).bind fun x1 => (opGR 12 7 μ l0).bind fun x3 => (opLJ 3 μ x3 ((((60 : Int32) * l1) + l2) + s0)).bind fun x5 => (opSJ μ x1 ((((60 : Int32) * l3) + l4) + s0) x5).bind fun μ7 => k118 l0 l1 l2 l3 l4 l5 (l6 + 1) μ7
set_option maxRecDepth 100000 in
def f_X12_pour_118 : Nat → Nat → Int32 → Int32 → Int32 → Int32 → Int32 → Int32 → dtM → Option (Int32 × dtM)
  | 0, _, _, _, _, _, _, _, _ => none
  | n + 1, l0, l1, l2, l3, l4, l5, l6, μ =>
    if l5 ≤ l6 then ((opRv 12 μ l0).bind fun _ => opCall (f_X12_is l0 (0 : Int32) μ) fun x7 μ5 => opRet x7 μ5) else (if l4 ≤ l2 then (f_X12_pour_143 (f_X12_pour_118 n) l0 l1 l2 l3 l4 l5 l6 l6 μ) else (f_X12_pour_143 (f_X12_pour_118 n) l0 l1 l2 l3 l4 l5 l6 ((l5 - (1 : Int32)) - l6) μ))
set_option maxRecDepth 100000 in
def f_X12_pour (p0 : Nat) (p1 : Int32) (p2 : Int32) (p3 : Int32) (p4 : Int32) (p5 : Int32) (μ : dtM) : Option (Int32 × dtM) :=
  opCall (f_X12_isTray p1 μ) fun x3 μ1 => if x3 = 0 then (f_X12_pour_28 p0 μ1) else (opCall (f_X12_isTray p3 μ1) fun x9 μ7 => if x9 = 0 then (f_X12_pour_28 p0 μ7) else (if p2 < 0 then (f_X12_pour_28 p0 μ7) else (if p4 < 0 then (f_X12_pour_28 p0 μ7) else (if 0 ≤ p5 then ((opGR 12 6 μ7 p0).bind fun x22 => (opLI 1 μ7 x22 p1).bind fun x24 => if x24 = (-1 : Int32) then (f_X12_pour_54 p0 μ7) else ((opGR 12 6 μ7 p0).bind fun x29 => (opLI 1 μ7 x29 p3).bind fun x31 => if x31 = (-1 : Int32) then (f_X12_pour_54 p0 μ7) else ((opGR 12 5 μ7 p0).bind fun x36 => (opLI 1 μ7 x36 p1).bind fun x38 => (opGR 12 5 μ7 p0).bind fun x40 => (opLI 1 μ7 x40 p3).bind fun x42 => if x38 = x42 then ((opGR 12 6 μ7 p0).bind fun x47 => (opLI 1 μ7 x47 p1).bind fun x49 => if (x49 - p2) < p5 then (f_X12_pour_109 p0 μ7) else ((opGR 12 6 μ7 p0).bind fun x54 => (opLI 1 μ7 x54 p3).bind fun x56 => if p5 ≤ (x56 - p4) then (f_X12_pour_118 dtFuel p0 p1 p2 p3 p4 p5 (0 : Int32) μ7) else (f_X12_pour_109 p0 μ7))) else ((opRv 12 μ7 p0).bind fun _ => opCall (f_X12_is p0 (8 : Int32) μ7) fun x64 μ62 => opRet x64 μ62)))) else (f_X12_pour_28 p0 μ7)))))
set_option maxRecDepth 100000 in
theorem c_X12_pour_28 {r : Int32} {F : dtM} (l0 : Nat) (μ : dtM) (h : f_X12_pour_28 l0 μ = some (r, F)) : dtW yX12_pour cX12_pour 8 (some .boolean) 2 (some (.int r)) F 28 [some (.ref l0)] [] μ := by
  rw [f_X12_pour_28] at h
  refine dr_aload_n l0 dX12_pour_28 rfl ?_
  refine dr_iconst (1 : Int32) dX12_pour_29 (by decide) ?_
  obtain ⟨_, hb1, h⟩ := dtBind h
  obtain ⟨x4, μ2, e3, h⟩ := dtCall h
  refine dr_callV_i (S0 := []) [.int (1 : Int32)] x4 μ2 dX12_pour_30 (c_X12_is l0 (1 : Int32) μ e3) mf_X12_is wt_1492 ws_53 wt_1490 rfl (dtRv hb1) (by decide) rfl (Nat.le_of_ble_eq_true rfl) (Nat.le_of_ble_eq_true rfl) rfl ?_
  obtain ⟨hz, rfl, rfl⟩ := dtRet h
  exact dr_ireturn dX12_pour_33 (dtNz hz)
set_option maxRecDepth 100000 in
theorem c_X12_pour_54 {r : Int32} {F : dtM} (l0 : Nat) (μ : dtM) (h : f_X12_pour_54 l0 μ = some (r, F)) : dtW yX12_pour cX12_pour 8 (some .boolean) 2 (some (.int r)) F 54 [some (.ref l0)] [] μ := by
  rw [f_X12_pour_54] at h
  refine dr_aload_n l0 dX12_pour_54 rfl ?_
  refine dr_iconst (2 : Int32) dX12_pour_55 (by decide) ?_
  obtain ⟨_, hb1, h⟩ := dtBind h
  obtain ⟨x4, μ2, e3, h⟩ := dtCall h
  refine dr_callV_i (S0 := []) [.int (2 : Int32)] x4 μ2 dX12_pour_56 (c_X12_is l0 (2 : Int32) μ e3) mf_X12_is wt_1492 ws_53 wt_1490 rfl (dtRv hb1) (by decide) rfl (Nat.le_of_ble_eq_true rfl) (Nat.le_of_ble_eq_true rfl) rfl ?_
  obtain ⟨hz, rfl, rfl⟩ := dtRet h
  exact dr_ireturn dX12_pour_59 (dtNz hz)
set_option maxRecDepth 100000 in
theorem c_X12_pour_109 {r : Int32} {F : dtM} (l0 : Nat) (μ : dtM) (h : f_X12_pour_109 l0 μ = some (r, F)) : dtW yX12_pour cX12_pour 8 (some .boolean) 2 (some (.int r)) F 109 [some (.ref l0)] [] μ := by
  rw [f_X12_pour_109] at h
  refine dr_aload_n l0 dX12_pour_109 rfl ?_
  refine dr_iconst (3 : Int32) dX12_pour_110 (by decide) ?_
  obtain ⟨_, hb1, h⟩ := dtBind h
  obtain ⟨x4, μ2, e3, h⟩ := dtCall h
  refine dr_callV_i (S0 := []) [.int (3 : Int32)] x4 μ2 dX12_pour_111 (c_X12_is l0 (3 : Int32) μ e3) mf_X12_is wt_1492 ws_53 wt_1490 rfl (dtRv hb1) (by decide) rfl (Nat.le_of_ble_eq_true rfl) (Nat.le_of_ble_eq_true rfl) rfl ?_
  obtain ⟨hz, rfl, rfl⟩ := dtRet h
  exact dr_ireturn dX12_pour_114 (dtNz hz)
set_option maxRecDepth 100000 in
theorem c_X12_pour_143 {r : Int32} {F : dtM} (k118 : Nat → Int32 → Int32 → Int32 → Int32 → Int32 → Int32 → dtM → Option (Int32 × dtM)) (hk118 : ∀ (l0 : Nat) (l1 : Int32) (l2 : Int32) (l3 : Int32) (l4 : Int32) (l5 : Int32) (l6 : Int32) (μ : dtM), k118 l0 l1 l2 l3 l4 l5 l6 μ = some (r, F) → dtW yX12_pour cX12_pour 8 (some .boolean) 2 (some (.int r)) F 118 [some (.ref l0), some (.int l1), some (.int l2), some (.int l3), some (.int l4), some (.int l5), some (.int l6)] [] μ) (l0 : Nat) (l1 : Int32) (l2 : Int32) (l3 : Int32) (l4 : Int32) (l5 : Int32) (l6 : Int32) (s0 : Int32) (μ : dtM) (h : f_X12_pour_143 k118 l0 l1 l2 l3 l4 l5 l6 s0 μ = some (r, F)) : dtW yX12_pour cX12_pour 8 (some .boolean) 2 (some (.int r)) F 143 [some (.ref l0), some (.int l1), some (.int l2), some (.int l3), some (.int l4), some (.int l5), some (.int l6)] [.int s0] μ := by
  rw [f_X12_pour_143] at h
  refine dr_istore [some (.ref l0), some (.int l1), some (.int l2), some (.int l3), some (.int l4), some (.int l5), some (.int l6), some (.int s0)] dX12_pour_143 rfl rfl rfl ?_
  refine dr_aload_n l0 dX12_pour_145 rfl ?_
  obtain ⟨x1, e2, h⟩ := dtBind h
  refine dr_getR x1 dX12_pour_146 fl_RX12_27 e2 ?_
  refine dr_bipush (60 : Int32) dX12_pour_149 (by decide) ?_
  refine dr_iload_n l3 dX12_pour_151 rfl ?_
  refine dr_imul dX12_pour_152 ?_
  refine dr_iload l4 dX12_pour_153 rfl ?_
  refine dr_iadd dX12_pour_155 ?_
  refine dr_iload s0 dX12_pour_156 rfl ?_
  refine dr_iadd dX12_pour_158 ?_
  refine dr_aload_n l0 dX12_pour_159 rfl ?_
  obtain ⟨x3, e4, h⟩ := dtBind h
  refine dr_getR x3 dX12_pour_160 fl_RX12_27 e4 ?_
  refine dr_bipush (60 : Int32) dX12_pour_163 (by decide) ?_
  refine dr_iload_n l1 dX12_pour_165 rfl ?_
  refine dr_imul dX12_pour_166 ?_
  refine dr_iload_n l2 dX12_pour_167 rfl ?_
  refine dr_iadd dX12_pour_168 ?_
  refine dr_iload s0 dX12_pour_169 rfl ?_
  refine dr_iadd dX12_pour_171 ?_
  obtain ⟨x5, e6, h⟩ := dtBind h
  refine dr_laload x5 dX12_pour_172 e6 ?_
  obtain ⟨μ7, e8, h⟩ := dtBind h
  refine dr_lastore μ7 dX12_pour_173 e8 ?_
  refine dr_iinc l6 (l6 + 1) [some (.ref l0), some (.int l1), some (.int l2), some (.int l3), some (.int l4), some (.int l5), some (.int (l6 + 1)), some (.int s0)] dX12_pour_174 rfl rfl rfl rfl rfl ?_
  refine dr_goto 118 dX12_pour_177 (by decide) ?_
  refine dr_mask [true, true, true, true, true, true, true] [some (.ref l0), some (.int l1), some (.int l2), some (.int l3), some (.int l4), some (.int l5), some (.int (l6 + 1))] rfl ?_
  exact hk118 l0 l1 l2 l3 l4 l5 (l6 + 1) μ7 h
set_option maxRecDepth 100000 in
theorem c_X12_pour_118 {r : Int32} {F : dtM} : ∀ (n : Nat) (l0 : Nat) (l1 : Int32) (l2 : Int32) (l3 : Int32) (l4 : Int32) (l5 : Int32) (l6 : Int32) (μ : dtM), f_X12_pour_118 n l0 l1 l2 l3 l4 l5 l6 μ = some (r, F) → dtW yX12_pour cX12_pour 8 (some .boolean) 2 (some (.int r)) F 118 [some (.ref l0), some (.int l1), some (.int l2), some (.int l3), some (.int l4), some (.int l5), some (.int l6)] [] μ := by
  intro n
  induction n with
  | zero => intro l0 l1 l2 l3 l4 l5 l6 μ h; cases h
  | succ n ih =>
    intro l0 l1 l2 l3 l4 l5 l6 μ h
    have h := (show f_X12_pour_118 (n + 1) l0 l1 l2 l3 l4 l5 l6 μ = some _ from h)
    rw [f_X12_pour_118] at h
    refine dr_iload l6 dX12_pour_118 rfl ?_
    refine dr_iload l5 dX12_pour_120 rfl ?_
    obtain ⟨ht2, hf3⟩ := dtIte h
    refine dr_icmp_ge 180 dX12_pour_122 (by decide) (fun hc1 => ?_) (fun hc1 => ?_)
    · have h := ht2 hc1
      refine dr_aload_n l0 dX12_pour_180 rfl ?_
      refine dr_iconst (0 : Int32) dX12_pour_181 (by decide) ?_
      obtain ⟨_, hb4, h⟩ := dtBind h
      obtain ⟨x7, μ5, e6, h⟩ := dtCall h
      refine dr_callV_i (S0 := []) [.int (0 : Int32)] x7 μ5 dX12_pour_182 (c_X12_is l0 (0 : Int32) μ e6) mf_X12_is wt_1492 ws_53 wt_1490 rfl (dtRv hb4) (by decide) rfl (Nat.le_of_ble_eq_true rfl) (Nat.le_of_ble_eq_true rfl) rfl ?_
      obtain ⟨hz, rfl, rfl⟩ := dtRet h
      exact dr_ireturn dX12_pour_185 (dtNz hz)
    · have h := hf3 hc1
      refine dr_iload_n l2 dX12_pour_125 rfl ?_
      refine dr_iload l4 dX12_pour_126 rfl ?_
      obtain ⟨ht9, hf10⟩ := dtIte h
      refine dr_icmp_ge 141 dX12_pour_128 (by decide) (fun hc8 => ?_) (fun hc8 => ?_)
      · have h := ht9 hc8
        refine dr_iload l6 dX12_pour_141 rfl ?_
        exact c_X12_pour_143 (f_X12_pour_118 n) ih l0 l1 l2 l3 l4 l5 l6 l6 μ h
      · have h := hf10 hc8
        refine dr_iload l5 dX12_pour_131 rfl ?_
        refine dr_iconst (1 : Int32) dX12_pour_133 (by decide) ?_
        refine dr_isub dX12_pour_134 ?_
        refine dr_iload l6 dX12_pour_135 rfl ?_
        refine dr_isub dX12_pour_137 ?_
        refine dr_goto 143 dX12_pour_138 (by decide) ?_
        exact c_X12_pour_143 (f_X12_pour_118 n) ih l0 l1 l2 l3 l4 l5 l6 ((l5 - (1 : Int32)) - l6) μ h
set_option maxRecDepth 100000 in
theorem c_X12_pour {r : Int32} {F : dtM} (p0 : Nat) (p1 : Int32) (p2 : Int32) (p3 : Int32) (p4 : Int32) (p5 : Int32) (μ : dtM) (h : f_X12_pour p0 p1 p2 p3 p4 p5 μ = some (r, F)) : dtMet yX12_pour cX12_pour 8 (some .boolean) 2 [.ref p0, .int p1, .int p2, .int p3, .int p4, .int p5] μ (some (.int r)) F := by
  refine dtMet.of (by decide +kernel) (Nat.le_of_ble_eq_true rfl) (show dtW yX12_pour cX12_pour 8 (some .boolean) 2 (some (.int r)) F 0 [some (.ref p0), some (.int p1), some (.int p2), some (.int p3), some (.int p4), some (.int p5)] [] μ from ?_)
  rw [f_X12_pour] at h
  refine dr_iload_n p1 dX12_pour_0 rfl ?_
  obtain ⟨x3, μ1, e2, h⟩ := dtCall h
  refine dr_callS_i (S0 := []) [.int p1] x3 μ1 dX12_pour_1 (c_X12_isTray p1 μ e2) mf_X12_isTray wt_1488 wt_1487 rfl (Nat.le_of_ble_eq_true rfl) (Nat.le_of_ble_eq_true rfl) rfl ?_
  obtain ⟨ht5, hf6⟩ := dtIte h
  refine dr_if_eq 28 dX12_pour_4 (by decide) (fun hc4 => ?_) (fun hc4 => ?_)
  · have h := ht5 hc4
    refine dr_mask [true] [some (.ref p0)] rfl ?_
    exact c_X12_pour_28 p0 μ1 h
  · have h := hf6 hc4
    refine dr_iload_n p3 dX12_pour_7 rfl ?_
    obtain ⟨x9, μ7, e8, h⟩ := dtCall h
    refine dr_callS_i (S0 := []) [.int p3] x9 μ7 dX12_pour_8 (c_X12_isTray p3 μ1 e8) mf_X12_isTray wt_1488 wt_1487 rfl (Nat.le_of_ble_eq_true rfl) (Nat.le_of_ble_eq_true rfl) rfl ?_
    obtain ⟨ht11, hf12⟩ := dtIte h
    refine dr_if_eq 28 dX12_pour_11 (by decide) (fun hc10 => ?_) (fun hc10 => ?_)
    · have h := ht11 hc10
      refine dr_mask [true] [some (.ref p0)] rfl ?_
      exact c_X12_pour_28 p0 μ7 h
    · have h := hf12 hc10
      refine dr_iload_n p2 dX12_pour_14 rfl ?_
      obtain ⟨ht14, hf15⟩ := dtIte h
      refine dr_if_lt 28 dX12_pour_15 (by decide) (fun hc13 => ?_) (fun hc13 => ?_)
      · have h := ht14 hc13
        refine dr_mask [true] [some (.ref p0)] rfl ?_
        exact c_X12_pour_28 p0 μ7 h
      · have h := hf15 hc13
        refine dr_iload p4 dX12_pour_18 rfl ?_
        obtain ⟨ht17, hf18⟩ := dtIte h
        refine dr_if_lt 28 dX12_pour_20 (by decide) (fun hc16 => ?_) (fun hc16 => ?_)
        · have h := ht17 hc16
          refine dr_mask [true] [some (.ref p0)] rfl ?_
          exact c_X12_pour_28 p0 μ7 h
        · have h := hf18 hc16
          refine dr_iload p5 dX12_pour_23 rfl ?_
          obtain ⟨ht20, hf21⟩ := dtIte h
          refine dr_if_ge 34 dX12_pour_25 (by decide) (fun hc19 => ?_) (fun hc19 => ?_)
          · have h := ht20 hc19
            refine dr_aload_n p0 dX12_pour_34 rfl ?_
            obtain ⟨x22, e23, h⟩ := dtBind h
            refine dr_getR x22 dX12_pour_35 fl_RX12_24 e23 ?_
            refine dr_iload_n p1 dX12_pour_38 rfl ?_
            obtain ⟨x24, e25, h⟩ := dtBind h
            refine dr_iaload x24 dX12_pour_39 e25 ?_
            refine dr_iconst (-1 : Int32) dX12_pour_40 (by decide) ?_
            obtain ⟨ht27, hf28⟩ := dtIte h
            refine dr_icmp_eq 54 dX12_pour_41 (by decide) (fun hc26 => ?_) (fun hc26 => ?_)
            · have h := ht27 hc26
              refine dr_mask [true] [some (.ref p0)] rfl ?_
              exact c_X12_pour_54 p0 μ7 h
            · have h := hf28 hc26
              refine dr_aload_n p0 dX12_pour_44 rfl ?_
              obtain ⟨x29, e30, h⟩ := dtBind h
              refine dr_getR x29 dX12_pour_45 fl_RX12_24 e30 ?_
              refine dr_iload_n p3 dX12_pour_48 rfl ?_
              obtain ⟨x31, e32, h⟩ := dtBind h
              refine dr_iaload x31 dX12_pour_49 e32 ?_
              refine dr_iconst (-1 : Int32) dX12_pour_50 (by decide) ?_
              obtain ⟨ht34, hf35⟩ := dtIte h
              refine dr_icmp_ne 60 dX12_pour_51 (by decide) (fun hc33 => ?_) (fun hc33 => ?_)
              · have h := hf35 hc33
                refine dr_aload_n p0 dX12_pour_60 rfl ?_
                obtain ⟨x36, e37, h⟩ := dtBind h
                refine dr_getR x36 dX12_pour_61 fl_RX12_21 e37 ?_
                refine dr_iload_n p1 dX12_pour_64 rfl ?_
                obtain ⟨x38, e39, h⟩ := dtBind h
                refine dr_iaload x38 dX12_pour_65 e39 ?_
                refine dr_aload_n p0 dX12_pour_66 rfl ?_
                obtain ⟨x40, e41, h⟩ := dtBind h
                refine dr_getR x40 dX12_pour_67 fl_RX12_21 e41 ?_
                refine dr_iload_n p3 dX12_pour_70 rfl ?_
                obtain ⟨x42, e43, h⟩ := dtBind h
                refine dr_iaload x42 dX12_pour_71 e43 ?_
                obtain ⟨ht45, hf46⟩ := dtIte h
                refine dr_icmp_eq 82 dX12_pour_72 (by decide) (fun hc44 => ?_) (fun hc44 => ?_)
                · have h := ht45 hc44
                  refine dr_iload p5 dX12_pour_82 rfl ?_
                  refine dr_aload_n p0 dX12_pour_84 rfl ?_
                  obtain ⟨x47, e48, h⟩ := dtBind h
                  refine dr_getR x47 dX12_pour_85 fl_RX12_24 e48 ?_
                  refine dr_iload_n p1 dX12_pour_88 rfl ?_
                  obtain ⟨x49, e50, h⟩ := dtBind h
                  refine dr_iaload x49 dX12_pour_89 e50 ?_
                  refine dr_iload_n p2 dX12_pour_90 rfl ?_
                  refine dr_isub dX12_pour_91 ?_
                  obtain ⟨ht52, hf53⟩ := dtIte h
                  refine dr_icmp_gt 109 dX12_pour_92 (by decide) (fun hc51 => ?_) (fun hc51 => ?_)
                  · have h := ht52 hc51
                    refine dr_mask [true] [some (.ref p0)] rfl ?_
                    exact c_X12_pour_109 p0 μ7 h
                  · have h := hf53 hc51
                    refine dr_iload p5 dX12_pour_95 rfl ?_
                    refine dr_aload_n p0 dX12_pour_97 rfl ?_
                    obtain ⟨x54, e55, h⟩ := dtBind h
                    refine dr_getR x54 dX12_pour_98 fl_RX12_24 e55 ?_
                    refine dr_iload_n p3 dX12_pour_101 rfl ?_
                    obtain ⟨x56, e57, h⟩ := dtBind h
                    refine dr_iaload x56 dX12_pour_102 e57 ?_
                    refine dr_iload p4 dX12_pour_103 rfl ?_
                    refine dr_isub dX12_pour_105 ?_
                    obtain ⟨ht59, hf60⟩ := dtIte h
                    refine dr_icmp_le 115 dX12_pour_106 (by decide) (fun hc58 => ?_) (fun hc58 => ?_)
                    · have h := ht59 hc58
                      refine dr_iconst (0 : Int32) dX12_pour_115 (by decide) ?_
                      refine dr_istore [some (.ref p0), some (.int p1), some (.int p2), some (.int p3), some (.int p4), some (.int p5), some (.int (0 : Int32))] dX12_pour_116 rfl rfl rfl ?_
                      exact c_X12_pour_118 dtFuel p0 p1 p2 p3 p4 p5 (0 : Int32) μ7 h
                    · have h := hf60 hc58
                      refine dr_mask [true] [some (.ref p0)] rfl ?_
                      exact c_X12_pour_109 p0 μ7 h
                · have h := hf46 hc44
                  refine dr_aload_n p0 dX12_pour_75 rfl ?_
                  refine dr_bipush (8 : Int32) dX12_pour_76 (by decide) ?_
                  obtain ⟨_, hb61, h⟩ := dtBind h
                  obtain ⟨x64, μ62, e63, h⟩ := dtCall h
                  refine dr_callV_i (S0 := []) [.int (8 : Int32)] x64 μ62 dX12_pour_78 (c_X12_is p0 (8 : Int32) μ7 e63) mf_X12_is wt_1492 ws_53 wt_1490 rfl (dtRv hb61) (by decide) rfl (Nat.le_of_ble_eq_true rfl) (Nat.le_of_ble_eq_true rfl) rfl ?_
                  obtain ⟨hz, rfl, rfl⟩ := dtRet h
                  exact dr_ireturn dX12_pour_81 (dtNz hz)
              · have h := ht34 hc33
                refine dr_mask [true] [some (.ref p0)] rfl ?_
                exact c_X12_pour_54 p0 μ7 h
          · have h := hf21 hc19
            refine dr_mask [true] [some (.ref p0)] rfl ?_
            exact c_X12_pour_28 p0 μ7 h
/-! X12_isFrom -/
theorem dX12_isFrom_0 : decode cX12_isFrom 0 = .ok (.lload_n 0, 1) := by decide +kernel
theorem dX12_isFrom_1 : decode cX12_isFrom 1 = .ok (.lload_n 2, 1) := by decide +kernel
theorem dX12_isFrom_2 : decode cX12_isFrom 2 = .ok (.lcmp, 1) := by decide +kernel
theorem dX12_isFrom_3 : decode cX12_isFrom 3 = .ok (.ifCond .lt 14, 3) := by decide +kernel
theorem dX12_isFrom_6 : decode cX12_isFrom 6 = .ok (.lload_n 0, 1) := by decide +kernel
theorem dX12_isFrom_7 : decode cX12_isFrom 7 = .ok (.lload 4, 2) := by decide +kernel
theorem dX12_isFrom_9 : decode cX12_isFrom 9 = .ok (.lcmp, 1) := by decide +kernel
theorem dX12_isFrom_10 : decode cX12_isFrom 10 = .ok (.ifCond .gt 7, 3) := by decide +kernel
theorem dX12_isFrom_13 : decode cX12_isFrom 13 = .ok (.iconst 1, 1) := by decide +kernel
theorem dX12_isFrom_14 : decode cX12_isFrom 14 = .ok (.goto 4, 3) := by decide +kernel
theorem dX12_isFrom_17 : decode cX12_isFrom 17 = .ok (.iconst 0, 1) := by decide +kernel
theorem dX12_isFrom_18 : decode cX12_isFrom 18 = .ok (.ireturn, 1) := by decide +kernel
set_option maxRecDepth 100000 in
def f_X12_isFrom_18 (s0 : Int32) (μ : dtM) : Option (Int32 × dtM) :=
  opRet s0 μ
set_option maxRecDepth 100000 in
def f_X12_isFrom_17  (μ : dtM) : Option (Int32 × dtM) :=
  f_X12_isFrom_18 (0 : Int32) μ
set_option maxRecDepth 100000 in
def f_X12_isFrom (p0 : Int64) (p2 : Int64) (p4 : Int64) (μ : dtM) : Option (Int32 × dtM) :=
  if (lg_cmp p0 p2) < 0 then (f_X12_isFrom_17 μ) else (if 0 < (lg_cmp p0 p4) then (f_X12_isFrom_17 μ) else (f_X12_isFrom_18 (1 : Int32) μ))
set_option maxRecDepth 100000 in
theorem c_X12_isFrom_18 {r : Int32} {F : dtM} (s0 : Int32) (μ : dtM) (h : f_X12_isFrom_18 s0 μ = some (r, F)) : dtW yX12_isFrom cX12_isFrom 6 (some .boolean) 1 (some (.int r)) F 18 [] [.int s0] μ := by
  rw [f_X12_isFrom_18] at h
  obtain ⟨hz, rfl, rfl⟩ := dtRet h
  exact dr_ireturn dX12_isFrom_18 (dtNz hz)
set_option maxRecDepth 100000 in
theorem c_X12_isFrom_17 {r : Int32} {F : dtM}  (μ : dtM) (h : f_X12_isFrom_17  μ = some (r, F)) : dtW yX12_isFrom cX12_isFrom 6 (some .boolean) 1 (some (.int r)) F 17 [] [] μ := by
  rw [f_X12_isFrom_17] at h
  refine dr_iconst (0 : Int32) dX12_isFrom_17 (by decide) ?_
  exact c_X12_isFrom_18 (0 : Int32) μ h
set_option maxRecDepth 100000 in
theorem c_X12_isFrom {r : Int32} {F : dtM} (p0 : Int64) (p2 : Int64) (p4 : Int64) (μ : dtM) (h : f_X12_isFrom p0 p2 p4 μ = some (r, F)) : dtMet yX12_isFrom cX12_isFrom 6 (some .boolean) 1 [.long p0, .long p2, .long p4] μ (some (.int r)) F := by
  refine dtMet.of (by decide +kernel) (Nat.le_of_ble_eq_true rfl) (show dtW yX12_isFrom cX12_isFrom 6 (some .boolean) 1 (some (.int r)) F 0 [some (.long p0), none, some (.long p2), none, some (.long p4), none] [] μ from ?_)
  rw [f_X12_isFrom] at h
  refine dr_lload_n p0 dX12_isFrom_0 rfl ?_
  refine dr_lload_n p2 dX12_isFrom_1 rfl ?_
  refine dr_lcmp dX12_isFrom_2 ?_
  obtain ⟨ht2, hf3⟩ := dtIte h
  refine dr_if_lt 17 dX12_isFrom_3 (by decide) (fun hc1 => ?_) (fun hc1 => ?_)
  · have h := ht2 hc1
    refine dr_mask [] [] rfl ?_
    exact c_X12_isFrom_17 μ h
  · have h := hf3 hc1
    refine dr_lload_n p0 dX12_isFrom_6 rfl ?_
    refine dr_lload p4 dX12_isFrom_7 rfl ?_
    refine dr_lcmp dX12_isFrom_9 ?_
    obtain ⟨ht5, hf6⟩ := dtIte h
    refine dr_if_gt 17 dX12_isFrom_10 (by decide) (fun hc4 => ?_) (fun hc4 => ?_)
    · have h := ht5 hc4
      refine dr_mask [] [] rfl ?_
      exact c_X12_isFrom_17 μ h
    · have h := hf6 hc4
      refine dr_iconst (1 : Int32) dX12_isFrom_13 (by decide) ?_
      refine dr_goto 18 dX12_isFrom_14 (by decide) ?_
      refine dr_mask [] [] rfl ?_
      exact c_X12_isFrom_18 (1 : Int32) μ h
/-! X12_four -/
theorem dX12_four_0 : decode cX12_four 0 = .ok (.bipush 24, 2) := by decide +kernel
theorem dX12_four_2 : decode cX12_four 2 = .ok (.istore_n 2, 1) := by decide +kernel
theorem dX12_four_3 : decode cX12_four 3 = .ok (.iload_n 2, 1) := by decide +kernel
theorem dX12_four_4 : decode cX12_four 4 = .ok (.ifCond .lt 32, 3) := by decide +kernel
theorem dX12_four_7 : decode cX12_four 7 = .ok (.aload_n 0, 1) := by decide +kernel
theorem dX12_four_8 : decode cX12_four 8 = .ok (.getfield 30, 3) := by decide +kernel
theorem dX12_four_11 : decode cX12_four 11 = .ok (.aload_n 0, 1) := by decide +kernel
theorem dX12_four_12 : decode cX12_four 12 = .ok (.getfield 117, 3) := by decide +kernel
theorem dX12_four_15 : decode cX12_four 15 = .ok (.iload_n 1, 1) := by decide +kernel
theorem dX12_four_16 : decode cX12_four 16 = .ok (.iload_n 2, 1) := by decide +kernel
theorem dX12_four_17 : decode cX12_four 17 = .ok (.ishr, 1) := by decide +kernel
theorem dX12_four_18 : decode cX12_four 18 = .ok (.i2b, 1) := by decide +kernel
theorem dX12_four_19 : decode cX12_four 19 = .ok (.bastore, 1) := by decide +kernel
theorem dX12_four_20 : decode cX12_four 20 = .ok (.aload_n 0, 1) := by decide +kernel
theorem dX12_four_21 : decode cX12_four 21 = .ok (.dup, 1) := by decide +kernel
theorem dX12_four_22 : decode cX12_four 22 = .ok (.getfield 117, 3) := by decide +kernel
theorem dX12_four_25 : decode cX12_four 25 = .ok (.iconst 1, 1) := by decide +kernel
theorem dX12_four_26 : decode cX12_four 26 = .ok (.iadd, 1) := by decide +kernel
theorem dX12_four_27 : decode cX12_four 27 = .ok (.putfield 117, 3) := by decide +kernel
theorem dX12_four_30 : decode cX12_four 30 = .ok (.iinc 2 (-8), 3) := by decide +kernel
theorem dX12_four_33 : decode cX12_four 33 = .ok (.goto (-30), 3) := by decide +kernel
theorem dX12_four_36 : decode cX12_four 36 = .ok (.return_, 1) := by decide +kernel
set_option maxRecDepth 100000 in
def f_X12_four_3 : Nat → Nat → Int32 → Int32 → dtM → Option dtM
  | 0, _, _, _, _ => none
  | n + 1, l0, l1, l2, μ =>
    if l2 < 0 then (some μ) else ((opGR 12 8 μ l0).bind fun x4 => (opGI 12 10 μ l0).bind fun x6 => (opSB μ x4 x6 ((l1 >>> (l2 &&& 31)).toInt8.toInt32)).bind fun μ8 => (opGI 12 10 μ8 l0).bind fun x10 => (opPI 12 10 μ8 l0 (x10 + (1 : Int32))).bind fun μ12 => f_X12_four_3 n l0 l1 (l2 + (-8)) μ12)
set_option maxRecDepth 100000 in
def f_X12_four (p0 : Nat) (p1 : Int32) (μ : dtM) : Option dtM :=
  f_X12_four_3 dtFuel p0 p1 (24 : Int32) μ
set_option maxRecDepth 100000 in
theorem c_X12_four_3 {F : dtM} : ∀ (n : Nat) (l0 : Nat) (l1 : Int32) (l2 : Int32) (μ : dtM), f_X12_four_3 n l0 l1 l2 μ = some F → dtW yX12_four cX12_four 3 (none) 1 (none) F 3 [some (.ref l0), some (.int l1), some (.int l2)] [] μ := by
  intro n
  induction n with
  | zero => intro l0 l1 l2 μ h; cases h
  | succ n ih =>
    intro l0 l1 l2 μ h
    have h := (show f_X12_four_3 (n + 1) l0 l1 l2 μ = some _ from h)
    rw [f_X12_four_3] at h
    refine dr_iload_n l2 dX12_four_3 rfl ?_
    obtain ⟨ht2, hf3⟩ := dtIte h
    refine dr_if_lt 36 dX12_four_4 (by decide) (fun hc1 => ?_) (fun hc1 => ?_)
    · have h := ht2 hc1
      cases h
      exact dr_return dX12_four_36
    · have h := hf3 hc1
      refine dr_aload_n l0 dX12_four_7 rfl ?_
      obtain ⟨x4, e5, h⟩ := dtBind h
      refine dr_getR x4 dX12_four_8 fl_RX12_30 e5 ?_
      refine dr_aload_n l0 dX12_four_11 rfl ?_
      obtain ⟨x6, e7, h⟩ := dtBind h
      refine dr_getI x6 dX12_four_12 fl_RX12_117 e7 ?_
      refine dr_iload_n l1 dX12_four_15 rfl ?_
      refine dr_iload_n l2 dX12_four_16 rfl ?_
      refine dr_ishr dX12_four_17 ?_
      refine dr_i2b dX12_four_18 ?_
      obtain ⟨μ8, e9, h⟩ := dtBind h
      refine dr_bastore μ8 dX12_four_19 e9 ?_
      refine dr_aload_n l0 dX12_four_20 rfl ?_
      refine dr_dup dX12_four_21 rfl ?_
      obtain ⟨x10, e11, h⟩ := dtBind h
      refine dr_getI x10 dX12_four_22 fl_RX12_117 e11 ?_
      refine dr_iconst (1 : Int32) dX12_four_25 (by decide) ?_
      refine dr_iadd dX12_four_26 ?_
      obtain ⟨μ12, e13, h⟩ := dtBind h
      refine dr_putI μ12 dX12_four_27 fl_RX12_117 rfl e13 ?_
      refine dr_iinc l2 (l2 + (-8)) [some (.ref l0), some (.int l1), some (.int (l2 + (-8)))] dX12_four_30 rfl rfl rfl rfl rfl ?_
      refine dr_goto 3 dX12_four_33 (by decide) ?_
      exact ih l0 l1 (l2 + (-8)) μ12 h
set_option maxRecDepth 100000 in
theorem c_X12_four {F : dtM} (p0 : Nat) (p1 : Int32) (μ : dtM) (h : f_X12_four p0 p1 μ = some F) : dtMet yX12_four cX12_four 3 (none) 1 [.ref p0, .int p1] μ (none) F := by
  refine dtMet.of (by decide +kernel) (Nat.le_of_ble_eq_true rfl) (show dtW yX12_four cX12_four 3 (none) 1 (none) F 0 [some (.ref p0), some (.int p1)] [] μ from ?_)
  rw [f_X12_four] at h
  refine dr_bipush (24 : Int32) dX12_four_0 (by decide) ?_
  refine dr_istore_n 2 [some (.ref p0), some (.int p1), some (.int (24 : Int32))] dX12_four_2 rfl rfl rfl rfl ?_
  exact c_X12_four_3 dtFuel p0 p1 (24 : Int32) μ h
/-! X12_feed -/
theorem dX12_feed_0 : decode cX12_feed 0 = .ok (.aload_n 0, 1) := by decide +kernel
theorem dX12_feed_1 : decode cX12_feed 1 = .ok (.getfield 117, 3) := by decide +kernel
theorem dX12_feed_4 : decode cX12_feed 4 = .ok (.bipush 20, 2) := by decide +kernel
theorem dX12_feed_6 : decode cX12_feed 6 = .ok (.iadd, 1) := by decide +kernel
theorem dX12_feed_7 : decode cX12_feed 7 = .ok (.sipush 900, 3) := by decide +kernel
theorem dX12_feed_10 : decode cX12_feed 10 = .ok (.if_icmp .le 5, 3) := by decide +kernel
theorem dX12_feed_13 : decode cX12_feed 13 = .ok (.iconst (-1), 1) := by decide +kernel
theorem dX12_feed_14 : decode cX12_feed 14 = .ok (.ireturn, 1) := by decide +kernel
theorem dX12_feed_15 : decode cX12_feed 15 = .ok (.aload_n 0, 1) := by decide +kernel
theorem dX12_feed_16 : decode cX12_feed 16 = .ok (.iload_n 1, 1) := by decide +kernel
theorem dX12_feed_17 : decode cX12_feed 17 = .ok (.invokevirtual 120, 3) := by decide +kernel
theorem dX12_feed_20 : decode cX12_feed 20 = .ok (.aload_n 0, 1) := by decide +kernel
theorem dX12_feed_21 : decode cX12_feed 21 = .ok (.iload_n 2, 1) := by decide +kernel
theorem dX12_feed_22 : decode cX12_feed 22 = .ok (.invokevirtual 120, 3) := by decide +kernel
theorem dX12_feed_25 : decode cX12_feed 25 = .ok (.aload_n 0, 1) := by decide +kernel
theorem dX12_feed_26 : decode cX12_feed 26 = .ok (.iload_n 3, 1) := by decide +kernel
theorem dX12_feed_27 : decode cX12_feed 27 = .ok (.invokevirtual 120, 3) := by decide +kernel
theorem dX12_feed_30 : decode cX12_feed 30 = .ok (.aload_n 0, 1) := by decide +kernel
theorem dX12_feed_31 : decode cX12_feed 31 = .ok (.iload 4, 2) := by decide +kernel
theorem dX12_feed_33 : decode cX12_feed 33 = .ok (.invokevirtual 120, 3) := by decide +kernel
theorem dX12_feed_36 : decode cX12_feed 36 = .ok (.aload_n 0, 1) := by decide +kernel
theorem dX12_feed_37 : decode cX12_feed 37 = .ok (.iload 5, 2) := by decide +kernel
theorem dX12_feed_39 : decode cX12_feed 39 = .ok (.invokevirtual 120, 3) := by decide +kernel
theorem dX12_feed_42 : decode cX12_feed 42 = .ok (.aload_n 0, 1) := by decide +kernel
theorem dX12_feed_43 : decode cX12_feed 43 = .ok (.getfield 117, 3) := by decide +kernel
theorem dX12_feed_46 : decode cX12_feed 46 = .ok (.ireturn, 1) := by decide +kernel
set_option maxRecDepth 100000 in
def f_X12_feed (p0 : Nat) (p1 : Int32) (p2 : Int32) (p3 : Int32) (p4 : Int32) (p5 : Int32) (μ : dtM) : Option (Int32 × dtM) :=
  (opGI 12 10 μ p0).bind fun x1 => if (x1 + (20 : Int32)) ≤ (900 : Int32) then ((opRv 12 μ p0).bind fun _ => (f_X12_four p0 p1 μ).bind fun μ7 => (opRv 12 μ7 p0).bind fun _ => (f_X12_four p0 p2 μ7).bind fun μ10 => (opRv 12 μ10 p0).bind fun _ => (f_X12_four p0 p3 μ10).bind fun μ13 => (opRv 12 μ13 p0).bind fun _ => (f_X12_four p0 p4 μ13).bind fun μ16 => (opRv 12 μ16 p0).bind fun _ => (f_X12_four p0 p5 μ16).bind fun μ19 => (opGI 12 10 μ19 p0).bind fun x21 => some (x21, μ19)) else (some ((-1 : Int32), μ))
set_option maxRecDepth 100000 in
theorem c_X12_feed {r : Int32} {F : dtM} (p0 : Nat) (p1 : Int32) (p2 : Int32) (p3 : Int32) (p4 : Int32) (p5 : Int32) (μ : dtM) (h : f_X12_feed p0 p1 p2 p3 p4 p5 μ = some (r, F)) : dtMet yX12_feed cX12_feed 6 (some .int) 2 [.ref p0, .int p1, .int p2, .int p3, .int p4, .int p5] μ (some (.int r)) F := by
  refine dtMet.of (by decide +kernel) (Nat.le_of_ble_eq_true rfl) (show dtW yX12_feed cX12_feed 6 (some .int) 2 (some (.int r)) F 0 [some (.ref p0), some (.int p1), some (.int p2), some (.int p3), some (.int p4), some (.int p5)] [] μ from ?_)
  rw [f_X12_feed] at h
  refine dr_aload_n p0 dX12_feed_0 rfl ?_
  obtain ⟨x1, e2, h⟩ := dtBind h
  refine dr_getI x1 dX12_feed_1 fl_RX12_117 e2 ?_
  refine dr_bipush (20 : Int32) dX12_feed_4 (by decide) ?_
  refine dr_iadd dX12_feed_6 ?_
  refine dr_sipush (900 : Int32) dX12_feed_7 (by decide) ?_
  obtain ⟨ht4, hf5⟩ := dtIte h
  refine dr_icmp_le 15 dX12_feed_10 (by decide) (fun hc3 => ?_) (fun hc3 => ?_)
  · have h := ht4 hc3
    refine dr_aload_n p0 dX12_feed_15 rfl ?_
    refine dr_iload_n p1 dX12_feed_16 rfl ?_
    obtain ⟨_, hb6, h⟩ := dtBind h
    obtain ⟨μ7, e8, h⟩ := dtBind h
    refine dr_callV_v (S0 := []) [.int p1] μ7 dX12_feed_17 (c_X12_four p0 p1 μ e8) mf_X12_four wt_1520 ws_55 wt_1518 rfl (dtRv hb6) (by decide) rfl (Nat.le_of_ble_eq_true rfl) (Nat.le_of_ble_eq_true rfl) rfl ?_
    refine dr_aload_n p0 dX12_feed_20 rfl ?_
    refine dr_iload_n p2 dX12_feed_21 rfl ?_
    obtain ⟨_, hb9, h⟩ := dtBind h
    obtain ⟨μ10, e11, h⟩ := dtBind h
    refine dr_callV_v (S0 := []) [.int p2] μ10 dX12_feed_22 (c_X12_four p0 p2 μ7 e11) mf_X12_four wt_1520 ws_55 wt_1518 rfl (dtRv hb9) (by decide) rfl (Nat.le_of_ble_eq_true rfl) (Nat.le_of_ble_eq_true rfl) rfl ?_
    refine dr_aload_n p0 dX12_feed_25 rfl ?_
    refine dr_iload_n p3 dX12_feed_26 rfl ?_
    obtain ⟨_, hb12, h⟩ := dtBind h
    obtain ⟨μ13, e14, h⟩ := dtBind h
    refine dr_callV_v (S0 := []) [.int p3] μ13 dX12_feed_27 (c_X12_four p0 p3 μ10 e14) mf_X12_four wt_1520 ws_55 wt_1518 rfl (dtRv hb12) (by decide) rfl (Nat.le_of_ble_eq_true rfl) (Nat.le_of_ble_eq_true rfl) rfl ?_
    refine dr_aload_n p0 dX12_feed_30 rfl ?_
    refine dr_iload p4 dX12_feed_31 rfl ?_
    obtain ⟨_, hb15, h⟩ := dtBind h
    obtain ⟨μ16, e17, h⟩ := dtBind h
    refine dr_callV_v (S0 := []) [.int p4] μ16 dX12_feed_33 (c_X12_four p0 p4 μ13 e17) mf_X12_four wt_1520 ws_55 wt_1518 rfl (dtRv hb15) (by decide) rfl (Nat.le_of_ble_eq_true rfl) (Nat.le_of_ble_eq_true rfl) rfl ?_
    refine dr_aload_n p0 dX12_feed_36 rfl ?_
    refine dr_iload p5 dX12_feed_37 rfl ?_
    obtain ⟨_, hb18, h⟩ := dtBind h
    obtain ⟨μ19, e20, h⟩ := dtBind h
    refine dr_callV_v (S0 := []) [.int p5] μ19 dX12_feed_39 (c_X12_four p0 p5 μ16 e20) mf_X12_four wt_1520 ws_55 wt_1518 rfl (dtRv hb18) (by decide) rfl (Nat.le_of_ble_eq_true rfl) (Nat.le_of_ble_eq_true rfl) rfl ?_
    refine dr_aload_n p0 dX12_feed_42 rfl ?_
    obtain ⟨x21, e22, h⟩ := dtBind h
    refine dr_getI x21 dX12_feed_43 fl_RX12_117 e22 ?_
    cases h
    exact dr_ireturn dX12_feed_46 rfl
  · have h := hf5 hc3
    refine dr_iconst (-1 : Int32) dX12_feed_13 (by decide) ?_
    cases h
    exact dr_ireturn dX12_feed_14 rfl
/-! X12_byteAt -/
theorem dX12_byteAt_0 : decode cX12_byteAt 0 = .ok (.iload_n 1, 1) := by decide +kernel
theorem dX12_byteAt_1 : decode cX12_byteAt 1 = .ok (.aload_n 0, 1) := by decide +kernel
theorem dX12_byteAt_2 : decode cX12_byteAt 2 = .ok (.getfield 123, 3) := by decide +kernel
theorem dX12_byteAt_5 : decode cX12_byteAt 5 = .ok (.if_icmp .ge 16, 3) := by decide +kernel
theorem dX12_byteAt_8 : decode cX12_byteAt 8 = .ok (.aload_n 0, 1) := by decide +kernel
theorem dX12_byteAt_9 : decode cX12_byteAt 9 = .ok (.getfield 34, 3) := by decide +kernel
theorem dX12_byteAt_12 : decode cX12_byteAt 12 = .ok (.iload_n 1, 1) := by decide +kernel
theorem dX12_byteAt_13 : decode cX12_byteAt 13 = .ok (.baload, 1) := by decide +kernel
theorem dX12_byteAt_14 : decode cX12_byteAt 14 = .ok (.sipush 255, 3) := by decide +kernel
theorem dX12_byteAt_17 : decode cX12_byteAt 17 = .ok (.iand, 1) := by decide +kernel
theorem dX12_byteAt_18 : decode cX12_byteAt 18 = .ok (.goto 4, 3) := by decide +kernel
theorem dX12_byteAt_21 : decode cX12_byteAt 21 = .ok (.iconst (-1), 1) := by decide +kernel
theorem dX12_byteAt_22 : decode cX12_byteAt 22 = .ok (.ireturn, 1) := by decide +kernel
set_option maxRecDepth 100000 in
def f_X12_byteAt_22 (s0 : Int32) (μ : dtM) : Option (Int32 × dtM) :=
  some (s0, μ)
set_option maxRecDepth 100000 in
def f_X12_byteAt (p0 : Nat) (p1 : Int32) (μ : dtM) : Option (Int32 × dtM) :=
  (opGI 12 11 μ p0).bind fun x1 => if x1 ≤ p1 then (f_X12_byteAt_22 (-1 : Int32) μ) else ((opGR 12 9 μ p0).bind fun x6 => (opLI 2 μ x6 p1).bind fun x8 => f_X12_byteAt_22 (x8 &&& (255 : Int32)) μ)
set_option maxRecDepth 100000 in
theorem c_X12_byteAt_22 {r : Int32} {F : dtM} (s0 : Int32) (μ : dtM) (h : f_X12_byteAt_22 s0 μ = some (r, F)) : dtW yX12_byteAt cX12_byteAt 2 (some .int) 1 (some (.int r)) F 22 [] [.int s0] μ := by
  rw [f_X12_byteAt_22] at h
  cases h
  exact dr_ireturn dX12_byteAt_22 rfl
set_option maxRecDepth 100000 in
theorem c_X12_byteAt {r : Int32} {F : dtM} (p0 : Nat) (p1 : Int32) (μ : dtM) (h : f_X12_byteAt p0 p1 μ = some (r, F)) : dtMet yX12_byteAt cX12_byteAt 2 (some .int) 1 [.ref p0, .int p1] μ (some (.int r)) F := by
  refine dtMet.of (by decide +kernel) (Nat.le_of_ble_eq_true rfl) (show dtW yX12_byteAt cX12_byteAt 2 (some .int) 1 (some (.int r)) F 0 [some (.ref p0), some (.int p1)] [] μ from ?_)
  rw [f_X12_byteAt] at h
  refine dr_iload_n p1 dX12_byteAt_0 rfl ?_
  refine dr_aload_n p0 dX12_byteAt_1 rfl ?_
  obtain ⟨x1, e2, h⟩ := dtBind h
  refine dr_getI x1 dX12_byteAt_2 fl_RX12_123 e2 ?_
  obtain ⟨ht4, hf5⟩ := dtIte h
  refine dr_icmp_ge 21 dX12_byteAt_5 (by decide) (fun hc3 => ?_) (fun hc3 => ?_)
  · have h := ht4 hc3
    refine dr_iconst (-1 : Int32) dX12_byteAt_21 (by decide) ?_
    refine dr_mask [] [] rfl ?_
    exact c_X12_byteAt_22 (-1 : Int32) μ h
  · have h := hf5 hc3
    refine dr_aload_n p0 dX12_byteAt_8 rfl ?_
    obtain ⟨x6, e7, h⟩ := dtBind h
    refine dr_getR x6 dX12_byteAt_9 fl_RX12_34 e7 ?_
    refine dr_iload_n p1 dX12_byteAt_12 rfl ?_
    obtain ⟨x8, e9, h⟩ := dtBind h
    refine dr_baload x8 dX12_byteAt_13 e9 ?_
    refine dr_sipush (255 : Int32) dX12_byteAt_14 (by decide) ?_
    refine dr_iand dX12_byteAt_17 ?_
    refine dr_goto 22 dX12_byteAt_18 (by decide) ?_
    refine dr_mask [] [] rfl ?_
    exact c_X12_byteAt_22 (x8 &&& (255 : Int32)) μ h
/-! X12_isSmall -/
theorem dX12_isSmall_0 : decode cX12_isSmall 0 = .ok (.iload_n 0, 1) := by decide +kernel
theorem dX12_isSmall_1 : decode cX12_isSmall 1 = .ok (.bipush 97, 2) := by decide +kernel
theorem dX12_isSmall_3 : decode cX12_isSmall 3 = .ok (.if_icmp .lt 13, 3) := by decide +kernel
theorem dX12_isSmall_6 : decode cX12_isSmall 6 = .ok (.iload_n 0, 1) := by decide +kernel
theorem dX12_isSmall_7 : decode cX12_isSmall 7 = .ok (.bipush 122, 2) := by decide +kernel
theorem dX12_isSmall_9 : decode cX12_isSmall 9 = .ok (.if_icmp .gt 7, 3) := by decide +kernel
theorem dX12_isSmall_12 : decode cX12_isSmall 12 = .ok (.iconst 1, 1) := by decide +kernel
theorem dX12_isSmall_13 : decode cX12_isSmall 13 = .ok (.goto 4, 3) := by decide +kernel
theorem dX12_isSmall_16 : decode cX12_isSmall 16 = .ok (.iconst 0, 1) := by decide +kernel
theorem dX12_isSmall_17 : decode cX12_isSmall 17 = .ok (.ireturn, 1) := by decide +kernel
set_option maxRecDepth 100000 in
def f_X12_isSmall_17 (s0 : Int32) (μ : dtM) : Option (Int32 × dtM) :=
  opRet s0 μ
set_option maxRecDepth 100000 in
def f_X12_isSmall_16  (μ : dtM) : Option (Int32 × dtM) :=
  f_X12_isSmall_17 (0 : Int32) μ
set_option maxRecDepth 100000 in
def f_X12_isSmall (p0 : Int32) (μ : dtM) : Option (Int32 × dtM) :=
  if p0 < (97 : Int32) then (f_X12_isSmall_16 μ) else (if (122 : Int32) < p0 then (f_X12_isSmall_16 μ) else (f_X12_isSmall_17 (1 : Int32) μ))
set_option maxRecDepth 100000 in
theorem c_X12_isSmall_17 {r : Int32} {F : dtM} (s0 : Int32) (μ : dtM) (h : f_X12_isSmall_17 s0 μ = some (r, F)) : dtW yX12_isSmall cX12_isSmall 1 (some .boolean) 1 (some (.int r)) F 17 [] [.int s0] μ := by
  rw [f_X12_isSmall_17] at h
  obtain ⟨hz, rfl, rfl⟩ := dtRet h
  exact dr_ireturn dX12_isSmall_17 (dtNz hz)
set_option maxRecDepth 100000 in
theorem c_X12_isSmall_16 {r : Int32} {F : dtM}  (μ : dtM) (h : f_X12_isSmall_16  μ = some (r, F)) : dtW yX12_isSmall cX12_isSmall 1 (some .boolean) 1 (some (.int r)) F 16 [] [] μ := by
  rw [f_X12_isSmall_16] at h
  refine dr_iconst (0 : Int32) dX12_isSmall_16 (by decide) ?_
  exact c_X12_isSmall_17 (0 : Int32) μ h
set_option maxRecDepth 100000 in
theorem c_X12_isSmall {r : Int32} {F : dtM} (p0 : Int32) (μ : dtM) (h : f_X12_isSmall p0 μ = some (r, F)) : dtMet yX12_isSmall cX12_isSmall 1 (some .boolean) 1 [.int p0] μ (some (.int r)) F := by
  refine dtMet.of (by decide +kernel) (Nat.le_of_ble_eq_true rfl) (show dtW yX12_isSmall cX12_isSmall 1 (some .boolean) 1 (some (.int r)) F 0 [some (.int p0)] [] μ from ?_)
  rw [f_X12_isSmall] at h
  refine dr_iload_n p0 dX12_isSmall_0 rfl ?_
  refine dr_bipush (97 : Int32) dX12_isSmall_1 (by decide) ?_
  obtain ⟨ht2, hf3⟩ := dtIte h
  refine dr_icmp_lt 16 dX12_isSmall_3 (by decide) (fun hc1 => ?_) (fun hc1 => ?_)
  · have h := ht2 hc1
    refine dr_mask [] [] rfl ?_
    exact c_X12_isSmall_16 μ h
  · have h := hf3 hc1
    refine dr_iload_n p0 dX12_isSmall_6 rfl ?_
    refine dr_bipush (122 : Int32) dX12_isSmall_7 (by decide) ?_
    obtain ⟨ht5, hf6⟩ := dtIte h
    refine dr_icmp_gt 16 dX12_isSmall_9 (by decide) (fun hc4 => ?_) (fun hc4 => ?_)
    · have h := ht5 hc4
      refine dr_mask [] [] rfl ?_
      exact c_X12_isSmall_16 μ h
    · have h := hf6 hc4
      refine dr_iconst (1 : Int32) dX12_isSmall_12 (by decide) ?_
      refine dr_goto 17 dX12_isSmall_13 (by decide) ?_
      refine dr_mask [] [] rfl ?_
      exact c_X12_isSmall_17 (1 : Int32) μ h
/-! X12_isDigit -/
theorem dX12_isDigit_0 : decode cX12_isDigit 0 = .ok (.iload_n 0, 1) := by decide +kernel
theorem dX12_isDigit_1 : decode cX12_isDigit 1 = .ok (.bipush 48, 2) := by decide +kernel
theorem dX12_isDigit_3 : decode cX12_isDigit 3 = .ok (.if_icmp .lt 13, 3) := by decide +kernel
theorem dX12_isDigit_6 : decode cX12_isDigit 6 = .ok (.iload_n 0, 1) := by decide +kernel
theorem dX12_isDigit_7 : decode cX12_isDigit 7 = .ok (.bipush 57, 2) := by decide +kernel
theorem dX12_isDigit_9 : decode cX12_isDigit 9 = .ok (.if_icmp .gt 7, 3) := by decide +kernel
theorem dX12_isDigit_12 : decode cX12_isDigit 12 = .ok (.iconst 1, 1) := by decide +kernel
theorem dX12_isDigit_13 : decode cX12_isDigit 13 = .ok (.goto 4, 3) := by decide +kernel
theorem dX12_isDigit_16 : decode cX12_isDigit 16 = .ok (.iconst 0, 1) := by decide +kernel
theorem dX12_isDigit_17 : decode cX12_isDigit 17 = .ok (.ireturn, 1) := by decide +kernel
set_option maxRecDepth 100000 in
def f_X12_isDigit_17 (s0 : Int32) (μ : dtM) : Option (Int32 × dtM) :=
  opRet s0 μ
set_option maxRecDepth 100000 in
def f_X12_isDigit_16  (μ : dtM) : Option (Int32 × dtM) :=
  f_X12_isDigit_17 (0 : Int32) μ
set_option maxRecDepth 100000 in
def f_X12_isDigit (p0 : Int32) (μ : dtM) : Option (Int32 × dtM) :=
  if p0 < (48 : Int32) then (f_X12_isDigit_16 μ) else (if (57 : Int32) < p0 then (f_X12_isDigit_16 μ) else (f_X12_isDigit_17 (1 : Int32) μ))
set_option maxRecDepth 100000 in
theorem c_X12_isDigit_17 {r : Int32} {F : dtM} (s0 : Int32) (μ : dtM) (h : f_X12_isDigit_17 s0 μ = some (r, F)) : dtW yX12_isDigit cX12_isDigit 1 (some .boolean) 1 (some (.int r)) F 17 [] [.int s0] μ := by
  rw [f_X12_isDigit_17] at h
  obtain ⟨hz, rfl, rfl⟩ := dtRet h
  exact dr_ireturn dX12_isDigit_17 (dtNz hz)
set_option maxRecDepth 100000 in
theorem c_X12_isDigit_16 {r : Int32} {F : dtM}  (μ : dtM) (h : f_X12_isDigit_16  μ = some (r, F)) : dtW yX12_isDigit cX12_isDigit 1 (some .boolean) 1 (some (.int r)) F 16 [] [] μ := by
  rw [f_X12_isDigit_16] at h
  refine dr_iconst (0 : Int32) dX12_isDigit_16 (by decide) ?_
  exact c_X12_isDigit_17 (0 : Int32) μ h
set_option maxRecDepth 100000 in
theorem c_X12_isDigit {r : Int32} {F : dtM} (p0 : Int32) (μ : dtM) (h : f_X12_isDigit p0 μ = some (r, F)) : dtMet yX12_isDigit cX12_isDigit 1 (some .boolean) 1 [.int p0] μ (some (.int r)) F := by
  refine dtMet.of (by decide +kernel) (Nat.le_of_ble_eq_true rfl) (show dtW yX12_isDigit cX12_isDigit 1 (some .boolean) 1 (some (.int r)) F 0 [some (.int p0)] [] μ from ?_)
  rw [f_X12_isDigit] at h
  refine dr_iload_n p0 dX12_isDigit_0 rfl ?_
  refine dr_bipush (48 : Int32) dX12_isDigit_1 (by decide) ?_
  obtain ⟨ht2, hf3⟩ := dtIte h
  refine dr_icmp_lt 16 dX12_isDigit_3 (by decide) (fun hc1 => ?_) (fun hc1 => ?_)
  · have h := ht2 hc1
    refine dr_mask [] [] rfl ?_
    exact c_X12_isDigit_16 μ h
  · have h := hf3 hc1
    refine dr_iload_n p0 dX12_isDigit_6 rfl ?_
    refine dr_bipush (57 : Int32) dX12_isDigit_7 (by decide) ?_
    obtain ⟨ht5, hf6⟩ := dtIte h
    refine dr_icmp_gt 16 dX12_isDigit_9 (by decide) (fun hc4 => ?_) (fun hc4 => ?_)
    · have h := ht5 hc4
      refine dr_mask [] [] rfl ?_
      exact c_X12_isDigit_16 μ h
    · have h := hf6 hc4
      refine dr_iconst (1 : Int32) dX12_isDigit_12 (by decide) ?_
      refine dr_goto 17 dX12_isDigit_13 (by decide) ?_
      refine dr_mask [] [] rfl ?_
      exact c_X12_isDigit_17 (1 : Int32) μ h
