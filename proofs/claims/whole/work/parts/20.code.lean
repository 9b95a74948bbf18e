/-! X12_says -/
theorem dX12_says_0 : decode cX12_says 0 = .ok (.aload_n 0, 1) := by decide +kernel
theorem dX12_says_1 : decode cX12_says 1 = .ok (.iload_n 1, 1) := by decide +kernel
theorem dX12_says_2 : decode cX12_says 2 = .ok (.invokevirtual 304, 3) := by decide +kernel
theorem dX12_says_5 : decode cX12_says 5 = .ok (.ifCond .eq 19, 3) := by decide +kernel
theorem dX12_says_8 : decode cX12_says 8 = .ok (.aload_n 0, 1) := by decide +kernel
theorem dX12_says_9 : decode cX12_says 9 = .ok (.aload_n 0, 1) := by decide +kernel
theorem dX12_says_10 : decode cX12_says 10 = .ok (.getfield 7, 3) := by decide +kernel
theorem dX12_says_13 : decode cX12_says 13 = .ok (.iload_n 1, 1) := by decide +kernel
theorem dX12_says_14 : decode cX12_says 14 = .ok (.invokestatic 222, 3) := by decide +kernel
theorem dX12_says_17 : decode cX12_says 17 = .ok (.iaload, 1) := by decide +kernel
theorem dX12_says_18 : decode cX12_says 18 = .ok (.invokevirtual 97, 3) := by decide +kernel
theorem dX12_says_21 : decode cX12_says 21 = .ok (.goto 8, 3) := by decide +kernel
theorem dX12_says_24 : decode cX12_says 24 = .ok (.aload_n 0, 1) := by decide +kernel
theorem dX12_says_25 : decode cX12_says 25 = .ok (.iconst 1, 1) := by decide +kernel
theorem dX12_says_26 : decode cX12_says 26 = .ok (.invokevirtual 93, 3) := by decide +kernel
theorem dX12_says_29 : decode cX12_says 29 = .ok (.ireturn, 1) := by decide +kernel
set_option maxRecDepth 100000 in
def f_X12_says_29 (s0 : Int32) (μ : dtM) : Option (Int32 × dtM) :=
  some (s0, μ)
set_option maxRecDepth 100000 in
def f_X12_says (p0 : Nat) (p1 : Int32) (μ : dtM) : Option (Int32 × dtM) :=
  (opRv 12 μ p0).bind fun _ => opCall (f_X12_isWord p0 p1 μ) fun x4 μ2 => if x4 = 0 then ((opRv 12 μ2 p0).bind fun _ => opCall (f_X12_refuse p0 (1 : Int32) μ2) fun x11 μ9 => f_X12_says_29 x11 μ9) else ((opGR 12 0 μ2 p0).bind fun x12 => opCall (f_X12_wordRow p1 μ2) fun x16 μ14 => (opLI 1 μ14 x12 x16).bind fun x17 => (opRv 12 μ14 p0).bind fun _ => opCall (f_X12_gives p0 x17 μ14) fun x22 μ20 => f_X12_says_29 x22 μ20)
set_option maxRecDepth 100000 in
theorem c_X12_says_29 {r : Int32} {F : dtM} (s0 : Int32) (μ : dtM) (h : f_X12_says_29 s0 μ = some (r, F)) : dtW yX12_says cX12_says 2 (some .int) 2 (some (.int r)) F 29 [] [.int s0] μ := by
  rw [f_X12_says_29] at h
  cases h
  exact dr_ireturn dX12_says_29 rfl
set_option maxRecDepth 100000 in
theorem c_X12_says {r : Int32} {F : dtM} (p0 : Nat) (p1 : Int32) (μ : dtM) (h : f_X12_says p0 p1 μ = some (r, F)) : dtMet yX12_says cX12_says 2 (some .int) 2 [.ref p0, .int p1] μ (some (.int r)) F := by
  refine dtMet.of (by decide +kernel) (Nat.le_of_ble_eq_true rfl) (show dtW yX12_says cX12_says 2 (some .int) 2 (some (.int r)) F 0 [some (.ref p0), some (.int p1)] [] μ from ?_)
  rw [f_X12_says] at h
  refine dr_aload_n p0 dX12_says_0 rfl ?_
  refine dr_iload_n p1 dX12_says_1 rfl ?_
  obtain ⟨_, hb1, h⟩ := dtBind h
  obtain ⟨x4, μ2, e3, h⟩ := dtCall h
  refine dr_callV_i (S0 := []) [.int p1] x4 μ2 dX12_says_2 (c_X12_isWord p0 p1 μ e3) mf_X12_isWord wt_1720 ws_94 wt_1718 rfl (dtRv hb1) (by decide) rfl (Nat.le_of_ble_eq_true rfl) (Nat.le_of_ble_eq_true rfl) rfl ?_
  obtain ⟨ht6, hf7⟩ := dtIte h
  refine dr_if_eq 24 dX12_says_5 (by decide) (fun hc5 => ?_) (fun hc5 => ?_)
  · have h := ht6 hc5
    refine dr_aload_n p0 dX12_says_24 rfl ?_
    refine dr_iconst (1 : Int32) dX12_says_25 (by decide) ?_
    obtain ⟨_, hb8, h⟩ := dtBind h
    obtain ⟨x11, μ9, e10, h⟩ := dtCall h
    refine dr_callV_i (S0 := []) [.int (1 : Int32)] x11 μ9 dX12_says_26 (c_X12_refuse p0 (1 : Int32) μ2 e10) mf_X12_refuse wt_1552 ws_59 wt_1550 rfl (dtRv hb8) (by decide) rfl (Nat.le_of_ble_eq_true rfl) (Nat.le_of_ble_eq_true rfl) rfl ?_
    refine dr_mask [] [] rfl ?_
    exact c_X12_says_29 x11 μ9 h
  · have h := hf7 hc5
    refine dr_aload_n p0 dX12_says_8 rfl ?_
    refine dr_aload_n p0 dX12_says_9 rfl ?_
    obtain ⟨x12, e13, h⟩ := dtBind h
    refine dr_getR x12 dX12_says_10 fl_RX12_7 e13 ?_
    refine dr_iload_n p1 dX12_says_13 rfl ?_
    obtain ⟨x16, μ14, e15, h⟩ := dtCall h
    refine dr_callS_i (S0 := [.ref x12, .ref p0]) [.int p1] x16 μ14 dX12_says_14 (c_X12_wordRow p1 μ2 e15) mf_X12_wordRow wt_1625 wt_1624 rfl (Nat.le_of_ble_eq_true rfl) (Nat.le_of_ble_eq_true rfl) rfl ?_
    obtain ⟨x17, e18, h⟩ := dtBind h
    refine dr_iaload x17 dX12_says_17 e18 ?_
    obtain ⟨_, hb19, h⟩ := dtBind h
    obtain ⟨x22, μ20, e21, h⟩ := dtCall h
    refine dr_callV_i (S0 := []) [.int x17] x22 μ20 dX12_says_18 (c_X12_gives p0 x17 μ14 e21) mf_X12_gives wt_1668 ws_85 wt_1666 rfl (dtRv hb19) (by decide) rfl (Nat.le_of_ble_eq_true rfl) (Nat.le_of_ble_eq_true rfl) rfl ?_
    refine dr_goto 29 dX12_says_21 (by decide) ?_
    refine dr_mask [] [] rfl ?_
    exact c_X12_says_29 x22 μ20 h
/-! X12_saysAt -/
theorem dX12_saysAt_0 : decode cX12_saysAt 0 = .ok (.aload_n 0, 1) := by decide +kernel
theorem dX12_saysAt_1 : decode cX12_saysAt 1 = .ok (.iload_n 1, 1) := by decide +kernel
theorem dX12_saysAt_2 : decode cX12_saysAt 2 = .ok (.invokevirtual 304, 3) := by decide +kernel
theorem dX12_saysAt_5 : decode cX12_saysAt 5 = .ok (.ifCond .eq 7, 3) := by decide +kernel
theorem dX12_saysAt_8 : decode cX12_saysAt 8 = .ok (.iload_n 2, 1) := by decide +kernel
theorem dX12_saysAt_9 : decode cX12_saysAt 9 = .ok (.ifCond .ge 9, 3) := by decide +kernel
theorem dX12_saysAt_12 : decode cX12_saysAt 12 = .ok (.aload_n 0, 1) := by decide +kernel
theorem dX12_saysAt_13 : decode cX12_saysAt 13 = .ok (.iconst 1, 1) := by decide +kernel
theorem dX12_saysAt_14 : decode cX12_saysAt 14 = .ok (.invokevirtual 93, 3) := by decide +kernel
theorem dX12_saysAt_17 : decode cX12_saysAt 17 = .ok (.ireturn, 1) := by decide +kernel
theorem dX12_saysAt_18 : decode cX12_saysAt 18 = .ok (.iload_n 2, 1) := by decide +kernel
theorem dX12_saysAt_19 : decode cX12_saysAt 19 = .ok (.aload_n 0, 1) := by decide +kernel
theorem dX12_saysAt_20 : decode cX12_saysAt 20 = .ok (.getfield 7, 3) := by decide +kernel
theorem dX12_saysAt_23 : decode cX12_saysAt 23 = .ok (.iload_n 1, 1) := by decide +kernel
theorem dX12_saysAt_24 : decode cX12_saysAt 24 = .ok (.invokestatic 222, 3) := by decide +kernel
theorem dX12_saysAt_27 : decode cX12_saysAt 27 = .ok (.iaload, 1) := by decide +kernel
theorem dX12_saysAt_28 : decode cX12_saysAt 28 = .ok (.if_icmp .lt 12, 3) := by decide +kernel
theorem dX12_saysAt_31 : decode cX12_saysAt 31 = .ok (.aload_n 0, 1) := by decide +kernel
theorem dX12_saysAt_32 : decode cX12_saysAt 32 = .ok (.bipush 6, 2) := by decide +kernel
theorem dX12_saysAt_34 : decode cX12_saysAt 34 = .ok (.invokevirtual 93, 3) := by decide +kernel
theorem dX12_saysAt_37 : decode cX12_saysAt 37 = .ok (.goto 20, 3) := by decide +kernel
theorem dX12_saysAt_40 : decode cX12_saysAt 40 = .ok (.aload_n 0, 1) := by decide +kernel
theorem dX12_saysAt_41 : decode cX12_saysAt 41 = .ok (.aload_n 0, 1) := by decide +kernel
theorem dX12_saysAt_42 : decode cX12_saysAt 42 = .ok (.getfield 7, 3) := by decide +kernel
theorem dX12_saysAt_45 : decode cX12_saysAt 45 = .ok (.iload_n 1, 1) := by decide +kernel
theorem dX12_saysAt_46 : decode cX12_saysAt 46 = .ok (.invokestatic 222, 3) := by decide +kernel
theorem dX12_saysAt_49 : decode cX12_saysAt 49 = .ok (.iconst 1, 1) := by decide +kernel
theorem dX12_saysAt_50 : decode cX12_saysAt 50 = .ok (.iadd, 1) := by decide +kernel
theorem dX12_saysAt_51 : decode cX12_saysAt 51 = .ok (.iload_n 2, 1) := by decide +kernel
theorem dX12_saysAt_52 : decode cX12_saysAt 52 = .ok (.iadd, 1) := by decide +kernel
theorem dX12_saysAt_53 : decode cX12_saysAt 53 = .ok (.iaload, 1) := by decide +kernel
theorem dX12_saysAt_54 : decode cX12_saysAt 54 = .ok (.invokevirtual 97, 3) := by decide +kernel
theorem dX12_saysAt_57 : decode cX12_saysAt 57 = .ok (.ireturn, 1) := by decide +kernel
set_option maxRecDepth 100000 in
def f_X12_saysAt_12 (l0 : Nat) (μ : dtM) : Option (Int32 × dtM) :=
  (opRv 12 μ l0).bind fun _ => opCall (f_X12_refuse l0 (1 : Int32) μ) fun x4 μ2 => some (x4, μ2)
set_option maxRecDepth 100000 in
def f_X12_saysAt_57 (s0 : Int32) (μ : dtM) : Option (Int32 × dtM) :=
  some (s0, μ)
set_option maxRecDepth 100000 in
def f_X12_saysAt (p0 : Nat) (p1 : Int32) (p2 : Int32) (μ : dtM) : Option (Int32 × dtM) :=
  (opRv 12 μ p0).bind fun _ => opCall (f_X12_isWord p0 p1 μ) fun x4 μ2 => if x4 = 0 then (f_X12_saysAt_12 p0 μ2) else (if 0 ≤ p2 then ((opGR 12 0 μ2 p0).bind fun x11 => opCall (f_X12_wordRow p1 μ2) fun x15 μ13 => (opLI 1 μ13 x11 x15).bind fun x16 => if p2 < x16 then ((opGR 12 0 μ13 p0).bind fun x21 => opCall (f_X12_wordRow p1 μ13) fun x25 μ23 => (opLI 1 μ23 x21 ((x25 + (1 : Int32)) + p2)).bind fun x26 => (opRv 12 μ23 p0).bind fun _ => opCall (f_X12_gives p0 x26 μ23) fun x31 μ29 => f_X12_saysAt_57 x31 μ29) else ((opRv 12 μ13 p0).bind fun _ => opCall (f_X12_refuse p0 (6 : Int32) μ13) fun x35 μ33 => f_X12_saysAt_57 x35 μ33)) else (f_X12_saysAt_12 p0 μ2))
set_option maxRecDepth 100000 in
theorem c_X12_saysAt_12 {r : Int32} {F : dtM} (l0 : Nat) (μ : dtM) (h : f_X12_saysAt_12 l0 μ = some (r, F)) : dtW yX12_saysAt cX12_saysAt 3 (some .int) 2 (some (.int r)) F 12 [some (.ref l0)] [] μ := by
  rw [f_X12_saysAt_12] at h
  refine dr_aload_n l0 dX12_saysAt_12 rfl ?_
  refine dr_iconst (1 : Int32) dX12_saysAt_13 (by decide) ?_
  obtain ⟨_, hb1, h⟩ := dtBind h
  obtain ⟨x4, μ2, e3, h⟩ := dtCall h
  refine dr_callV_i (S0 := []) [.int (1 : Int32)] x4 μ2 dX12_saysAt_14 (c_X12_refuse l0 (1 : Int32) μ e3) mf_X12_refuse wt_1552 ws_59 wt_1550 rfl (dtRv hb1) (by decide) rfl (Nat.le_of_ble_eq_true rfl) (Nat.le_of_ble_eq_true rfl) rfl ?_
  cases h
  exact dr_ireturn dX12_saysAt_17 rfl
set_option maxRecDepth 100000 in
theorem c_X12_saysAt_57 {r : Int32} {F : dtM} (s0 : Int32) (μ : dtM) (h : f_X12_saysAt_57 s0 μ = some (r, F)) : dtW yX12_saysAt cX12_saysAt 3 (some .int) 2 (some (.int r)) F 57 [] [.int s0] μ := by
  rw [f_X12_saysAt_57] at h
  cases h
  exact dr_ireturn dX12_saysAt_57 rfl
set_option maxRecDepth 100000 in
theorem c_X12_saysAt {r : Int32} {F : dtM} (p0 : Nat) (p1 : Int32) (p2 : Int32) (μ : dtM) (h : f_X12_saysAt p0 p1 p2 μ = some (r, F)) : dtMet yX12_saysAt cX12_saysAt 3 (some .int) 2 [.ref p0, .int p1, .int p2] μ (some (.int r)) F := by
  refine dtMet.of (by decide +kernel) (Nat.le_of_ble_eq_true rfl) (show dtW yX12_saysAt cX12_saysAt 3 (some .int) 2 (some (.int r)) F 0 [some (.ref p0), some (.int p1), some (.int p2)] [] μ from ?_)
  rw [f_X12_saysAt] at h
  refine dr_aload_n p0 dX12_saysAt_0 rfl ?_
  refine dr_iload_n p1 dX12_saysAt_1 rfl ?_
  obtain ⟨_, hb1, h⟩ := dtBind h
  obtain ⟨x4, μ2, e3, h⟩ := dtCall h
  refine dr_callV_i (S0 := []) [.int p1] x4 μ2 dX12_saysAt_2 (c_X12_isWord p0 p1 μ e3) mf_X12_isWord wt_1720 ws_94 wt_1718 rfl (dtRv hb1) (by decide) rfl (Nat.le_of_ble_eq_true rfl) (Nat.le_of_ble_eq_true rfl) rfl ?_
  obtain ⟨ht6, hf7⟩ := dtIte h
  refine dr_if_eq 12 dX12_saysAt_5 (by decide) (fun hc5 => ?_) (fun hc5 => ?_)
  · have h := ht6 hc5
    refine dr_mask [true] [some (.ref p0)] rfl ?_
    exact c_X12_saysAt_12 p0 μ2 h
  · have h := hf7 hc5
    refine dr_iload_n p2 dX12_saysAt_8 rfl ?_
    obtain ⟨ht9, hf10⟩ := dtIte h
    refine dr_if_ge 18 dX12_saysAt_9 (by decide) (fun hc8 => ?_) (fun hc8 => ?_)
    · have h := ht9 hc8
      refine dr_iload_n p2 dX12_saysAt_18 rfl ?_
      refine dr_aload_n p0 dX12_saysAt_19 rfl ?_
      obtain ⟨x11, e12, h⟩ := dtBind h
      refine dr_getR x11 dX12_saysAt_20 fl_RX12_7 e12 ?_
      refine dr_iload_n p1 dX12_saysAt_23 rfl ?_
      obtain ⟨x15, μ13, e14, h⟩ := dtCall h
      refine dr_callS_i (S0 := [.ref x11, .int p2]) [.int p1] x15 μ13 dX12_saysAt_24 (c_X12_wordRow p1 μ2 e14) mf_X12_wordRow wt_1625 wt_1624 rfl (Nat.le_of_ble_eq_true rfl) (Nat.le_of_ble_eq_true rfl) rfl ?_
      obtain ⟨x16, e17, h⟩ := dtBind h
      refine dr_iaload x16 dX12_saysAt_27 e17 ?_
      obtain ⟨ht19, hf20⟩ := dtIte h
      refine dr_icmp_lt 40 dX12_saysAt_28 (by decide) (fun hc18 => ?_) (fun hc18 => ?_)
      · have h := ht19 hc18
        refine dr_aload_n p0 dX12_saysAt_40 rfl ?_
        refine dr_aload_n p0 dX12_saysAt_41 rfl ?_
        obtain ⟨x21, e22, h⟩ := dtBind h
        refine dr_getR x21 dX12_saysAt_42 fl_RX12_7 e22 ?_
        refine dr_iload_n p1 dX12_saysAt_45 rfl ?_
        obtain ⟨x25, μ23, e24, h⟩ := dtCall h
        refine dr_callS_i (S0 := [.ref x21, .ref p0]) [.int p1] x25 μ23 dX12_saysAt_46 (c_X12_wordRow p1 μ13 e24) mf_X12_wordRow wt_1625 wt_1624 rfl (Nat.le_of_ble_eq_true rfl) (Nat.le_of_ble_eq_true rfl) rfl ?_
        refine dr_iconst (1 : Int32) dX12_saysAt_49 (by decide) ?_
        refine dr_iadd dX12_saysAt_50 ?_
        refine dr_iload_n p2 dX12_saysAt_51 rfl ?_
        refine dr_iadd dX12_saysAt_52 ?_
        obtain ⟨x26, e27, h⟩ := dtBind h
        refine dr_iaload x26 dX12_saysAt_53 e27 ?_
        obtain ⟨_, hb28, h⟩ := dtBind h
        obtain ⟨x31, μ29, e30, h⟩ := dtCall h
        refine dr_callV_i (S0 := []) [.int x26] x31 μ29 dX12_saysAt_54 (c_X12_gives p0 x26 μ23 e30) mf_X12_gives wt_1668 ws_85 wt_1666 rfl (dtRv hb28) (by decide) rfl (Nat.le_of_ble_eq_true rfl) (Nat.le_of_ble_eq_true rfl) rfl ?_
        refine dr_mask [] [] rfl ?_
        exact c_X12_saysAt_57 x31 μ29 h
      · have h := hf20 hc18
        refine dr_aload_n p0 dX12_saysAt_31 rfl ?_
        refine dr_bipush (6 : Int32) dX12_saysAt_32 (by decide) ?_
        obtain ⟨_, hb32, h⟩ := dtBind h
        obtain ⟨x35, μ33, e34, h⟩ := dtCall h
        refine dr_callV_i (S0 := []) [.int (6 : Int32)] x35 μ33 dX12_saysAt_34 (c_X12_refuse p0 (6 : Int32) μ13 e34) mf_X12_refuse wt_1552 ws_59 wt_1550 rfl (dtRv hb32) (by decide) rfl (Nat.le_of_ble_eq_true rfl) (Nat.le_of_ble_eq_true rfl) rfl ?_
        refine dr_goto 57 dX12_saysAt_37 (by decide) ?_
        refine dr_mask [] [] rfl ?_
        exact c_X12_saysAt_57 x35 μ33 h
    · have h := hf10 hc8
      refine dr_mask [true] [some (.ref p0)] rfl ?_
      exact c_X12_saysAt_12 p0 μ2 h
/-! X12_person -/
theorem dX12_person_0 : decode cX12_person 0 = .ok (.aload_n 0, 1) := by decide +kernel
theorem dX12_person_1 : decode cX12_person 1 = .ok (.iload_n 1, 1) := by decide +kernel
theorem dX12_person_2 : decode cX12_person 2 = .ok (.invokevirtual 307, 3) := by decide +kernel
theorem dX12_person_5 : decode cX12_person 5 = .ok (.ifCond .eq 12, 3) := by decide +kernel
theorem dX12_person_8 : decode cX12_person 8 = .ok (.iload_n 2, 1) := by decide +kernel
theorem dX12_person_9 : decode cX12_person 9 = .ok (.ifCond .lt 8, 3) := by decide +kernel
theorem dX12_person_12 : decode cX12_person 12 = .ok (.iload_n 2, 1) := by decide +kernel
theorem dX12_person_13 : decode cX12_person 13 = .ok (.iconst 3, 1) := by decide +kernel
theorem dX12_person_14 : decode cX12_person 14 = .ok (.if_icmp .le 9, 3) := by decide +kernel
theorem dX12_person_17 : decode cX12_person 17 = .ok (.aload_n 0, 1) := by decide +kernel
theorem dX12_person_18 : decode cX12_person 18 = .ok (.iconst 1, 1) := by decide +kernel
theorem dX12_person_19 : decode cX12_person 19 = .ok (.invokevirtual 93, 3) := by decide +kernel
theorem dX12_person_22 : decode cX12_person 22 = .ok (.ireturn, 1) := by decide +kernel
theorem dX12_person_23 : decode cX12_person 23 = .ok (.aload_n 0, 1) := by decide +kernel
theorem dX12_person_24 : decode cX12_person 24 = .ok (.aload_n 0, 1) := by decide +kernel
theorem dX12_person_25 : decode cX12_person 25 = .ok (.iload_n 1, 1) := by decide +kernel
theorem dX12_person_26 : decode cX12_person 26 = .ok (.iload_n 2, 1) := by decide +kernel
theorem dX12_person_27 : decode cX12_person 27 = .ok (.invokevirtual 295, 3) := by decide +kernel
theorem dX12_person_30 : decode cX12_person 30 = .ok (.invokevirtual 97, 3) := by decide +kernel
theorem dX12_person_33 : decode cX12_person 33 = .ok (.ireturn, 1) := by decide +kernel
set_option maxRecDepth 100000 in
def f_X12_person_17 (l0 : Nat) (μ : dtM) : Option (Int32 × dtM) :=
  (opRv 12 μ l0).bind fun _ => opCall (f_X12_refuse l0 (1 : Int32) μ) fun x4 μ2 => some (x4, μ2)
set_option maxRecDepth 100000 in
def f_X12_person (p0 : Nat) (p1 : Int32) (p2 : Int32) (μ : dtM) : Option (Int32 × dtM) :=
  (opRv 12 μ p0).bind fun _ => opCall (f_X12_isPerson p0 p1 μ) fun x4 μ2 => if x4 = 0 then (f_X12_person_17 p0 μ2) else (if p2 < 0 then (f_X12_person_17 p0 μ2) else (if p2 ≤ (3 : Int32) then ((opRv 12 μ2 p0).bind fun _ => opCall (f_X12_personOf p0 p1 p2 μ2) fun x17 μ15 => (opRv 12 μ15 p0).bind fun _ => opCall (f_X12_gives p0 x17 μ15) fun x21 μ19 => some (x21, μ19)) else (f_X12_person_17 p0 μ2)))
set_option maxRecDepth 100000 in
theorem c_X12_person_17 {r : Int32} {F : dtM} (l0 : Nat) (μ : dtM) (h : f_X12_person_17 l0 μ = some (r, F)) : dtW yX12_person cX12_person 3 (some .int) 3 (some (.int r)) F 17 [some (.ref l0)] [] μ := by
  rw [f_X12_person_17] at h
  refine dr_aload_n l0 dX12_person_17 rfl ?_
  refine dr_iconst (1 : Int32) dX12_person_18 (by decide) ?_
  obtain ⟨_, hb1, h⟩ := dtBind h
  obtain ⟨x4, μ2, e3, h⟩ := dtCall h
  refine dr_callV_i (S0 := []) [.int (1 : Int32)] x4 μ2 dX12_person_19 (c_X12_refuse l0 (1 : Int32) μ e3) mf_X12_refuse wt_1552 ws_59 wt_1550 rfl (dtRv hb1) (by decide) rfl (Nat.le_of_ble_eq_true rfl) (Nat.le_of_ble_eq_true rfl) rfl ?_
  cases h
  exact dr_ireturn dX12_person_22 rfl
set_option maxRecDepth 100000 in
theorem c_X12_person {r : Int32} {F : dtM} (p0 : Nat) (p1 : Int32) (p2 : Int32) (μ : dtM) (h : f_X12_person p0 p1 p2 μ = some (r, F)) : dtMet yX12_person cX12_person 3 (some .int) 3 [.ref p0, .int p1, .int p2] μ (some (.int r)) F := by
  refine dtMet.of (by decide +kernel) (Nat.le_of_ble_eq_true rfl) (show dtW yX12_person cX12_person 3 (some .int) 3 (some (.int r)) F 0 [some (.ref p0), some (.int p1), some (.int p2)] [] μ from ?_)
  rw [f_X12_person] at h
  refine dr_aload_n p0 dX12_person_0 rfl ?_
  refine dr_iload_n p1 dX12_person_1 rfl ?_
  obtain ⟨_, hb1, h⟩ := dtBind h
  obtain ⟨x4, μ2, e3, h⟩ := dtCall h
  refine dr_callV_i (S0 := []) [.int p1] x4 μ2 dX12_person_2 (c_X12_isPerson p0 p1 μ e3) mf_X12_isPerson wt_1732 ws_95 wt_1730 rfl (dtRv hb1) (by decide) rfl (Nat.le_of_ble_eq_true rfl) (Nat.le_of_ble_eq_true rfl) rfl ?_
  obtain ⟨ht6, hf7⟩ := dtIte h
  refine dr_if_eq 17 dX12_person_5 (by decide) (fun hc5 => ?_) (fun hc5 => ?_)
  · have h := ht6 hc5
    refine dr_mask [true] [some (.ref p0)] rfl ?_
    exact c_X12_person_17 p0 μ2 h
  · have h := hf7 hc5
    refine dr_iload_n p2 dX12_person_8 rfl ?_
    obtain ⟨ht9, hf10⟩ := dtIte h
    refine dr_if_lt 17 dX12_person_9 (by decide) (fun hc8 => ?_) (fun hc8 => ?_)
    · have h := ht9 hc8
      refine dr_mask [true] [some (.ref p0)] rfl ?_
      exact c_X12_person_17 p0 μ2 h
    · have h := hf10 hc8
      refine dr_iload_n p2 dX12_person_12 rfl ?_
      refine dr_iconst (3 : Int32) dX12_person_13 (by decide) ?_
      obtain ⟨ht12, hf13⟩ := dtIte h
      refine dr_icmp_le 23 dX12_person_14 (by decide) (fun hc11 => ?_) (fun hc11 => ?_)
      · have h := ht12 hc11
        refine dr_aload_n p0 dX12_person_23 rfl ?_
        refine dr_aload_n p0 dX12_person_24 rfl ?_
        refine dr_iload_n p1 dX12_person_25 rfl ?_
        refine dr_iload_n p2 dX12_person_26 rfl ?_
        obtain ⟨_, hb14, h⟩ := dtBind h
        obtain ⟨x17, μ15, e16, h⟩ := dtCall h
        refine dr_callV_i (S0 := [.ref p0]) [.int p1, .int p2] x17 μ15 dX12_person_27 (c_X12_personOf p0 p1 p2 μ2 e16) mf_X12_personOf wt_1736 ws_96 wt_1734 rfl (dtRv hb14) (by decide) rfl (Nat.le_of_ble_eq_true rfl) (Nat.le_of_ble_eq_true rfl) rfl ?_
        obtain ⟨_, hb18, h⟩ := dtBind h
        obtain ⟨x21, μ19, e20, h⟩ := dtCall h
        refine dr_callV_i (S0 := []) [.int x17] x21 μ19 dX12_person_30 (c_X12_gives p0 x17 μ15 e20) mf_X12_gives wt_1668 ws_85 wt_1666 rfl (dtRv hb18) (by decide) rfl (Nat.le_of_ble_eq_true rfl) (Nat.le_of_ble_eq_true rfl) rfl ?_
        cases h
        exact dr_ireturn dX12_person_33 rfl
      · have h := hf13 hc11
        refine dr_mask [true] [some (.ref p0)] rfl ?_
        exact c_X12_person_17 p0 μ2 h
/-! X12_heardAt -/
theorem dX12_heardAt_0 : decode cX12_heardAt 0 = .ok (.aload_n 0, 1) := by decide +kernel
theorem dX12_heardAt_1 : decode cX12_heardAt 1 = .ok (.iload_n 1, 1) := by decide +kernel
theorem dX12_heardAt_2 : decode cX12_heardAt 2 = .ok (.invokevirtual 307, 3) := by decide +kernel
theorem dX12_heardAt_5 : decode cX12_heardAt 5 = .ok (.ifCond .eq 7, 3) := by decide +kernel
theorem dX12_heardAt_8 : decode cX12_heardAt 8 = .ok (.iload_n 2, 1) := by decide +kernel
theorem dX12_heardAt_9 : decode cX12_heardAt 9 = .ok (.ifCond .ge 9, 3) := by decide +kernel
theorem dX12_heardAt_12 : decode cX12_heardAt 12 = .ok (.aload_n 0, 1) := by decide +kernel
theorem dX12_heardAt_13 : decode cX12_heardAt 13 = .ok (.iconst 1, 1) := by decide +kernel
theorem dX12_heardAt_14 : decode cX12_heardAt 14 = .ok (.invokevirtual 93, 3) := by decide +kernel
theorem dX12_heardAt_17 : decode cX12_heardAt 17 = .ok (.ireturn, 1) := by decide +kernel
theorem dX12_heardAt_18 : decode cX12_heardAt 18 = .ok (.iload_n 2, 1) := by decide +kernel
theorem dX12_heardAt_19 : decode cX12_heardAt 19 = .ok (.aload_n 0, 1) := by decide +kernel
theorem dX12_heardAt_20 : decode cX12_heardAt 20 = .ok (.iload_n 1, 1) := by decide +kernel
theorem dX12_heardAt_21 : decode cX12_heardAt 21 = .ok (.iconst 3, 1) := by decide +kernel
theorem dX12_heardAt_22 : decode cX12_heardAt 22 = .ok (.invokevirtual 295, 3) := by decide +kernel
theorem dX12_heardAt_25 : decode cX12_heardAt 25 = .ok (.if_icmp .lt 12, 3) := by decide +kernel
theorem dX12_heardAt_28 : decode cX12_heardAt 28 = .ok (.aload_n 0, 1) := by decide +kernel
theorem dX12_heardAt_29 : decode cX12_heardAt 29 = .ok (.bipush 6, 2) := by decide +kernel
theorem dX12_heardAt_31 : decode cX12_heardAt 31 = .ok (.invokevirtual 93, 3) := by decide +kernel
theorem dX12_heardAt_34 : decode cX12_heardAt 34 = .ok (.goto 15, 3) := by decide +kernel
theorem dX12_heardAt_37 : decode cX12_heardAt 37 = .ok (.aload_n 0, 1) := by decide +kernel
theorem dX12_heardAt_38 : decode cX12_heardAt 38 = .ok (.aload_n 0, 1) := by decide +kernel
theorem dX12_heardAt_39 : decode cX12_heardAt 39 = .ok (.iload_n 1, 1) := by decide +kernel
theorem dX12_heardAt_40 : decode cX12_heardAt 40 = .ok (.iconst 4, 1) := by decide +kernel
theorem dX12_heardAt_41 : decode cX12_heardAt 41 = .ok (.iload_n 2, 1) := by decide +kernel
theorem dX12_heardAt_42 : decode cX12_heardAt 42 = .ok (.iadd, 1) := by decide +kernel
theorem dX12_heardAt_43 : decode cX12_heardAt 43 = .ok (.invokevirtual 295, 3) := by decide +kernel
theorem dX12_heardAt_46 : decode cX12_heardAt 46 = .ok (.invokevirtual 97, 3) := by decide +kernel
theorem dX12_heardAt_49 : decode cX12_heardAt 49 = .ok (.ireturn, 1) := by decide +kernel
set_option maxRecDepth 100000 in
def f_X12_heardAt_12 (l0 : Nat) (μ : dtM) : Option (Int32 × dtM) :=
  (opRv 12 μ l0).bind fun _ => opCall (f_X12_refuse l0 (1 : Int32) μ) fun x4 μ2 => some (x4, μ2)
set_option maxRecDepth 100000 in
def f_X12_heardAt_49 (s0 : Int32) (μ : dtM) : Option (Int32 × dtM) :=
  some (s0, μ)
set_option maxRecDepth 100000 in
def f_X12_heardAt (p0 : Nat) (p1 : Int32) (p2 : Int32) (μ : dtM) : Option (Int32 × dtM) :=
  (opRv 12 μ p0).bind fun _ => opCall (f_X12_isPerson p0 p1 μ) fun x4 μ2 => if x4 = 0 then (f_X12_heardAt_12 p0 μ2) else (if 0 ≤ p2 then ((opRv 12 μ2 p0).bind fun _ => opCall (f_X12_personOf p0 p1 (3 : Int32) μ2) fun x14 μ12 => if p2 < x14 then ((opRv 12 μ12 p0).bind fun _ => opCall (f_X12_personOf p0 p1 ((4 : Int32) + p2) μ12) fun x21 μ19 => (opRv 12 μ19 p0).bind fun _ => opCall (f_X12_gives p0 x21 μ19) fun x25 μ23 => f_X12_heardAt_49 x25 μ23) else ((opRv 12 μ12 p0).bind fun _ => opCall (f_X12_refuse p0 (6 : Int32) μ12) fun x29 μ27 => f_X12_heardAt_49 x29 μ27)) else (f_X12_heardAt_12 p0 μ2))
set_option maxRecDepth 100000 in
theorem c_X12_heardAt_12 {r : Int32} {F : dtM} (l0 : Nat) (μ : dtM) (h : f_X12_heardAt_12 l0 μ = some (r, F)) : dtW yX12_heardAt cX12_heardAt 3 (some .int) 3 (some (.int r)) F 12 [some (.ref l0)] [] μ := by
  rw [f_X12_heardAt_12] at h
  refine dr_aload_n l0 dX12_heardAt_12 rfl ?_
  refine dr_iconst (1 : Int32) dX12_heardAt_13 (by decide) ?_
  obtain ⟨_, hb1, h⟩ := dtBind h
  obtain ⟨x4, μ2, e3, h⟩ := dtCall h
  refine dr_callV_i (S0 := []) [.int (1 : Int32)] x4 μ2 dX12_heardAt_14 (c_X12_refuse l0 (1 : Int32) μ e3) mf_X12_refuse wt_1552 ws_59 wt_1550 rfl (dtRv hb1) (by decide) rfl (Nat.le_of_ble_eq_true rfl) (Nat.le_of_ble_eq_true rfl) rfl ?_
  cases h
  exact dr_ireturn dX12_heardAt_17 rfl
set_option maxRecDepth 100000 in
theorem c_X12_heardAt_49 {r : Int32} {F : dtM} (s0 : Int32) (μ : dtM) (h : f_X12_heardAt_49 s0 μ = some (r, F)) : dtW yX12_heardAt cX12_heardAt 3 (some .int) 3 (some (.int r)) F 49 [] [.int s0] μ := by
  rw [f_X12_heardAt_49] at h
  cases h
  exact dr_ireturn dX12_heardAt_49 rfl
set_option maxRecDepth 100000 in
theorem c_X12_heardAt {r : Int32} {F : dtM} (p0 : Nat) (p1 : Int32) (p2 : Int32) (μ : dtM) (h : f_X12_heardAt p0 p1 p2 μ = some (r, F)) : dtMet yX12_heardAt cX12_heardAt 3 (some .int) 3 [.ref p0, .int p1, .int p2] μ (some (.int r)) F := by
  refine dtMet.of (by decide +kernel) (Nat.le_of_ble_eq_true rfl) (show dtW yX12_heardAt cX12_heardAt 3 (some .int) 3 (some (.int r)) F 0 [some (.ref p0), some (.int p1), some (.int p2)] [] μ from ?_)
  rw [f_X12_heardAt] at h
  refine dr_aload_n p0 dX12_heardAt_0 rfl ?_
  refine dr_iload_n p1 dX12_heardAt_1 rfl ?_
  obtain ⟨_, hb1, h⟩ := dtBind h
  obtain ⟨x4, μ2, e3, h⟩ := dtCall h
  refine dr_callV_i (S0 := []) [.int p1] x4 μ2 dX12_heardAt_2 (c_X12_isPerson p0 p1 μ e3) mf_X12_isPerson wt_1732 ws_95 wt_1730 rfl (dtRv hb1) (by decide) rfl (Nat.le_of_ble_eq_true rfl) (Nat.le_of_ble_eq_true rfl) rfl ?_
  obtain ⟨ht6, hf7⟩ := dtIte h
  refine dr_if_eq 12 dX12_heardAt_5 (by decide) (fun hc5 => ?_) (fun hc5 => ?_)
  · have h := ht6 hc5
    refine dr_mask [true] [some (.ref p0)] rfl ?_
    exact c_X12_heardAt_12 p0 μ2 h
  · have h := hf7 hc5
    refine dr_iload_n p2 dX12_heardAt_8 rfl ?_
    obtain ⟨ht9, hf10⟩ := dtIte h
    refine dr_if_ge 18 dX12_heardAt_9 (by decide) (fun hc8 => ?_) (fun hc8 => ?_)
    · have h := ht9 hc8
      refine dr_iload_n p2 dX12_heardAt_18 rfl ?_
      refine dr_aload_n p0 dX12_heardAt_19 rfl ?_
      refine dr_iload_n p1 dX12_heardAt_20 rfl ?_
      refine dr_iconst (3 : Int32) dX12_heardAt_21 (by decide) ?_
      obtain ⟨_, hb11, h⟩ := dtBind h
      obtain ⟨x14, μ12, e13, h⟩ := dtCall h
      refine dr_callV_i (S0 := [.int p2]) [.int p1, .int (3 : Int32)] x14 μ12 dX12_heardAt_22 (c_X12_personOf p0 p1 (3 : Int32) μ2 e13) mf_X12_personOf wt_1736 ws_96 wt_1734 rfl (dtRv hb11) (by decide) rfl (Nat.le_of_ble_eq_true rfl) (Nat.le_of_ble_eq_true rfl) rfl ?_
      obtain ⟨ht16, hf17⟩ := dtIte h
      refine dr_icmp_lt 37 dX12_heardAt_25 (by decide) (fun hc15 => ?_) (fun hc15 => ?_)
      · have h := ht16 hc15
        refine dr_aload_n p0 dX12_heardAt_37 rfl ?_
        refine dr_aload_n p0 dX12_heardAt_38 rfl ?_
        refine dr_iload_n p1 dX12_heardAt_39 rfl ?_
        refine dr_iconst (4 : Int32) dX12_heardAt_40 (by decide) ?_
        refine dr_iload_n p2 dX12_heardAt_41 rfl ?_
        refine dr_iadd dX12_heardAt_42 ?_
        obtain ⟨_, hb18, h⟩ := dtBind h
        obtain ⟨x21, μ19, e20, h⟩ := dtCall h
        refine dr_callV_i (S0 := [.ref p0]) [.int p1, .int ((4 : Int32) + p2)] x21 μ19 dX12_heardAt_43 (c_X12_personOf p0 p1 ((4 : Int32) + p2) μ12 e20) mf_X12_personOf wt_1736 ws_96 wt_1734 rfl (dtRv hb18) (by decide) rfl (Nat.le_of_ble_eq_true rfl) (Nat.le_of_ble_eq_true rfl) rfl ?_
        obtain ⟨_, hb22, h⟩ := dtBind h
        obtain ⟨x25, μ23, e24, h⟩ := dtCall h
        refine dr_callV_i (S0 := []) [.int x21] x25 μ23 dX12_heardAt_46 (c_X12_gives p0 x21 μ19 e24) mf_X12_gives wt_1668 ws_85 wt_1666 rfl (dtRv hb22) (by decide) rfl (Nat.le_of_ble_eq_true rfl) (Nat.le_of_ble_eq_true rfl) rfl ?_
        refine dr_mask [] [] rfl ?_
        exact c_X12_heardAt_49 x25 μ23 h
      · have h := hf17 hc15
        refine dr_aload_n p0 dX12_heardAt_28 rfl ?_
        refine dr_bipush (6 : Int32) dX12_heardAt_29 (by decide) ?_
        obtain ⟨_, hb26, h⟩ := dtBind h
        obtain ⟨x29, μ27, e28, h⟩ := dtCall h
        refine dr_callV_i (S0 := []) [.int (6 : Int32)] x29 μ27 dX12_heardAt_31 (c_X12_refuse p0 (6 : Int32) μ12 e28) mf_X12_refuse wt_1552 ws_59 wt_1550 rfl (dtRv hb26) (by decide) rfl (Nat.le_of_ble_eq_true rfl) (Nat.le_of_ble_eq_true rfl) rfl ?_
        refine dr_goto 49 dX12_heardAt_34 (by decide) ?_
        refine dr_mask [] [] rfl ?_
        exact c_X12_heardAt_49 x29 μ27 h
    · have h := hf10 hc8
      refine dr_mask [true] [some (.ref p0)] rfl ?_
      exact c_X12_heardAt_12 p0 μ2 h
/-! X12_laysLoss -/
theorem dX12_laysLoss_0 : decode cX12_laysLoss 0 = .ok (.aload_n 0, 1) := by decide +kernel
theorem dX12_laysLoss_1 : decode cX12_laysLoss 1 = .ok (.getfield 7, 3) := by decide +kernel
theorem dX12_laysLoss_4 : decode cX12_laysLoss 4 = .ok (.iconst 0, 1) := by decide +kernel
theorem dX12_laysLoss_5 : decode cX12_laysLoss 5 = .ok (.iaload, 1) := by decide +kernel
theorem dX12_laysLoss_6 : decode cX12_laysLoss 6 = .ok (.istore_n 3, 1) := by decide +kernel
theorem dX12_laysLoss_7 : decode cX12_laysLoss 7 = .ok (.iconst 0, 1) := by decide +kernel
theorem dX12_laysLoss_8 : decode cX12_laysLoss 8 = .ok (.istore 4, 2) := by decide +kernel
theorem dX12_laysLoss_10 : decode cX12_laysLoss 10 = .ok (.iload 4, 2) := by decide +kernel
theorem dX12_laysLoss_12 : decode cX12_laysLoss 12 = .ok (.bipush 49, 2) := by decide +kernel
theorem dX12_laysLoss_14 : decode cX12_laysLoss 14 = .ok (.if_icmp .ge 31, 3) := by decide +kernel
theorem dX12_laysLoss_17 : decode cX12_laysLoss 17 = .ok (.aload_n 0, 1) := by decide +kernel
theorem dX12_laysLoss_18 : decode cX12_laysLoss 18 = .ok (.getfield 47, 3) := by decide +kernel
theorem dX12_laysLoss_21 : decode cX12_laysLoss 21 = .ok (.iload 4, 2) := by decide +kernel
theorem dX12_laysLoss_23 : decode cX12_laysLoss 23 = .ok (.iload 4, 2) := by decide +kernel
theorem dX12_laysLoss_25 : decode cX12_laysLoss 25 = .ok (.bipush 8, 2) := by decide +kernel
theorem dX12_laysLoss_27 : decode cX12_laysLoss 27 = .ok (.irem, 1) := by decide +kernel
theorem dX12_laysLoss_28 : decode cX12_laysLoss 28 = .ok (.ifCond .ne 7, 3) := by decide +kernel
theorem dX12_laysLoss_31 : decode cX12_laysLoss 31 = .ok (.iconst 0, 1) := by decide +kernel
theorem dX12_laysLoss_32 : decode cX12_laysLoss 32 = .ok (.goto 6, 3) := by decide +kernel
theorem dX12_laysLoss_35 : decode cX12_laysLoss 35 = .ok (.ldc_w 310, 3) := by decide +kernel
theorem dX12_laysLoss_38 : decode cX12_laysLoss 38 = .ok (.iastore, 1) := by decide +kernel
theorem dX12_laysLoss_39 : decode cX12_laysLoss 39 = .ok (.iinc 4 1, 3) := by decide +kernel
theorem dX12_laysLoss_42 : decode cX12_laysLoss 42 = .ok (.goto (-32), 3) := by decide +kernel
theorem dX12_laysLoss_45 : decode cX12_laysLoss 45 = .ok (.iconst 0, 1) := by decide +kernel
theorem dX12_laysLoss_46 : decode cX12_laysLoss 46 = .ok (.istore 4, 2) := by decide +kernel
theorem dX12_laysLoss_48 : decode cX12_laysLoss 48 = .ok (.iload 4, 2) := by decide +kernel
theorem dX12_laysLoss_50 : decode cX12_laysLoss 50 = .ok (.aload_n 0, 1) := by decide +kernel
theorem dX12_laysLoss_51 : decode cX12_laysLoss 51 = .ok (.getfield 7, 3) := by decide +kernel
theorem dX12_laysLoss_54 : decode cX12_laysLoss 54 = .ok (.iconst 1, 1) := by decide +kernel
theorem dX12_laysLoss_55 : decode cX12_laysLoss 55 = .ok (.iaload, 1) := by decide +kernel
theorem dX12_laysLoss_56 : decode cX12_laysLoss 56 = .ok (.if_icmp .ge 122, 3) := by decide +kernel
theorem dX12_laysLoss_59 : decode cX12_laysLoss 59 = .ok (.iload 4, 2) := by decide +kernel
theorem dX12_laysLoss_61 : decode cX12_laysLoss 61 = .ok (.iload_n 1, 1) := by decide +kernel
theorem dX12_laysLoss_62 : decode cX12_laysLoss 62 = .ok (.if_icmp .ne 6, 3) := by decide +kernel
theorem dX12_laysLoss_65 : decode cX12_laysLoss 65 = .ok (.goto 107, 3) := by decide +kernel
theorem dX12_laysLoss_68 : decode cX12_laysLoss 68 = .ok (.aload_n 0, 1) := by decide +kernel
theorem dX12_laysLoss_69 : decode cX12_laysLoss 69 = .ok (.iload 4, 2) := by decide +kernel
theorem dX12_laysLoss_71 : decode cX12_laysLoss 71 = .ok (.invokevirtual 311, 3) := by decide +kernel
theorem dX12_laysLoss_74 : decode cX12_laysLoss 74 = .ok (.ifCond .eq 7, 3) := by decide +kernel
theorem dX12_laysLoss_77 : decode cX12_laysLoss 77 = .ok (.iconst 1, 1) := by decide +kernel
theorem dX12_laysLoss_78 : decode cX12_laysLoss 78 = .ok (.goto 19, 3) := by decide +kernel
theorem dX12_laysLoss_81 : decode cX12_laysLoss 81 = .ok (.iconst 2, 1) := by decide +kernel
theorem dX12_laysLoss_82 : decode cX12_laysLoss 82 = .ok (.bipush 9, 2) := by decide +kernel
theorem dX12_laysLoss_84 : decode cX12_laysLoss 84 = .ok (.aload_n 0, 1) := by decide +kernel
theorem dX12_laysLoss_85 : decode cX12_laysLoss 85 = .ok (.iload 4, 2) := by decide +kernel
theorem dX12_laysLoss_87 : decode cX12_laysLoss 87 = .ok (.iconst 2, 1) := by decide +kernel
theorem dX12_laysLoss_88 : decode cX12_laysLoss 88 = .ok (.invokevirtual 298, 3) := by decide +kernel
theorem dX12_laysLoss_91 : decode cX12_laysLoss 91 = .ok (.iload_n 2, 1) := by decide +kernel
theorem dX12_laysLoss_92 : decode cX12_laysLoss 92 = .ok (.iadd, 1) := by decide +kernel
theorem dX12_laysLoss_93 : decode cX12_laysLoss 93 = .ok (.invokestatic 148, 3) := by decide +kernel
theorem dX12_laysLoss_96 : decode cX12_laysLoss 96 = .ok (.iadd, 1) := by decide +kernel
theorem dX12_laysLoss_97 : decode cX12_laysLoss 97 = .ok (.istore 5, 2) := by decide +kernel
theorem dX12_laysLoss_99 : decode cX12_laysLoss 99 = .ok (.bipush 7, 2) := by decide +kernel
theorem dX12_laysLoss_101 : decode cX12_laysLoss 101 = .ok (.aload_n 0, 1) := by decide +kernel
theorem dX12_laysLoss_102 : decode cX12_laysLoss 102 = .ok (.iload 4, 2) := by decide +kernel
theorem dX12_laysLoss_104 : decode cX12_laysLoss 104 = .ok (.iconst 0, 1) := by decide +kernel
theorem dX12_laysLoss_105 : decode cX12_laysLoss 105 = .ok (.invokevirtual 298, 3) := by decide +kernel
theorem dX12_laysLoss_108 : decode cX12_laysLoss 108 = .ok (.imul, 1) := by decide +kernel
theorem dX12_laysLoss_109 : decode cX12_laysLoss 109 = .ok (.aload_n 0, 1) := by decide +kernel
theorem dX12_laysLoss_110 : decode cX12_laysLoss 110 = .ok (.iload 4, 2) := by decide +kernel
theorem dX12_laysLoss_112 : decode cX12_laysLoss 112 = .ok (.iconst 1, 1) := by decide +kernel
theorem dX12_laysLoss_113 : decode cX12_laysLoss 113 = .ok (.invokevirtual 298, 3) := by decide +kernel
theorem dX12_laysLoss_116 : decode cX12_laysLoss 116 = .ok (.iadd, 1) := by decide +kernel
theorem dX12_laysLoss_117 : decode cX12_laysLoss 117 = .ok (.istore 6, 2) := by decide +kernel
theorem dX12_laysLoss_119 : decode cX12_laysLoss 119 = .ok (.bipush 7, 2) := by decide +kernel
theorem dX12_laysLoss_121 : decode cX12_laysLoss 121 = .ok (.aload_n 0, 1) := by decide +kernel
theorem dX12_laysLoss_122 : decode cX12_laysLoss 122 = .ok (.iload 4, 2) := by decide +kernel
theorem dX12_laysLoss_124 : decode cX12_laysLoss 124 = .ok (.iconst 1, 1) := by decide +kernel
theorem dX12_laysLoss_125 : decode cX12_laysLoss 125 = .ok (.invokevirtual 298, 3) := by decide +kernel
theorem dX12_laysLoss_128 : decode cX12_laysLoss 128 = .ok (.imul, 1) := by decide +kernel
theorem dX12_laysLoss_129 : decode cX12_laysLoss 129 = .ok (.aload_n 0, 1) := by decide +kernel
theorem dX12_laysLoss_130 : decode cX12_laysLoss 130 = .ok (.iload 4, 2) := by decide +kernel
theorem dX12_laysLoss_132 : decode cX12_laysLoss 132 = .ok (.iconst 0, 1) := by decide +kernel
theorem dX12_laysLoss_133 : decode cX12_laysLoss 133 = .ok (.invokevirtual 298, 3) := by decide +kernel
theorem dX12_laysLoss_136 : decode cX12_laysLoss 136 = .ok (.iadd, 1) := by decide +kernel
theorem dX12_laysLoss_137 : decode cX12_laysLoss 137 = .ok (.istore 7, 2) := by decide +kernel
theorem dX12_laysLoss_139 : decode cX12_laysLoss 139 = .ok (.aload_n 0, 1) := by decide +kernel
theorem dX12_laysLoss_140 : decode cX12_laysLoss 140 = .ok (.getfield 47, 3) := by decide +kernel
theorem dX12_laysLoss_143 : decode cX12_laysLoss 143 = .ok (.iload 6, 2) := by decide +kernel
theorem dX12_laysLoss_145 : decode cX12_laysLoss 145 = .ok (.aload_n 0, 1) := by decide +kernel
theorem dX12_laysLoss_146 : decode cX12_laysLoss 146 = .ok (.getfield 47, 3) := by decide +kernel
theorem dX12_laysLoss_149 : decode cX12_laysLoss 149 = .ok (.iload 6, 2) := by decide +kernel
theorem dX12_laysLoss_151 : decode cX12_laysLoss 151 = .ok (.iaload, 1) := by decide +kernel
theorem dX12_laysLoss_152 : decode cX12_laysLoss 152 = .ok (.iload 5, 2) := by decide +kernel
theorem dX12_laysLoss_154 : decode cX12_laysLoss 154 = .ok (.invokestatic 148, 3) := by decide +kernel
theorem dX12_laysLoss_157 : decode cX12_laysLoss 157 = .ok (.iastore, 1) := by decide +kernel
theorem dX12_laysLoss_158 : decode cX12_laysLoss 158 = .ok (.aload_n 0, 1) := by decide +kernel
theorem dX12_laysLoss_159 : decode cX12_laysLoss 159 = .ok (.getfield 47, 3) := by decide +kernel
theorem dX12_laysLoss_162 : decode cX12_laysLoss 162 = .ok (.iload 7, 2) := by decide +kernel
theorem dX12_laysLoss_164 : decode cX12_laysLoss 164 = .ok (.aload_n 0, 1) := by decide +kernel
theorem dX12_laysLoss_165 : decode cX12_laysLoss 165 = .ok (.getfield 47, 3) := by decide +kernel
theorem dX12_laysLoss_168 : decode cX12_laysLoss 168 = .ok (.iload 6, 2) := by decide +kernel
theorem dX12_laysLoss_170 : decode cX12_laysLoss 170 = .ok (.iaload, 1) := by decide +kernel
theorem dX12_laysLoss_171 : decode cX12_laysLoss 171 = .ok (.iastore, 1) := by decide +kernel
theorem dX12_laysLoss_172 : decode cX12_laysLoss 172 = .ok (.iinc 4 1, 3) := by decide +kernel
theorem dX12_laysLoss_175 : decode cX12_laysLoss 175 = .ok (.goto (-127), 3) := by decide +kernel
theorem dX12_laysLoss_178 : decode cX12_laysLoss 178 = .ok (.iconst 0, 1) := by decide +kernel
theorem dX12_laysLoss_179 : decode cX12_laysLoss 179 = .ok (.istore 4, 2) := by decide +kernel
theorem dX12_laysLoss_181 : decode cX12_laysLoss 181 = .ok (.iload 4, 2) := by decide +kernel
theorem dX12_laysLoss_183 : decode cX12_laysLoss 183 = .ok (.iload_n 3, 1) := by decide +kernel
theorem dX12_laysLoss_184 : decode cX12_laysLoss 184 = .ok (.if_icmp .ge 95, 3) := by decide +kernel
theorem dX12_laysLoss_187 : decode cX12_laysLoss 187 = .ok (.iconst 0, 1) := by decide +kernel
theorem dX12_laysLoss_188 : decode cX12_laysLoss 188 = .ok (.istore 5, 2) := by decide +kernel
theorem dX12_laysLoss_190 : decode cX12_laysLoss 190 = .ok (.iload 5, 2) := by decide +kernel
theorem dX12_laysLoss_192 : decode cX12_laysLoss 192 = .ok (.iload_n 3, 1) := by decide +kernel
theorem dX12_laysLoss_193 : decode cX12_laysLoss 193 = .ok (.if_icmp .ge 80, 3) := by decide +kernel
theorem dX12_laysLoss_196 : decode cX12_laysLoss 196 = .ok (.iconst 0, 1) := by decide +kernel
theorem dX12_laysLoss_197 : decode cX12_laysLoss 197 = .ok (.istore 6, 2) := by decide +kernel
theorem dX12_laysLoss_199 : decode cX12_laysLoss 199 = .ok (.iload 6, 2) := by decide +kernel
theorem dX12_laysLoss_201 : decode cX12_laysLoss 201 = .ok (.iload_n 3, 1) := by decide +kernel
theorem dX12_laysLoss_202 : decode cX12_laysLoss 202 = .ok (.if_icmp .ge 65, 3) := by decide +kernel
theorem dX12_laysLoss_205 : decode cX12_laysLoss 205 = .ok (.aload_n 0, 1) := by decide +kernel
theorem dX12_laysLoss_206 : decode cX12_laysLoss 206 = .ok (.getfield 47, 3) := by decide +kernel
theorem dX12_laysLoss_209 : decode cX12_laysLoss 209 = .ok (.bipush 7, 2) := by decide +kernel
theorem dX12_laysLoss_211 : decode cX12_laysLoss 211 = .ok (.iload 5, 2) := by decide +kernel
theorem dX12_laysLoss_213 : decode cX12_laysLoss 213 = .ok (.imul, 1) := by decide +kernel
theorem dX12_laysLoss_214 : decode cX12_laysLoss 214 = .ok (.iload 6, 2) := by decide +kernel
theorem dX12_laysLoss_216 : decode cX12_laysLoss 216 = .ok (.iadd, 1) := by decide +kernel
theorem dX12_laysLoss_217 : decode cX12_laysLoss 217 = .ok (.aload_n 0, 1) := by decide +kernel
theorem dX12_laysLoss_218 : decode cX12_laysLoss 218 = .ok (.getfield 47, 3) := by decide +kernel
theorem dX12_laysLoss_221 : decode cX12_laysLoss 221 = .ok (.bipush 7, 2) := by decide +kernel
theorem dX12_laysLoss_223 : decode cX12_laysLoss 223 = .ok (.iload 5, 2) := by decide +kernel
theorem dX12_laysLoss_225 : decode cX12_laysLoss 225 = .ok (.imul, 1) := by decide +kernel
theorem dX12_laysLoss_226 : decode cX12_laysLoss 226 = .ok (.iload 6, 2) := by decide +kernel
theorem dX12_laysLoss_228 : decode cX12_laysLoss 228 = .ok (.iadd, 1) := by decide +kernel
theorem dX12_laysLoss_229 : decode cX12_laysLoss 229 = .ok (.iaload, 1) := by decide +kernel
theorem dX12_laysLoss_230 : decode cX12_laysLoss 230 = .ok (.aload_n 0, 1) := by decide +kernel
theorem dX12_laysLoss_231 : decode cX12_laysLoss 231 = .ok (.getfield 47, 3) := by decide +kernel
theorem dX12_laysLoss_234 : decode cX12_laysLoss 234 = .ok (.bipush 7, 2) := by decide +kernel
theorem dX12_laysLoss_236 : decode cX12_laysLoss 236 = .ok (.iload 5, 2) := by decide +kernel
theorem dX12_laysLoss_238 : decode cX12_laysLoss 238 = .ok (.imul, 1) := by decide +kernel
theorem dX12_laysLoss_239 : decode cX12_laysLoss 239 = .ok (.iload 4, 2) := by decide +kernel
theorem dX12_laysLoss_241 : decode cX12_laysLoss 241 = .ok (.iadd, 1) := by decide +kernel
theorem dX12_laysLoss_242 : decode cX12_laysLoss 242 = .ok (.iaload, 1) := by decide +kernel
theorem dX12_laysLoss_243 : decode cX12_laysLoss 243 = .ok (.aload_n 0, 1) := by decide +kernel
theorem dX12_laysLoss_244 : decode cX12_laysLoss 244 = .ok (.getfield 47, 3) := by decide +kernel
theorem dX12_laysLoss_247 : decode cX12_laysLoss 247 = .ok (.bipush 7, 2) := by decide +kernel
theorem dX12_laysLoss_249 : decode cX12_laysLoss 249 = .ok (.iload 4, 2) := by decide +kernel
theorem dX12_laysLoss_251 : decode cX12_laysLoss 251 = .ok (.imul, 1) := by decide +kernel
theorem dX12_laysLoss_252 : decode cX12_laysLoss 252 = .ok (.iload 6, 2) := by decide +kernel
theorem dX12_laysLoss_254 : decode cX12_laysLoss 254 = .ok (.iadd, 1) := by decide +kernel
theorem dX12_laysLoss_255 : decode cX12_laysLoss 255 = .ok (.iaload, 1) := by decide +kernel
theorem dX12_laysLoss_256 : decode cX12_laysLoss 256 = .ok (.iadd, 1) := by decide +kernel
theorem dX12_laysLoss_257 : decode cX12_laysLoss 257 = .ok (.invokestatic 148, 3) := by decide +kernel
theorem dX12_laysLoss_260 : decode cX12_laysLoss 260 = .ok (.iastore, 1) := by decide +kernel
theorem dX12_laysLoss_261 : decode cX12_laysLoss 261 = .ok (.iinc 6 1, 3) := by decide +kernel
theorem dX12_laysLoss_264 : decode cX12_laysLoss 264 = .ok (.goto (-65), 3) := by decide +kernel
theorem dX12_laysLoss_267 : decode cX12_laysLoss 267 = .ok (.iinc 5 1, 3) := by decide +kernel
theorem dX12_laysLoss_270 : decode cX12_laysLoss 270 = .ok (.goto (-80), 3) := by decide +kernel
theorem dX12_laysLoss_273 : decode cX12_laysLoss 273 = .ok (.iinc 4 1, 3) := by decide +kernel
theorem dX12_laysLoss_276 : decode cX12_laysLoss 276 = .ok (.goto (-95), 3) := by decide +kernel
theorem dX12_laysLoss_279 : decode cX12_laysLoss 279 = .ok (.return_, 1) := by decide +kernel
set_option maxRecDepth 100000 in
def f_X12_laysLoss_199 (k181 : Nat → Int32 → Int32 → dtM → Option dtM) (k190 : Nat → Int32 → Int32 → Int32 → dtM → Option dtM) : Nat → Nat → Int32 → Int32 → Int32 → Int32 → dtM → Option dtM
  | 0, _, _, _, _, _, _ => none
  | n + 1, l0, l3, l4, l5, l6, μ =>
    if l3 ≤ l6 then (k190 l0 l3 l4 (l5 + 1) μ) else ((opGR 12 24 μ l0).bind fun x4 => (opGR 12 24 μ l0).bind fun x6 => (opLI 1 μ x6 (((7 : Int32) * l5) + l6)).bind fun x8 => (opGR 12 24 μ l0).bind fun x10 => (opLI 1 μ x10 (((7 : Int32) * l5) + l4)).bind fun x12 => (opGR 12 24 μ l0).bind fun x14 => (opLI 1 μ x14 (((7 : Int32) * l4) + l6)).bind fun x16 => (some (if (x12 + x16) < x8 then (x12 + x16) else x8)).bind fun x18 => (opSI μ x4 (((7 : Int32) * l5) + l6) x18).bind fun μ20 => f_X12_laysLoss_199 k181 k190 n l0 l3 l4 l5 (l6 + 1) μ20)
set_option maxRecDepth 100000 in
def f_X12_laysLoss_190 (k181 : Nat → Int32 → Int32 → dtM → Option dtM) : Nat → Nat → Int32 → Int32 → Int32 → dtM → Option dtM
  | 0, _, _, _, _, _ => none
  | n + 1, l0, l3, l4, l5, μ =>
    if l3 ≤ l5 then (k181 l0 l3 (l4 + 1) μ) else (f_X12_laysLoss_199 k181 (f_X12_laysLoss_190 k181 n) dtFuel l0 l3 l4 l5 (0 : Int32) μ)
set_option maxRecDepth 100000 in
def f_X12_laysLoss_181 : Nat → Nat → Int32 → Int32 → dtM → Option dtM
  | 0, _, _, _, _ => none
  | n + 1, l0, l3, l4, μ =>
    if l3 ≤ l4 then (some μ) else (f_X12_laysLoss_190 (f_X12_laysLoss_181 n) dtFuel l0 l3 l4 (0 : Int32) μ)
set_option maxRecDepth 100000 in
def f_X12_laysLoss_172 (k48 : Nat → Int32 → Int32 → Int32 → Int32 → dtM → Option dtM) (l0 : Nat) (l1 : Int32) (l2 : Int32) (l3 : Int32) (l4 : Int32) (μ : dtM) : Option dtM :=
  k48 l0 l1 l2 l3 (l4 + 1) μ
set_option maxRecDepth 100000 in
def f_X12_laysLoss_97 (k48 : Nat → Int32 → Int32 → Int32 → Int32 → dtM → Option dtM) (l0 : Nat) (l1 : Int32) (l2 : Int32) (l3 : Int32) (l4 : Int32) (s0 : Int32) (μ : dtM) : Option dtM :=
  (opRv 12 μ l0).bind fun _ => opCall (f_X12_doorOf l0 l4 (0 : Int32) μ) fun x4 μ2 => (opRv 12 μ2 l0).bind fun _ => opCall (f_X12_doorOf l0 l4 (1 : Int32) μ2) fun x8 μ6 => (some (((7 : Int32) * x4) + x8)).bind fun x9 => (opRv 12 μ6 l0).bind fun _ => opCall (f_X12_doorOf l0 l4 (1 : Int32) μ6) fun x14 μ12 => (opRv 12 μ12 l0).bind fun _ => opCall (f_X12_doorOf l0 l4 (0 : Int32) μ12) fun x18 μ16 => (some (((7 : Int32) * x14) + x18)).bind fun x19 => (opGR 12 24 μ16 l0).bind fun x21 => (opGR 12 24 μ16 l0).bind fun x23 => (opLI 1 μ16 x23 x9).bind fun x25 => (some (if s0 < x25 then s0 else x25)).bind fun x27 => (opSI μ16 x21 x9 x27).bind fun μ29 => (opGR 12 24 μ29 l0).bind fun x31 => (opGR 12 24 μ29 l0).bind fun x33 => (opLI 1 μ29 x33 x9).bind fun x35 => (opSI μ29 x31 x19 x35).bind fun μ37 => f_X12_laysLoss_172 k48 l0 l1 l2 l3 l4 μ37
set_option maxRecDepth 100000 in
def f_X12_laysLoss_48 : Nat → Nat → Int32 → Int32 → Int32 → Int32 → dtM → Option dtM
  | 0, _, _, _, _, _, _ => none
  | n + 1, l0, l1, l2, l3, l4, μ =>
    (opGR 12 0 μ l0).bind fun x1 => (opLI 1 μ x1 (1 : Int32)).bind fun x3 => if x3 ≤ l4 then (f_X12_laysLoss_181 dtFuel l0 l3 (0 : Int32) μ) else (if l4 = l1 then (f_X12_laysLoss_172 (f_X12_laysLoss_48 n) l0 l1 l2 l3 l4 μ) else ((opRv 12 μ l0).bind fun _ => opCall (f_X12_isOpen l0 l4 μ) fun x14 μ12 => if x14 = 0 then ((opRv 12 μ12 l0).bind fun _ => opCall (f_X12_doorOf l0 l4 (2 : Int32) μ12) fun x21 μ19 => (some (if (x21 + l2) < (9 : Int32) then (x21 + l2) else (9 : Int32))).bind fun x22 => f_X12_laysLoss_97 (f_X12_laysLoss_48 n) l0 l1 l2 l3 l4 ((2 : Int32) + x22) μ19) else (f_X12_laysLoss_97 (f_X12_laysLoss_48 n) l0 l1 l2 l3 l4 (1 : Int32) μ12)))
set_option maxRecDepth 100000 in
def f_X12_laysLoss_38 (k10 : Nat → Int32 → Int32 → Int32 → Int32 → dtM → Option dtM) (l0 : Nat) (l1 : Int32) (l2 : Int32) (l3 : Int32) (l4 : Int32) (s0 : Nat) (s1 : Int32) (s2 : Int32) (μ : dtM) : Option dtM :=
  (opSI μ s0 s1 s2).bind fun μ1 => k10 l0 l1 l2 l3 (l4 + 1) μ1
set_option maxRecDepth 100000 in
def f_X12_laysLoss_10 : Nat → Nat → Int32 → Int32 → Int32 → Int32 → dtM → Option dtM
  | 0, _, _, _, _, _, _ => none
  | n + 1, l0, l1, l2, l3, l4, μ =>
    if (49 : Int32) ≤ l4 then (f_X12_laysLoss_48 dtFuel l0 l1 l2 l3 (0 : Int32) μ) else ((opGR 12 24 μ l0).bind fun x4 => (opRem l4 (8 : Int32)).bind fun x6 => if x6 = 0 then (f_X12_laysLoss_38 (f_X12_laysLoss_10 n) l0 l1 l2 l3 l4 x4 l4 (0 : Int32) μ) else (f_X12_laysLoss_38 (f_X12_laysLoss_10 n) l0 l1 l2 l3 l4 x4 l4 (1000000 : Int32) μ))
set_option maxRecDepth 100000 in
def f_X12_laysLoss (p0 : Nat) (p1 : Int32) (p2 : Int32) (μ : dtM) : Option dtM :=
  (opGR 12 0 μ p0).bind fun x1 => (opLI 1 μ x1 (0 : Int32)).bind fun x3 => f_X12_laysLoss_10 dtFuel p0 p1 p2 x3 (0 : Int32) μ
set_option maxRecDepth 100000 in
theorem c_X12_laysLoss_199 {F : dtM} (k181 : Nat → Int32 → Int32 → dtM → Option dtM) (k190 : Nat → Int32 → Int32 → Int32 → dtM → Option dtM) (hk181 : ∀ (l0 : Nat) (l3 : Int32) (l4 : Int32) (μ : dtM), k181 l0 l3 l4 μ = some F → dtW yX12_laysLoss cX12_laysLoss 8 (none) 3 (none) F 181 [some (.ref l0), none, none, some (.int l3), some (.int l4)] [] μ) (hk190 : ∀ (l0 : Nat) (l3 : Int32) (l4 : Int32) (l5 : Int32) (μ : dtM), k190 l0 l3 l4 l5 μ = some F → dtW yX12_laysLoss cX12_laysLoss 8 (none) 3 (none) F 190 [some (.ref l0), none, none, some (.int l3), some (.int l4), some (.int l5)] [] μ) : ∀ (n : Nat) (l0 : Nat) (l3 : Int32) (l4 : Int32) (l5 : Int32) (l6 : Int32) (μ : dtM), f_X12_laysLoss_199 k181 k190 n l0 l3 l4 l5 l6 μ = some F → dtW yX12_laysLoss cX12_laysLoss 8 (none) 3 (none) F 199 [some (.ref l0), none, none, some (.int l3), some (.int l4), some (.int l5), some (.int l6)] [] μ := by
  intro n
  induction n with
  | zero => intro l0 l3 l4 l5 l6 μ h; cases h
  | succ n ih =>
    intro l0 l3 l4 l5 l6 μ h
    have h := (show f_X12_laysLoss_199 k181 k190 (n + 1) l0 l3 l4 l5 l6 μ = some _ from h)
    rw [f_X12_laysLoss_199] at h
    refine dr_iload l6 dX12_laysLoss_199 rfl ?_
    refine dr_iload_n l3 dX12_laysLoss_201 rfl ?_
    obtain ⟨ht2, hf3⟩ := dtIte h
    refine dr_icmp_ge 267 dX12_laysLoss_202 (by decide) (fun hc1 => ?_) (fun hc1 => ?_)
    · have h := ht2 hc1
      refine dr_iinc l5 (l5 + 1) [some (.ref l0), none, none, some (.int l3), some (.int l4), some (.int (l5 + 1)), some (.int l6)] dX12_laysLoss_267 rfl rfl rfl rfl rfl ?_
      refine dr_goto 190 dX12_laysLoss_270 (by decide) ?_
      refine dr_mask [true, false, false, true, true, true] [some (.ref l0), none, none, some (.int l3), some (.int l4), some (.int (l5 + 1))] rfl ?_
      exact hk190 l0 l3 l4 (l5 + 1) μ h
    · have h := hf3 hc1
      refine dr_aload_n l0 dX12_laysLoss_205 rfl ?_
      obtain ⟨x4, e5, h⟩ := dtBind h
      refine dr_getR x4 dX12_laysLoss_206 fl_RX12_47 e5 ?_
      refine dr_bipush (7 : Int32) dX12_laysLoss_209 (by decide) ?_
      refine dr_iload l5 dX12_laysLoss_211 rfl ?_
      refine dr_imul dX12_laysLoss_213 ?_
      refine dr_iload l6 dX12_laysLoss_214 rfl ?_
      refine dr_iadd dX12_laysLoss_216 ?_
      refine dr_aload_n l0 dX12_laysLoss_217 rfl ?_
      obtain ⟨x6, e7, h⟩ := dtBind h
      refine dr_getR x6 dX12_laysLoss_218 fl_RX12_47 e7 ?_
      refine dr_bipush (7 : Int32) dX12_laysLoss_221 (by decide) ?_
      refine dr_iload l5 dX12_laysLoss_223 rfl ?_
      refine dr_imul dX12_laysLoss_225 ?_
      refine dr_iload l6 dX12_laysLoss_226 rfl ?_
      refine dr_iadd dX12_laysLoss_228 ?_
      obtain ⟨x8, e9, h⟩ := dtBind h
      refine dr_iaload x8 dX12_laysLoss_229 e9 ?_
      refine dr_aload_n l0 dX12_laysLoss_230 rfl ?_
      obtain ⟨x10, e11, h⟩ := dtBind h
      refine dr_getR x10 dX12_laysLoss_231 fl_RX12_47 e11 ?_
      refine dr_bipush (7 : Int32) dX12_laysLoss_234 (by decide) ?_
      refine dr_iload l5 dX12_laysLoss_236 rfl ?_
      refine dr_imul dX12_laysLoss_238 ?_
      refine dr_iload l4 dX12_laysLoss_239 rfl ?_
      refine dr_iadd dX12_laysLoss_241 ?_
      obtain ⟨x12, e13, h⟩ := dtBind h
      refine dr_iaload x12 dX12_laysLoss_242 e13 ?_
      refine dr_aload_n l0 dX12_laysLoss_243 rfl ?_
      obtain ⟨x14, e15, h⟩ := dtBind h
      refine dr_getR x14 dX12_laysLoss_244 fl_RX12_47 e15 ?_
      refine dr_bipush (7 : Int32) dX12_laysLoss_247 (by decide) ?_
      refine dr_iload l4 dX12_laysLoss_249 rfl ?_
      refine dr_imul dX12_laysLoss_251 ?_
      refine dr_iload l6 dX12_laysLoss_252 rfl ?_
      refine dr_iadd dX12_laysLoss_254 ?_
      obtain ⟨x16, e17, h⟩ := dtBind h
      refine dr_iaload x16 dX12_laysLoss_255 e17 ?_
      refine dr_iadd dX12_laysLoss_256 ?_
      refine dr_min dX12_laysLoss_257 wt_1549 wt_548 wt_15 wt_549 (Nat.le_of_ble_eq_true rfl) rfl ?_
      obtain ⟨x18, e19, h⟩ := dtBind h
      refine dr_nmi e19 ?_
      obtain ⟨μ20, e21, h⟩ := dtBind h
      refine dr_iastore μ20 dX12_laysLoss_260 e21 ?_
      refine dr_iinc l6 (l6 + 1) [some (.ref l0), none, none, some (.int l3), some (.int l4), some (.int l5), some (.int (l6 + 1))] dX12_laysLoss_261 rfl rfl rfl rfl rfl ?_
      refine dr_goto 199 dX12_laysLoss_264 (by decide) ?_
      exact ih l0 l3 l4 l5 (l6 + 1) μ20 h
set_option maxRecDepth 100000 in
theorem c_X12_laysLoss_190 {F : dtM} (k181 : Nat → Int32 → Int32 → dtM → Option dtM) (hk181 : ∀ (l0 : Nat) (l3 : Int32) (l4 : Int32) (μ : dtM), k181 l0 l3 l4 μ = some F → dtW yX12_laysLoss cX12_laysLoss 8 (none) 3 (none) F 181 [some (.ref l0), none, none, some (.int l3), some (.int l4)] [] μ) : ∀ (n : Nat) (l0 : Nat) (l3 : Int32) (l4 : Int32) (l5 : Int32) (μ : dtM), f_X12_laysLoss_190 k181 n l0 l3 l4 l5 μ = some F → dtW yX12_laysLoss cX12_laysLoss 8 (none) 3 (none) F 190 [some (.ref l0), none, none, some (.int l3), some (.int l4), some (.int l5)] [] μ := by
  intro n
  induction n with
  | zero => intro l0 l3 l4 l5 μ h; cases h
  | succ n ih =>
    intro l0 l3 l4 l5 μ h
    have h := (show f_X12_laysLoss_190 k181 (n + 1) l0 l3 l4 l5 μ = some _ from h)
    rw [f_X12_laysLoss_190] at h
    refine dr_iload l5 dX12_laysLoss_190 rfl ?_
    refine dr_iload_n l3 dX12_laysLoss_192 rfl ?_
    obtain ⟨ht2, hf3⟩ := dtIte h
    refine dr_icmp_ge 273 dX12_laysLoss_193 (by decide) (fun hc1 => ?_) (fun hc1 => ?_)
    · have h := ht2 hc1
      refine dr_iinc l4 (l4 + 1) [some (.ref l0), none, none, some (.int l3), some (.int (l4 + 1)), some (.int l5)] dX12_laysLoss_273 rfl rfl rfl rfl rfl ?_
      refine dr_goto 181 dX12_laysLoss_276 (by decide) ?_
      refine dr_mask [true, false, false, true, true] [some (.ref l0), none, none, some (.int l3), some (.int (l4 + 1))] rfl ?_
      exact hk181 l0 l3 (l4 + 1) μ h
    · have h := hf3 hc1
      refine dr_iconst (0 : Int32) dX12_laysLoss_196 (by decide) ?_
      refine dr_istore [some (.ref l0), none, none, some (.int l3), some (.int l4), some (.int l5), some (.int (0 : Int32))] dX12_laysLoss_197 rfl rfl rfl ?_
      exact c_X12_laysLoss_199 k181 (f_X12_laysLoss_190 k181 n) hk181 ih dtFuel l0 l3 l4 l5 (0 : Int32) μ h
set_option maxRecDepth 100000 in
theorem c_X12_laysLoss_181 {F : dtM} : ∀ (n : Nat) (l0 : Nat) (l3 : Int32) (l4 : Int32) (μ : dtM), f_X12_laysLoss_181 n l0 l3 l4 μ = some F → dtW yX12_laysLoss cX12_laysLoss 8 (none) 3 (none) F 181 [some (.ref l0), none, none, some (.int l3), some (.int l4)] [] μ := by
  intro n
  induction n with
  | zero => intro l0 l3 l4 μ h; cases h
  | succ n ih =>
    intro l0 l3 l4 μ h
    have h := (show f_X12_laysLoss_181 (n + 1) l0 l3 l4 μ = some _ from h)
    rw [f_X12_laysLoss_181] at h
    refine dr_iload l4 dX12_laysLoss_181 rfl ?_
    refine dr_iload_n l3 dX12_laysLoss_183 rfl ?_
    obtain ⟨ht2, hf3⟩ := dtIte h
    refine dr_icmp_ge 279 dX12_laysLoss_184 (by decide) (fun hc1 => ?_) (fun hc1 => ?_)
    · have h := ht2 hc1
      cases h
      exact dr_return dX12_laysLoss_279
    · have h := hf3 hc1
      refine dr_iconst (0 : Int32) dX12_laysLoss_187 (by decide) ?_
      refine dr_istore [some (.ref l0), none, none, some (.int l3), some (.int l4), some (.int (0 : Int32))] dX12_laysLoss_188 rfl rfl rfl ?_
      exact c_X12_laysLoss_190 (f_X12_laysLoss_181 n) ih dtFuel l0 l3 l4 (0 : Int32) μ h
set_option maxRecDepth 100000 in
theorem c_X12_laysLoss_172 {F : dtM} (k48 : Nat → Int32 → Int32 → Int32 → Int32 → dtM → Option dtM) (hk48 : ∀ (l0 : Nat) (l1 : Int32) (l2 : Int32) (l3 : Int32) (l4 : Int32) (μ : dtM), k48 l0 l1 l2 l3 l4 μ = some F → dtW yX12_laysLoss cX12_laysLoss 8 (none) 3 (none) F 48 [some (.ref l0), some (.int l1), some (.int l2), some (.int l3), some (.int l4)] [] μ) (l0 : Nat) (l1 : Int32) (l2 : Int32) (l3 : Int32) (l4 : Int32) (μ : dtM) (h : f_X12_laysLoss_172 k48 l0 l1 l2 l3 l4 μ = some F) : dtW yX12_laysLoss cX12_laysLoss 8 (none) 3 (none) F 172 [some (.ref l0), some (.int l1), some (.int l2), some (.int l3), some (.int l4)] [] μ := by
  rw [f_X12_laysLoss_172] at h
  refine dr_iinc l4 (l4 + 1) [some (.ref l0), some (.int l1), some (.int l2), some (.int l3), some (.int (l4 + 1))] dX12_laysLoss_172 rfl rfl rfl rfl rfl ?_
  refine dr_goto 48 dX12_laysLoss_175 (by decide) ?_
  exact hk48 l0 l1 l2 l3 (l4 + 1) μ h
set_option maxRecDepth 100000 in
theorem c_X12_laysLoss_97 {F : dtM} (k48 : Nat → Int32 → Int32 → Int32 → Int32 → dtM → Option dtM) (hk48 : ∀ (l0 : Nat) (l1 : Int32) (l2 : Int32) (l3 : Int32) (l4 : Int32) (μ : dtM), k48 l0 l1 l2 l3 l4 μ = some F → dtW yX12_laysLoss cX12_laysLoss 8 (none) 3 (none) F 48 [some (.ref l0), some (.int l1), some (.int l2), some (.int l3), some (.int l4)] [] μ) (l0 : Nat) (l1 : Int32) (l2 : Int32) (l3 : Int32) (l4 : Int32) (s0 : Int32) (μ : dtM) (h : f_X12_laysLoss_97 k48 l0 l1 l2 l3 l4 s0 μ = some F) : dtW yX12_laysLoss cX12_laysLoss 8 (none) 3 (none) F 97 [some (.ref l0), some (.int l1), some (.int l2), some (.int l3), some (.int l4)] [.int s0] μ := by
  rw [f_X12_laysLoss_97] at h
  refine dr_istore [some (.ref l0), some (.int l1), some (.int l2), some (.int l3), some (.int l4), some (.int s0)] dX12_laysLoss_97 rfl rfl rfl ?_
  refine dr_bipush (7 : Int32) dX12_laysLoss_99 (by decide) ?_
  refine dr_aload_n l0 dX12_laysLoss_101 rfl ?_
  refine dr_iload l4 dX12_laysLoss_102 rfl ?_
  refine dr_iconst (0 : Int32) dX12_laysLoss_104 (by decide) ?_
  obtain ⟨_, hb1, h⟩ := dtBind h
  obtain ⟨x4, μ2, e3, h⟩ := dtCall h
  refine dr_callV_i (S0 := [.int (7 : Int32)]) [.int l4, .int (0 : Int32)] x4 μ2 dX12_laysLoss_105 (c_X12_doorOf l0 l4 (0 : Int32) μ e3) mf_X12_doorOf wt_1712 ws_93 wt_1710 rfl (dtRv hb1) (by decide) rfl (Nat.le_of_ble_eq_true rfl) (Nat.le_of_ble_eq_true rfl) rfl ?_
  refine dr_imul dX12_laysLoss_108 ?_
  refine dr_aload_n l0 dX12_laysLoss_109 rfl ?_
  refine dr_iload l4 dX12_laysLoss_110 rfl ?_
  refine dr_iconst (1 : Int32) dX12_laysLoss_112 (by decide) ?_
  obtain ⟨_, hb5, h⟩ := dtBind h
  obtain ⟨x8, μ6, e7, h⟩ := dtCall h
  refine dr_callV_i (S0 := [.int ((7 : Int32) * x4)]) [.int l4, .int (1 : Int32)] x8 μ6 dX12_laysLoss_113 (c_X12_doorOf l0 l4 (1 : Int32) μ2 e7) mf_X12_doorOf wt_1712 ws_93 wt_1710 rfl (dtRv hb5) (by decide) rfl (Nat.le_of_ble_eq_true rfl) (Nat.le_of_ble_eq_true rfl) rfl ?_
  refine dr_iadd dX12_laysLoss_116 ?_
  obtain ⟨x9, e10, h⟩ := dtBind h
  refine dr_nmi e10 ?_
  refine dr_istore [some (.ref l0), some (.int l1), some (.int l2), some (.int l3), some (.int l4), some (.int s0), some (.int x9)] dX12_laysLoss_117 rfl rfl rfl ?_
  refine dr_bipush (7 : Int32) dX12_laysLoss_119 (by decide) ?_
  refine dr_aload_n l0 dX12_laysLoss_121 rfl ?_
  refine dr_iload l4 dX12_laysLoss_122 rfl ?_
  refine dr_iconst (1 : Int32) dX12_laysLoss_124 (by decide) ?_
  obtain ⟨_, hb11, h⟩ := dtBind h
  obtain ⟨x14, μ12, e13, h⟩ := dtCall h
  refine dr_callV_i (S0 := [.int (7 : Int32)]) [.int l4, .int (1 : Int32)] x14 μ12 dX12_laysLoss_125 (c_X12_doorOf l0 l4 (1 : Int32) μ6 e13) mf_X12_doorOf wt_1712 ws_93 wt_1710 rfl (dtRv hb11) (by decide) rfl (Nat.le_of_ble_eq_true rfl) (Nat.le_of_ble_eq_true rfl) rfl ?_
  refine dr_imul dX12_laysLoss_128 ?_
  refine dr_aload_n l0 dX12_laysLoss_129 rfl ?_
  refine dr_iload l4 dX12_laysLoss_130 rfl ?_
  refine dr_iconst (0 : Int32) dX12_laysLoss_132 (by decide) ?_
  obtain ⟨_, hb15, h⟩ := dtBind h
  obtain ⟨x18, μ16, e17, h⟩ := dtCall h
  refine dr_callV_i (S0 := [.int ((7 : Int32) * x14)]) [.int l4, .int (0 : Int32)] x18 μ16 dX12_laysLoss_133 (c_X12_doorOf l0 l4 (0 : Int32) μ12 e17) mf_X12_doorOf wt_1712 ws_93 wt_1710 rfl (dtRv hb15) (by decide) rfl (Nat.le_of_ble_eq_true rfl) (Nat.le_of_ble_eq_true rfl) rfl ?_
  refine dr_iadd dX12_laysLoss_136 ?_
  obtain ⟨x19, e20, h⟩ := dtBind h
  refine dr_nmi e20 ?_
  refine dr_istore [some (.ref l0), some (.int l1), some (.int l2), some (.int l3), some (.int l4), some (.int s0), some (.int x9), some (.int x19)] dX12_laysLoss_137 rfl rfl rfl ?_
  refine dr_aload_n l0 dX12_laysLoss_139 rfl ?_
  obtain ⟨x21, e22, h⟩ := dtBind h
  refine dr_getR x21 dX12_laysLoss_140 fl_RX12_47 e22 ?_
  refine dr_iload x9 dX12_laysLoss_143 rfl ?_
  refine dr_aload_n l0 dX12_laysLoss_145 rfl ?_
  obtain ⟨x23, e24, h⟩ := dtBind h
  refine dr_getR x23 dX12_laysLoss_146 fl_RX12_47 e24 ?_
  refine dr_iload x9 dX12_laysLoss_149 rfl ?_
  obtain ⟨x25, e26, h⟩ := dtBind h
  refine dr_iaload x25 dX12_laysLoss_151 e26 ?_
  refine dr_iload s0 dX12_laysLoss_152 rfl ?_
  refine dr_min dX12_laysLoss_154 wt_1549 wt_548 wt_15 wt_549 (Nat.le_of_ble_eq_true rfl) rfl ?_
  obtain ⟨x27, e28, h⟩ := dtBind h
  refine dr_nmi e28 ?_
  obtain ⟨μ29, e30, h⟩ := dtBind h
  refine dr_iastore μ29 dX12_laysLoss_157 e30 ?_
  refine dr_aload_n l0 dX12_laysLoss_158 rfl ?_
  obtain ⟨x31, e32, h⟩ := dtBind h
  refine dr_getR x31 dX12_laysLoss_159 fl_RX12_47 e32 ?_
  refine dr_iload x19 dX12_laysLoss_162 rfl ?_
  refine dr_aload_n l0 dX12_laysLoss_164 rfl ?_
  obtain ⟨x33, e34, h⟩ := dtBind h
  refine dr_getR x33 dX12_laysLoss_165 fl_RX12_47 e34 ?_
  refine dr_iload x9 dX12_laysLoss_168 rfl ?_
  obtain ⟨x35, e36, h⟩ := dtBind h
  refine dr_iaload x35 dX12_laysLoss_170 e36 ?_
  obtain ⟨μ37, e38, h⟩ := dtBind h
  refine dr_iastore μ37 dX12_laysLoss_171 e38 ?_
  refine dr_mask [true, true, true, true, true] [some (.ref l0), some (.int l1), some (.int l2), some (.int l3), some (.int l4)] rfl ?_
  exact c_X12_laysLoss_172 k48 hk48 l0 l1 l2 l3 l4 μ37 h
set_option maxRecDepth 100000 in
theorem c_X12_laysLoss_48 {F : dtM} : ∀ (n : Nat) (l0 : Nat) (l1 : Int32) (l2 : Int32) (l3 : Int32) (l4 : Int32) (μ : dtM), f_X12_laysLoss_48 n l0 l1 l2 l3 l4 μ = some F → dtW yX12_laysLoss cX12_laysLoss 8 (none) 3 (none) F 48 [some (.ref l0), some (.int l1), some (.int l2), some (.int l3), some (.int l4)] [] μ := by
  intro n
  induction n with
  | zero => intro l0 l1 l2 l3 l4 μ h; cases h
  | succ n ih =>
    intro l0 l1 l2 l3 l4 μ h
    have h := (show f_X12_laysLoss_48 (n + 1) l0 l1 l2 l3 l4 μ = some _ from h)
    rw [f_X12_laysLoss_48] at h
    refine dr_iload l4 dX12_laysLoss_48 rfl ?_
    refine dr_aload_n l0 dX12_laysLoss_50 rfl ?_
    obtain ⟨x1, e2, h⟩ := dtBind h
    refine dr_getR x1 dX12_laysLoss_51 fl_RX12_7 e2 ?_
    refine dr_iconst (1 : Int32) dX12_laysLoss_54 (by decide) ?_
    obtain ⟨x3, e4, h⟩ := dtBind h
    refine dr_iaload x3 dX12_laysLoss_55 e4 ?_
    obtain ⟨ht6, hf7⟩ := dtIte h
    refine dr_icmp_ge 178 dX12_laysLoss_56 (by decide) (fun hc5 => ?_) (fun hc5 => ?_)
    · have h := ht6 hc5
      refine dr_iconst (0 : Int32) dX12_laysLoss_178 (by decide) ?_
      refine dr_istore [some (.ref l0), some (.int l1), some (.int l2), some (.int l3), some (.int (0 : Int32))] dX12_laysLoss_179 rfl rfl rfl ?_
      refine dr_mask [true, false, false, true, true] [some (.ref l0), none, none, some (.int l3), some (.int (0 : Int32))] rfl ?_
      exact c_X12_laysLoss_181 dtFuel l0 l3 (0 : Int32) μ h
    · have h := hf7 hc5
      refine dr_iload l4 dX12_laysLoss_59 rfl ?_
      refine dr_iload_n l1 dX12_laysLoss_61 rfl ?_
      obtain ⟨ht9, hf10⟩ := dtIte h
      refine dr_icmp_ne 68 dX12_laysLoss_62 (by decide) (fun hc8 => ?_) (fun hc8 => ?_)
      · have h := hf10 hc8
        refine dr_aload_n l0 dX12_laysLoss_68 rfl ?_
        refine dr_iload l4 dX12_laysLoss_69 rfl ?_
        obtain ⟨_, hb11, h⟩ := dtBind h
        obtain ⟨x14, μ12, e13, h⟩ := dtCall h
        refine dr_callV_i (S0 := []) [.int l4] x14 μ12 dX12_laysLoss_71 (c_X12_isOpen l0 l4 μ e13) mf_X12_isOpen wt_1757 ws_99 wt_1755 rfl (dtRv hb11) (by decide) rfl (Nat.le_of_ble_eq_true rfl) (Nat.le_of_ble_eq_true rfl) rfl ?_
        obtain ⟨ht16, hf17⟩ := dtIte h
        refine dr_if_eq 81 dX12_laysLoss_74 (by decide) (fun hc15 => ?_) (fun hc15 => ?_)
        · have h := ht16 hc15
          refine dr_iconst (2 : Int32) dX12_laysLoss_81 (by decide) ?_
          refine dr_bipush (9 : Int32) dX12_laysLoss_82 (by decide) ?_
          refine dr_aload_n l0 dX12_laysLoss_84 rfl ?_
          refine dr_iload l4 dX12_laysLoss_85 rfl ?_
          refine dr_iconst (2 : Int32) dX12_laysLoss_87 (by decide) ?_
          obtain ⟨_, hb18, h⟩ := dtBind h
          obtain ⟨x21, μ19, e20, h⟩ := dtCall h
          refine dr_callV_i (S0 := [.int (9 : Int32), .int (2 : Int32)]) [.int l4, .int (2 : Int32)] x21 μ19 dX12_laysLoss_88 (c_X12_doorOf l0 l4 (2 : Int32) μ12 e20) mf_X12_doorOf wt_1712 ws_93 wt_1710 rfl (dtRv hb18) (by decide) rfl (Nat.le_of_ble_eq_true rfl) (Nat.le_of_ble_eq_true rfl) rfl ?_
          refine dr_iload_n l2 dX12_laysLoss_91 rfl ?_
          refine dr_iadd dX12_laysLoss_92 ?_
          refine dr_min dX12_laysLoss_93 wt_1549 wt_548 wt_15 wt_549 (Nat.le_of_ble_eq_true rfl) rfl ?_
          obtain ⟨x22, e23, h⟩ := dtBind h
          refine dr_nmi e23 ?_
          refine dr_iadd dX12_laysLoss_96 ?_
          exact c_X12_laysLoss_97 (f_X12_laysLoss_48 n) ih l0 l1 l2 l3 l4 ((2 : Int32) + x22) μ19 h
        · have h := hf17 hc15
          refine dr_iconst (1 : Int32) dX12_laysLoss_77 (by decide) ?_
          refine dr_goto 97 dX12_laysLoss_78 (by decide) ?_
          exact c_X12_laysLoss_97 (f_X12_laysLoss_48 n) ih l0 l1 l2 l3 l4 (1 : Int32) μ12 h
      · have h := ht9 hc8
        refine dr_goto 172 dX12_laysLoss_65 (by decide) ?_
        exact c_X12_laysLoss_172 (f_X12_laysLoss_48 n) ih l0 l1 l2 l3 l4 μ h
set_option maxRecDepth 100000 in
theorem c_X12_laysLoss_38 {F : dtM} (k10 : Nat → Int32 → Int32 → Int32 → Int32 → dtM → Option dtM) (hk10 : ∀ (l0 : Nat) (l1 : Int32) (l2 : Int32) (l3 : Int32) (l4 : Int32) (μ : dtM), k10 l0 l1 l2 l3 l4 μ = some F → dtW yX12_laysLoss cX12_laysLoss 8 (none) 3 (none) F 10 [some (.ref l0), some (.int l1), some (.int l2), some (.int l3), some (.int l4)] [] μ) (l0 : Nat) (l1 : Int32) (l2 : Int32) (l3 : Int32) (l4 : Int32) (s0 : Nat) (s1 : Int32) (s2 : Int32) (μ : dtM) (h : f_X12_laysLoss_38 k10 l0 l1 l2 l3 l4 s0 s1 s2 μ = some F) : dtW yX12_laysLoss cX12_laysLoss 8 (none) 3 (none) F 38 [some (.ref l0), some (.int l1), some (.int l2), some (.int l3), some (.int l4)] [.int s2, .int s1, .ref s0] μ := by
  rw [f_X12_laysLoss_38] at h
  obtain ⟨μ1, e2, h⟩ := dtBind h
  refine dr_iastore μ1 dX12_laysLoss_38 e2 ?_
  refine dr_iinc l4 (l4 + 1) [some (.ref l0), some (.int l1), some (.int l2), some (.int l3), some (.int (l4 + 1))] dX12_laysLoss_39 rfl rfl rfl rfl rfl ?_
  refine dr_goto 10 dX12_laysLoss_42 (by decide) ?_
  exact hk10 l0 l1 l2 l3 (l4 + 1) μ1 h
set_option maxRecDepth 100000 in
theorem c_X12_laysLoss_10 {F : dtM} : ∀ (n : Nat) (l0 : Nat) (l1 : Int32) (l2 : Int32) (l3 : Int32) (l4 : Int32) (μ : dtM), f_X12_laysLoss_10 n l0 l1 l2 l3 l4 μ = some F → dtW yX12_laysLoss cX12_laysLoss 8 (none) 3 (none) F 10 [some (.ref l0), some (.int l1), some (.int l2), some (.int l3), some (.int l4)] [] μ := by
  intro n
  induction n with
  | zero => intro l0 l1 l2 l3 l4 μ h; cases h
  | succ n ih =>
    intro l0 l1 l2 l3 l4 μ h
    have h := (show f_X12_laysLoss_10 (n + 1) l0 l1 l2 l3 l4 μ = some _ from h)
    rw [f_X12_laysLoss_10] at h
    refine dr_iload l4 dX12_laysLoss_10 rfl ?_
    refine dr_bipush (49 : Int32) dX12_laysLoss_12 (by decide) ?_
    obtain ⟨ht2, hf3⟩ := dtIte h
    refine dr_icmp_ge 45 dX12_laysLoss_14 (by decide) (fun hc1 => ?_) (fun hc1 => ?_)
    · have h := ht2 hc1
      refine dr_iconst (0 : Int32) dX12_laysLoss_45 (by decide) ?_
      refine dr_istore [some (.ref l0), some (.int l1), some (.int l2), some (.int l3), some (.int (0 : Int32))] dX12_laysLoss_46 rfl rfl rfl ?_
      exact c_X12_laysLoss_48 dtFuel l0 l1 l2 l3 (0 : Int32) μ h
    · have h := hf3 hc1
      refine dr_aload_n l0 dX12_laysLoss_17 rfl ?_
      obtain ⟨x4, e5, h⟩ := dtBind h
      refine dr_getR x4 dX12_laysLoss_18 fl_RX12_47 e5 ?_
      refine dr_iload l4 dX12_laysLoss_21 rfl ?_
      refine dr_iload l4 dX12_laysLoss_23 rfl ?_
      refine dr_bipush (8 : Int32) dX12_laysLoss_25 (by decide) ?_
      obtain ⟨x6, e7, h⟩ := dtBind h
      refine dr_irem_n x6 dX12_laysLoss_27 e7 ?_
      obtain ⟨ht9, hf10⟩ := dtIte h
      refine dr_if_ne 35 dX12_laysLoss_28 (by decide) (fun hc8 => ?_) (fun hc8 => ?_)
      · have h := hf10 hc8
        refine dr_ldcw (1000000 : Int32) dX12_laysLoss_35 wt_1754 ?_
        exact c_X12_laysLoss_38 (f_X12_laysLoss_10 n) ih l0 l1 l2 l3 l4 x4 l4 (1000000 : Int32) μ h
      · have h := ht9 hc8
        refine dr_iconst (0 : Int32) dX12_laysLoss_31 (by decide) ?_
        refine dr_goto 38 dX12_laysLoss_32 (by decide) ?_
        exact c_X12_laysLoss_38 (f_X12_laysLoss_10 n) ih l0 l1 l2 l3 l4 x4 l4 (0 : Int32) μ h
set_option maxRecDepth 100000 in
theorem c_X12_laysLoss {F : dtM} (p0 : Nat) (p1 : Int32) (p2 : Int32) (μ : dtM) (h : f_X12_laysLoss p0 p1 p2 μ = some F) : dtMet yX12_laysLoss cX12_laysLoss 8 (none) 3 [.ref p0, .int p1, .int p2] μ (none) F := by
  refine dtMet.of (by decide +kernel) (Nat.le_of_ble_eq_true rfl) (show dtW yX12_laysLoss cX12_laysLoss 8 (none) 3 (none) F 0 [some (.ref p0), some (.int p1), some (.int p2)] [] μ from ?_)
  rw [f_X12_laysLoss] at h
  refine dr_aload_n p0 dX12_laysLoss_0 rfl ?_
  obtain ⟨x1, e2, h⟩ := dtBind h
  refine dr_getR x1 dX12_laysLoss_1 fl_RX12_7 e2 ?_
  refine dr_iconst (0 : Int32) dX12_laysLoss_4 (by decide) ?_
  obtain ⟨x3, e4, h⟩ := dtBind h
  refine dr_iaload x3 dX12_laysLoss_5 e4 ?_
  refine dr_istore_n 3 [some (.ref p0), some (.int p1), some (.int p2), some (.int x3)] dX12_laysLoss_6 rfl rfl rfl rfl ?_
  refine dr_iconst (0 : Int32) dX12_laysLoss_7 (by decide) ?_
  refine dr_istore [some (.ref p0), some (.int p1), some (.int p2), some (.int x3), some (.int (0 : Int32))] dX12_laysLoss_8 rfl rfl rfl ?_
  exact c_X12_laysLoss_10 dtFuel p0 p1 p2 x3 (0 : Int32) μ h
/-! X12_loss -/
theorem dX12_loss_0 : decode cX12_loss 0 = .ok (.aload_n 0, 1) := by decide +kernel
theorem dX12_loss_1 : decode cX12_loss 1 = .ok (.iload_n 1, 1) := by decide +kernel
theorem dX12_loss_2 : decode cX12_loss 2 = .ok (.invokevirtual 314, 3) := by decide +kernel
theorem dX12_loss_5 : decode cX12_loss 5 = .ok (.ifCond .eq 11, 3) := by decide +kernel
theorem dX12_loss_8 : decode cX12_loss 8 = .ok (.aload_n 0, 1) := by decide +kernel
theorem dX12_loss_9 : decode cX12_loss 9 = .ok (.iload_n 2, 1) := by decide +kernel
theorem dX12_loss_10 : decode cX12_loss 10 = .ok (.invokevirtual 314, 3) := by decide +kernel
theorem dX12_loss_13 : decode cX12_loss 13 = .ok (.ifCond .ne 9, 3) := by decide +kernel
theorem dX12_loss_16 : decode cX12_loss 16 = .ok (.aload_n 0, 1) := by decide +kernel
theorem dX12_loss_17 : decode cX12_loss 17 = .ok (.iconst 1, 1) := by decide +kernel
theorem dX12_loss_18 : decode cX12_loss 18 = .ok (.invokevirtual 93, 3) := by decide +kernel
theorem dX12_loss_21 : decode cX12_loss 21 = .ok (.ireturn, 1) := by decide +kernel
theorem dX12_loss_22 : decode cX12_loss 22 = .ok (.aload_n 0, 1) := by decide +kernel
theorem dX12_loss_23 : decode cX12_loss 23 = .ok (.iconst (-1), 1) := by decide +kernel
theorem dX12_loss_24 : decode cX12_loss 24 = .ok (.iconst 0, 1) := by decide +kernel
theorem dX12_loss_25 : decode cX12_loss 25 = .ok (.invokevirtual 317, 3) := by decide +kernel
theorem dX12_loss_28 : decode cX12_loss 28 = .ok (.aload_n 0, 1) := by decide +kernel
theorem dX12_loss_29 : decode cX12_loss 29 = .ok (.getfield 47, 3) := by decide +kernel
theorem dX12_loss_32 : decode cX12_loss 32 = .ok (.bipush 7, 2) := by decide +kernel
theorem dX12_loss_34 : decode cX12_loss 34 = .ok (.iload_n 1, 1) := by decide +kernel
theorem dX12_loss_35 : decode cX12_loss 35 = .ok (.imul, 1) := by decide +kernel
theorem dX12_loss_36 : decode cX12_loss 36 = .ok (.iload_n 2, 1) := by decide +kernel
theorem dX12_loss_37 : decode cX12_loss 37 = .ok (.iadd, 1) := by decide +kernel
theorem dX12_loss_38 : decode cX12_loss 38 = .ok (.iaload, 1) := by decide +kernel
theorem dX12_loss_39 : decode cX12_loss 39 = .ok (.istore_n 3, 1) := by decide +kernel
theorem dX12_loss_40 : decode cX12_loss 40 = .ok (.iload_n 3, 1) := by decide +kernel
theorem dX12_loss_41 : decode cX12_loss 41 = .ok (.ldc_w 310, 3) := by decide +kernel
theorem dX12_loss_44 : decode cX12_loss 44 = .ok (.if_icmp .lt 12, 3) := by decide +kernel
theorem dX12_loss_47 : decode cX12_loss 47 = .ok (.aload_n 0, 1) := by decide +kernel
theorem dX12_loss_48 : decode cX12_loss 48 = .ok (.bipush 6, 2) := by decide +kernel
theorem dX12_loss_50 : decode cX12_loss 50 = .ok (.invokevirtual 93, 3) := by decide +kernel
theorem dX12_loss_53 : decode cX12_loss 53 = .ok (.goto 8, 3) := by decide +kernel
theorem dX12_loss_56 : decode cX12_loss 56 = .ok (.aload_n 0, 1) := by decide +kernel
theorem dX12_loss_57 : decode cX12_loss 57 = .ok (.iload_n 3, 1) := by decide +kernel
theorem dX12_loss_58 : decode cX12_loss 58 = .ok (.invokevirtual 97, 3) := by decide +kernel
theorem dX12_loss_61 : decode cX12_loss 61 = .ok (.ireturn, 1) := by decide +kernel
set_option maxRecDepth 100000 in
def f_X12_loss_16 (l0 : Nat) (μ : dtM) : Option (Int32 × dtM) :=
  (opRv 12 μ l0).bind fun _ => opCall (f_X12_refuse l0 (1 : Int32) μ) fun x4 μ2 => some (x4, μ2)
set_option maxRecDepth 100000 in
def f_X12_loss_61 (s0 : Int32) (μ : dtM) : Option (Int32 × dtM) :=
  some (s0, μ)
set_option maxRecDepth 100000 in
def f_X12_loss (p0 : Nat) (p1 : Int32) (p2 : Int32) (μ : dtM) : Option (Int32 × dtM) :=
  (opRv 12 μ p0).bind fun _ => opCall (f_X12_isRoom p0 p1 μ) fun x4 μ2 => if x4 = 0 then (f_X12_loss_16 p0 μ2) else ((opRv 12 μ2 p0).bind fun _ => opCall (f_X12_isRoom p0 p2 μ2) fun x11 μ9 => if x11 = 0 then (f_X12_loss_16 p0 μ9) else ((opRv 12 μ9 p0).bind fun _ => (f_X12_laysLoss p0 (-1 : Int32) (0 : Int32) μ9).bind fun μ16 => (opGR 12 24 μ16 p0).bind fun x18 => (opLI 1 μ16 x18 (((7 : Int32) * p1) + p2)).bind fun x20 => if x20 < (1000000 : Int32) then ((opRv 12 μ16 p0).bind fun _ => opCall (f_X12_gives p0 x20 μ16) fun x28 μ26 => f_X12_loss_61 x28 μ26) else ((opRv 12 μ16 p0).bind fun _ => opCall (f_X12_refuse p0 (6 : Int32) μ16) fun x32 μ30 => f_X12_loss_61 x32 μ30)))
set_option maxRecDepth 100000 in
theorem c_X12_loss_16 {r : Int32} {F : dtM} (l0 : Nat) (μ : dtM) (h : f_X12_loss_16 l0 μ = some (r, F)) : dtW yX12_loss cX12_loss 4 (some .int) 4 (some (.int r)) F 16 [some (.ref l0)] [] μ := by
  rw [f_X12_loss_16] at h
  refine dr_aload_n l0 dX12_loss_16 rfl ?_
  refine dr_iconst (1 : Int32) dX12_loss_17 (by decide) ?_
  obtain ⟨_, hb1, h⟩ := dtBind h
  obtain ⟨x4, μ2, e3, h⟩ := dtCall h
  refine dr_callV_i (S0 := []) [.int (1 : Int32)] x4 μ2 dX12_loss_18 (c_X12_refuse l0 (1 : Int32) μ e3) mf_X12_refuse wt_1552 ws_59 wt_1550 rfl (dtRv hb1) (by decide) rfl (Nat.le_of_ble_eq_true rfl) (Nat.le_of_ble_eq_true rfl) rfl ?_
  cases h
  exact dr_ireturn dX12_loss_21 rfl
set_option maxRecDepth 100000 in
theorem c_X12_loss_61 {r : Int32} {F : dtM} (s0 : Int32) (μ : dtM) (h : f_X12_loss_61 s0 μ = some (r, F)) : dtW yX12_loss cX12_loss 4 (some .int) 4 (some (.int r)) F 61 [] [.int s0] μ := by
  rw [f_X12_loss_61] at h
  cases h
  exact dr_ireturn dX12_loss_61 rfl
set_option maxRecDepth 100000 in
theorem c_X12_loss {r : Int32} {F : dtM} (p0 : Nat) (p1 : Int32) (p2 : Int32) (μ : dtM) (h : f_X12_loss p0 p1 p2 μ = some (r, F)) : dtMet yX12_loss cX12_loss 4 (some .int) 4 [.ref p0, .int p1, .int p2] μ (some (.int r)) F := by
  refine dtMet.of (by decide +kernel) (Nat.le_of_ble_eq_true rfl) (show dtW yX12_loss cX12_loss 4 (some .int) 4 (some (.int r)) F 0 [some (.ref p0), some (.int p1), some (.int p2)] [] μ from ?_)
  rw [f_X12_loss] at h
  refine dr_aload_n p0 dX12_loss_0 rfl ?_
  refine dr_iload_n p1 dX12_loss_1 rfl ?_
  obtain ⟨_, hb1, h⟩ := dtBind h
  obtain ⟨x4, μ2, e3, h⟩ := dtCall h
  refine dr_callV_i (S0 := []) [.int p1] x4 μ2 dX12_loss_2 (c_X12_isRoom p0 p1 μ e3) mf_X12_isRoom wt_1748 ws_97 wt_1746 rfl (dtRv hb1) (by decide) rfl (Nat.le_of_ble_eq_true rfl) (Nat.le_of_ble_eq_true rfl) rfl ?_
  obtain ⟨ht6, hf7⟩ := dtIte h
  refine dr_if_eq 16 dX12_loss_5 (by decide) (fun hc5 => ?_) (fun hc5 => ?_)
  · have h := ht6 hc5
    refine dr_mask [true] [some (.ref p0)] rfl ?_
    exact c_X12_loss_16 p0 μ2 h
  · have h := hf7 hc5
    refine dr_aload_n p0 dX12_loss_8 rfl ?_
    refine dr_iload_n p2 dX12_loss_9 rfl ?_
    obtain ⟨_, hb8, h⟩ := dtBind h
    obtain ⟨x11, μ9, e10, h⟩ := dtCall h
    refine dr_callV_i (S0 := []) [.int p2] x11 μ9 dX12_loss_10 (c_X12_isRoom p0 p2 μ2 e10) mf_X12_isRoom wt_1748 ws_97 wt_1746 rfl (dtRv hb8) (by decide) rfl (Nat.le_of_ble_eq_true rfl) (Nat.le_of_ble_eq_true rfl) rfl ?_
    obtain ⟨ht13, hf14⟩ := dtIte h
    refine dr_if_ne 22 dX12_loss_13 (by decide) (fun hc12 => ?_) (fun hc12 => ?_)
    · have h := hf14 hc12
      refine dr_aload_n p0 dX12_loss_22 rfl ?_
      refine dr_iconst (-1 : Int32) dX12_loss_23 (by decide) ?_
      refine dr_iconst (0 : Int32) dX12_loss_24 (by decide) ?_
      obtain ⟨_, hb15, h⟩ := dtBind h
      obtain ⟨μ16, e17, h⟩ := dtBind h
      refine dr_callV_v (S0 := []) [.int (-1 : Int32), .int (0 : Int32)] μ16 dX12_loss_25 (c_X12_laysLoss p0 (-1 : Int32) (0 : Int32) μ9 e17) mf_X12_laysLoss wt_1752 ws_98 wt_1750 rfl (dtRv hb15) (by decide) rfl (Nat.le_of_ble_eq_true rfl) (Nat.le_of_ble_eq_true rfl) rfl ?_
      refine dr_aload_n p0 dX12_loss_28 rfl ?_
      obtain ⟨x18, e19, h⟩ := dtBind h
      refine dr_getR x18 dX12_loss_29 fl_RX12_47 e19 ?_
      refine dr_bipush (7 : Int32) dX12_loss_32 (by decide) ?_
      refine dr_iload_n p1 dX12_loss_34 rfl ?_
      refine dr_imul dX12_loss_35 ?_
      refine dr_iload_n p2 dX12_loss_36 rfl ?_
      refine dr_iadd dX12_loss_37 ?_
      obtain ⟨x20, e21, h⟩ := dtBind h
      refine dr_iaload x20 dX12_loss_38 e21 ?_
      refine dr_istore_n 3 [some (.ref p0), some (.int p1), some (.int p2), some (.int x20)] dX12_loss_39 rfl rfl rfl rfl ?_
      refine dr_iload_n x20 dX12_loss_40 rfl ?_
      refine dr_ldcw (1000000 : Int32) dX12_loss_41 wt_1754 ?_
      obtain ⟨ht23, hf24⟩ := dtIte h
      refine dr_icmp_lt 56 dX12_loss_44 (by decide) (fun hc22 => ?_) (fun hc22 => ?_)
      · have h := ht23 hc22
        refine dr_aload_n p0 dX12_loss_56 rfl ?_
        refine dr_iload_n x20 dX12_loss_57 rfl ?_
        obtain ⟨_, hb25, h⟩ := dtBind h
        obtain ⟨x28, μ26, e27, h⟩ := dtCall h
        refine dr_callV_i (S0 := []) [.int x20] x28 μ26 dX12_loss_58 (c_X12_gives p0 x20 μ16 e27) mf_X12_gives wt_1668 ws_85 wt_1666 rfl (dtRv hb25) (by decide) rfl (Nat.le_of_ble_eq_true rfl) (Nat.le_of_ble_eq_true rfl) rfl ?_
        refine dr_mask [] [] rfl ?_
        exact c_X12_loss_61 x28 μ26 h
      · have h := hf24 hc22
        refine dr_aload_n p0 dX12_loss_47 rfl ?_
        refine dr_bipush (6 : Int32) dX12_loss_48 (by decide) ?_
        obtain ⟨_, hb29, h⟩ := dtBind h
        obtain ⟨x32, μ30, e31, h⟩ := dtCall h
        refine dr_callV_i (S0 := []) [.int (6 : Int32)] x32 μ30 dX12_loss_50 (c_X12_refuse p0 (6 : Int32) μ16 e31) mf_X12_refuse wt_1552 ws_59 wt_1550 rfl (dtRv hb29) (by decide) rfl (Nat.le_of_ble_eq_true rfl) (Nat.le_of_ble_eq_true rfl) rfl ?_
        refine dr_goto 61 dX12_loss_53 (by decide) ?_
        refine dr_mask [] [] rfl ?_
        exact c_X12_loss_61 x32 μ30 h
    · have h := ht13 hc12
      refine dr_mask [true] [some (.ref p0)] rfl ?_
      exact c_X12_loss_16 p0 μ9 h
/-! X12_loud -/
theorem dX12_loud_0 : decode cX12_loud 0 = .ok (.iload_n 0, 1) := by decide +kernel
theorem dX12_loud_1 : decode cX12_loud 1 = .ok (.iconst 3, 1) := by decide +kernel
theorem dX12_loud_2 : decode cX12_loud 2 = .ok (.if_icmp .ne 7, 3) := by decide +kernel
theorem dX12_loud_5 : decode cX12_loud 5 = .ok (.iconst 1, 1) := by decide +kernel
theorem dX12_loud_6 : decode cX12_loud 6 = .ok (.goto 9, 3) := by decide +kernel
theorem dX12_loud_9 : decode cX12_loud 9 = .ok (.bipush 9, 2) := by decide +kernel
theorem dX12_loud_11 : decode cX12_loud 11 = .ok (.iconst 3, 1) := by decide +kernel
theorem dX12_loud_12 : decode cX12_loud 12 = .ok (.iload_n 0, 1) := by decide +kernel
theorem dX12_loud_13 : decode cX12_loud 13 = .ok (.imul, 1) := by decide +kernel
theorem dX12_loud_14 : decode cX12_loud 14 = .ok (.isub, 1) := by decide +kernel
theorem dX12_loud_15 : decode cX12_loud 15 = .ok (.ireturn, 1) := by decide +kernel
set_option maxRecDepth 100000 in
def f_X12_loud_15 (s0 : Int32) (μ : dtM) : Option (Int32 × dtM) :=
  some (s0, μ)
set_option maxRecDepth 100000 in
def f_X12_loud (p0 : Int32) (μ : dtM) : Option (Int32 × dtM) :=
  if p0 = (3 : Int32) then (f_X12_loud_15 (1 : Int32) μ) else (f_X12_loud_15 ((9 : Int32) - ((3 : Int32) * p0)) μ)
set_option maxRecDepth 100000 in
theorem c_X12_loud_15 {r : Int32} {F : dtM} (s0 : Int32) (μ : dtM) (h : f_X12_loud_15 s0 μ = some (r, F)) : dtW yX12_loud cX12_loud 1 (some .int) 1 (some (.int r)) F 15 [] [.int s0] μ := by
  rw [f_X12_loud_15] at h
  cases h
  exact dr_ireturn dX12_loud_15 rfl
set_option maxRecDepth 100000 in
theorem c_X12_loud {r : Int32} {F : dtM} (p0 : Int32) (μ : dtM) (h : f_X12_loud p0 μ = some (r, F)) : dtMet yX12_loud cX12_loud 1 (some .int) 1 [.int p0] μ (some (.int r)) F := by
  refine dtMet.of (by decide +kernel) (Nat.le_of_ble_eq_true rfl) (show dtW yX12_loud cX12_loud 1 (some .int) 1 (some (.int r)) F 0 [some (.int p0)] [] μ from ?_)
  rw [f_X12_loud] at h
  refine dr_iload_n p0 dX12_loud_0 rfl ?_
  refine dr_iconst (3 : Int32) dX12_loud_1 (by decide) ?_
  obtain ⟨ht2, hf3⟩ := dtIte h
  refine dr_icmp_ne 9 dX12_loud_2 (by decide) (fun hc1 => ?_) (fun hc1 => ?_)
  · have h := hf3 hc1
    refine dr_bipush (9 : Int32) dX12_loud_9 (by decide) ?_
    refine dr_iconst (3 : Int32) dX12_loud_11 (by decide) ?_
    refine dr_iload_n p0 dX12_loud_12 rfl ?_
    refine dr_imul dX12_loud_13 ?_
    refine dr_isub dX12_loud_14 ?_
    refine dr_mask [] [] rfl ?_
    exact c_X12_loud_15 ((9 : Int32) - ((3 : Int32) * p0)) μ h
  · have h := ht2 hc1
    refine dr_iconst (1 : Int32) dX12_loud_5 (by decide) ?_
    refine dr_goto 15 dX12_loud_6 (by decide) ?_
    refine dr_mask [] [] rfl ?_
    exact c_X12_loud_15 (1 : Int32) μ h
/-! X12_isHeard -/
theorem dX12_isHeard_0 : decode cX12_isHeard 0 = .ok (.aload_n 0, 1) := by decide +kernel
theorem dX12_isHeard_1 : decode cX12_isHeard 1 = .ok (.iload_n 1, 1) := by decide +kernel
theorem dX12_isHeard_2 : decode cX12_isHeard 2 = .ok (.iconst 0, 1) := by decide +kernel
theorem dX12_isHeard_3 : decode cX12_isHeard 3 = .ok (.invokevirtual 295, 3) := by decide +kernel
theorem dX12_isHeard_6 : decode cX12_isHeard 6 = .ok (.istore 4, 2) := by decide +kernel
theorem dX12_isHeard_8 : decode cX12_isHeard 8 = .ok (.aload_n 0, 1) := by decide +kernel
theorem dX12_isHeard_9 : decode cX12_isHeard 9 = .ok (.getfield 47, 3) := by decide +kernel
theorem dX12_isHeard_12 : decode cX12_isHeard 12 = .ok (.bipush 7, 2) := by decide +kernel
theorem dX12_isHeard_14 : decode cX12_isHeard 14 = .ok (.aload_n 0, 1) := by decide +kernel
theorem dX12_isHeard_15 : decode cX12_isHeard 15 = .ok (.iload_n 2, 1) := by decide +kernel
theorem dX12_isHeard_16 : decode cX12_isHeard 16 = .ok (.iconst 0, 1) := by decide +kernel
theorem dX12_isHeard_17 : decode cX12_isHeard 17 = .ok (.invokevirtual 298, 3) := by decide +kernel
theorem dX12_isHeard_20 : decode cX12_isHeard 20 = .ok (.imul, 1) := by decide +kernel
theorem dX12_isHeard_21 : decode cX12_isHeard 21 = .ok (.iload 4, 2) := by decide +kernel
theorem dX12_isHeard_23 : decode cX12_isHeard 23 = .ok (.iadd, 1) := by decide +kernel
theorem dX12_isHeard_24 : decode cX12_isHeard 24 = .ok (.iaload, 1) := by decide +kernel
theorem dX12_isHeard_25 : decode cX12_isHeard 25 = .ok (.aload_n 0, 1) := by decide +kernel
theorem dX12_isHeard_26 : decode cX12_isHeard 26 = .ok (.getfield 47, 3) := by decide +kernel
theorem dX12_isHeard_29 : decode cX12_isHeard 29 = .ok (.bipush 7, 2) := by decide +kernel
theorem dX12_isHeard_31 : decode cX12_isHeard 31 = .ok (.aload_n 0, 1) := by decide +kernel
theorem dX12_isHeard_32 : decode cX12_isHeard 32 = .ok (.iload_n 2, 1) := by decide +kernel
theorem dX12_isHeard_33 : decode cX12_isHeard 33 = .ok (.iconst 1, 1) := by decide +kernel
theorem dX12_isHeard_34 : decode cX12_isHeard 34 = .ok (.invokevirtual 298, 3) := by decide +kernel
theorem dX12_isHeard_37 : decode cX12_isHeard 37 = .ok (.imul, 1) := by decide +kernel
theorem dX12_isHeard_38 : decode cX12_isHeard 38 = .ok (.iload 4, 2) := by decide +kernel
theorem dX12_isHeard_40 : decode cX12_isHeard 40 = .ok (.iadd, 1) := by decide +kernel
theorem dX12_isHeard_41 : decode cX12_isHeard 41 = .ok (.iaload, 1) := by decide +kernel
theorem dX12_isHeard_42 : decode cX12_isHeard 42 = .ok (.invokestatic 148, 3) := by decide +kernel
theorem dX12_isHeard_45 : decode cX12_isHeard 45 = .ok (.istore 5, 2) := by decide +kernel
theorem dX12_isHeard_47 : decode cX12_isHeard 47 = .ok (.iload 5, 2) := by decide +kernel
theorem dX12_isHeard_49 : decode cX12_isHeard 49 = .ok (.ldc_w 310, 3) := by decide +kernel
theorem dX12_isHeard_52 : decode cX12_isHeard 52 = .ok (.if_icmp .ge 23, 3) := by decide +kernel
theorem dX12_isHeard_55 : decode cX12_isHeard 55 = .ok (.iload_n 3, 1) := by decide +kernel
theorem dX12_isHeard_56 : decode cX12_isHeard 56 = .ok (.invokestatic 321, 3) := by decide +kernel
theorem dX12_isHeard_59 : decode cX12_isHeard 59 = .ok (.iload 5, 2) := by decide +kernel
theorem dX12_isHeard_61 : decode cX12_isHeard 61 = .ok (.isub, 1) := by decide +kernel
theorem dX12_isHeard_62 : decode cX12_isHeard 62 = .ok (.aload_n 0, 1) := by decide +kernel
theorem dX12_isHeard_63 : decode cX12_isHeard 63 = .ok (.iload_n 1, 1) := by decide +kernel
theorem dX12_isHeard_64 : decode cX12_isHeard 64 = .ok (.iconst 1, 1) := by decide +kernel
theorem dX12_isHeard_65 : decode cX12_isHeard 65 = .ok (.invokevirtual 295, 3) := by decide +kernel
theorem dX12_isHeard_68 : decode cX12_isHeard 68 = .ok (.if_icmp .le 7, 3) := by decide +kernel
theorem dX12_isHeard_71 : decode cX12_isHeard 71 = .ok (.iconst 1, 1) := by decide +kernel
theorem dX12_isHeard_72 : decode cX12_isHeard 72 = .ok (.goto 4, 3) := by decide +kernel
theorem dX12_isHeard_75 : decode cX12_isHeard 75 = .ok (.iconst 0, 1) := by decide +kernel
theorem dX12_isHeard_76 : decode cX12_isHeard 76 = .ok (.ireturn, 1) := by decide +kernel
set_option maxRecDepth 100000 in
def f_X12_isHeard_76 (s0 : Int32) (μ : dtM) : Option (Int32 × dtM) :=
  opRet s0 μ
set_option maxRecDepth 100000 in
def f_X12_isHeard_75  (μ : dtM) : Option (Int32 × dtM) :=
  f_X12_isHeard_76 (0 : Int32) μ
set_option maxRecDepth 100000 in
def f_X12_isHeard (p0 : Nat) (p1 : Int32) (p2 : Int32) (p3 : Int32) (μ : dtM) : Option (Int32 × dtM) :=
  (opRv 12 μ p0).bind fun _ => opCall (f_X12_personOf p0 p1 (0 : Int32) μ) fun x4 μ2 => (opGR 12 24 μ2 p0).bind fun x5 => (opRv 12 μ2 p0).bind fun _ => opCall (f_X12_doorOf p0 p2 (0 : Int32) μ2) fun x10 μ8 => (opLI 1 μ8 x5 (((7 : Int32) * x10) + x4)).bind fun x11 => (opGR 12 24 μ8 p0).bind fun x13 => (opRv 12 μ8 p0).bind fun _ => opCall (f_X12_doorOf p0 p2 (1 : Int32) μ8) fun x18 μ16 => (opLI 1 μ16 x13 (((7 : Int32) * x18) + x4)).bind fun x19 => (some (if x19 < x11 then x19 else x11)).bind fun x21 => if (1000000 : Int32) ≤ x21 then (f_X12_isHeard_75 μ16) else (opCall (f_X12_loud p3 μ16) fun x28 μ26 => (opRv 12 μ26 p0).bind fun _ => opCall (f_X12_personOf p0 p1 (1 : Int32) μ26) fun x32 μ30 => if (x28 - x21) ≤ x32 then (f_X12_isHeard_75 μ30) else (f_X12_isHeard_76 (1 : Int32) μ30))
set_option maxRecDepth 100000 in
theorem c_X12_isHeard_76 {r : Int32} {F : dtM} (s0 : Int32) (μ : dtM) (h : f_X12_isHeard_76 s0 μ = some (r, F)) : dtW yX12_isHeard cX12_isHeard 6 (some .boolean) 3 (some (.int r)) F 76 [] [.int s0] μ := by
  rw [f_X12_isHeard_76] at h
  obtain ⟨hz, rfl, rfl⟩ := dtRet h
  exact dr_ireturn dX12_isHeard_76 (dtNz hz)
set_option maxRecDepth 100000 in
theorem c_X12_isHeard_75 {r : Int32} {F : dtM}  (μ : dtM) (h : f_X12_isHeard_75  μ = some (r, F)) : dtW yX12_isHeard cX12_isHeard 6 (some .boolean) 3 (some (.int r)) F 75 [] [] μ := by
  rw [f_X12_isHeard_75] at h
  refine dr_iconst (0 : Int32) dX12_isHeard_75 (by decide) ?_
  exact c_X12_isHeard_76 (0 : Int32) μ h
set_option maxRecDepth 100000 in
theorem c_X12_isHeard {r : Int32} {F : dtM} (p0 : Nat) (p1 : Int32) (p2 : Int32) (p3 : Int32) (μ : dtM) (h : f_X12_isHeard p0 p1 p2 p3 μ = some (r, F)) : dtMet yX12_isHeard cX12_isHeard 6 (some .boolean) 3 [.ref p0, .int p1, .int p2, .int p3] μ (some (.int r)) F := by
  refine dtMet.of (by decide +kernel) (Nat.le_of_ble_eq_true rfl) (show dtW yX12_isHeard cX12_isHeard 6 (some .boolean) 3 (some (.int r)) F 0 [some (.ref p0), some (.int p1), some (.int p2), some (.int p3)] [] μ from ?_)
  rw [f_X12_isHeard] at h
  refine dr_aload_n p0 dX12_isHeard_0 rfl ?_
  refine dr_iload_n p1 dX12_isHeard_1 rfl ?_
  refine dr_iconst (0 : Int32) dX12_isHeard_2 (by decide) ?_
  obtain ⟨_, hb1, h⟩ := dtBind h
  obtain ⟨x4, μ2, e3, h⟩ := dtCall h
  refine dr_callV_i (S0 := []) [.int p1, .int (0 : Int32)] x4 μ2 dX12_isHeard_3 (c_X12_personOf p0 p1 (0 : Int32) μ e3) mf_X12_personOf wt_1736 ws_96 wt_1734 rfl (dtRv hb1) (by decide) rfl (Nat.le_of_ble_eq_true rfl) (Nat.le_of_ble_eq_true rfl) rfl ?_
  refine dr_istore [some (.ref p0), some (.int p1), some (.int p2), some (.int p3), some (.int x4)] dX12_isHeard_6 rfl rfl rfl ?_
  refine dr_aload_n p0 dX12_isHeard_8 rfl ?_
  obtain ⟨x5, e6, h⟩ := dtBind h
  refine dr_getR x5 dX12_isHeard_9 fl_RX12_47 e6 ?_
  refine dr_bipush (7 : Int32) dX12_isHeard_12 (by decide) ?_
  refine dr_aload_n p0 dX12_isHeard_14 rfl ?_
  refine dr_iload_n p2 dX12_isHeard_15 rfl ?_
  refine dr_iconst (0 : Int32) dX12_isHeard_16 (by decide) ?_
  obtain ⟨_, hb7, h⟩ := dtBind h
  obtain ⟨x10, μ8, e9, h⟩ := dtCall h
  refine dr_callV_i (S0 := [.int (7 : Int32), .ref x5]) [.int p2, .int (0 : Int32)] x10 μ8 dX12_isHeard_17 (c_X12_doorOf p0 p2 (0 : Int32) μ2 e9) mf_X12_doorOf wt_1712 ws_93 wt_1710 rfl (dtRv hb7) (by decide) rfl (Nat.le_of_ble_eq_true rfl) (Nat.le_of_ble_eq_true rfl) rfl ?_
  refine dr_imul dX12_isHeard_20 ?_
  refine dr_iload x4 dX12_isHeard_21 rfl ?_
  refine dr_iadd dX12_isHeard_23 ?_
  obtain ⟨x11, e12, h⟩ := dtBind h
  refine dr_iaload x11 dX12_isHeard_24 e12 ?_
  refine dr_aload_n p0 dX12_isHeard_25 rfl ?_
  obtain ⟨x13, e14, h⟩ := dtBind h
  refine dr_getR x13 dX12_isHeard_26 fl_RX12_47 e14 ?_
  refine dr_bipush (7 : Int32) dX12_isHeard_29 (by decide) ?_
  refine dr_aload_n p0 dX12_isHeard_31 rfl ?_
  refine dr_iload_n p2 dX12_isHeard_32 rfl ?_
  refine dr_iconst (1 : Int32) dX12_isHeard_33 (by decide) ?_
  obtain ⟨_, hb15, h⟩ := dtBind h
  obtain ⟨x18, μ16, e17, h⟩ := dtCall h
  refine dr_callV_i (S0 := [.int (7 : Int32), .ref x13, .int x11]) [.int p2, .int (1 : Int32)] x18 μ16 dX12_isHeard_34 (c_X12_doorOf p0 p2 (1 : Int32) μ8 e17) mf_X12_doorOf wt_1712 ws_93 wt_1710 rfl (dtRv hb15) (by decide) rfl (Nat.le_of_ble_eq_true rfl) (Nat.le_of_ble_eq_true rfl) rfl ?_
  refine dr_imul dX12_isHeard_37 ?_
  refine dr_iload x4 dX12_isHeard_38 rfl ?_
  refine dr_iadd dX12_isHeard_40 ?_
  obtain ⟨x19, e20, h⟩ := dtBind h
  refine dr_iaload x19 dX12_isHeard_41 e20 ?_
  refine dr_min dX12_isHeard_42 wt_1549 wt_548 wt_15 wt_549 (Nat.le_of_ble_eq_true rfl) rfl ?_
  obtain ⟨x21, e22, h⟩ := dtBind h
  refine dr_nmi e22 ?_
  refine dr_istore [some (.ref p0), some (.int p1), some (.int p2), some (.int p3), some (.int x4), some (.int x21)] dX12_isHeard_45 rfl rfl rfl ?_
  refine dr_iload x21 dX12_isHeard_47 rfl ?_
  refine dr_ldcw (1000000 : Int32) dX12_isHeard_49 wt_1754 ?_
  obtain ⟨ht24, hf25⟩ := dtIte h
  refine dr_icmp_ge 75 dX12_isHeard_52 (by decide) (fun hc23 => ?_) (fun hc23 => ?_)
  · have h := ht24 hc23
    refine dr_mask [] [] rfl ?_
    exact c_X12_isHeard_75 μ16 h
  · have h := hf25 hc23
    refine dr_iload_n p3 dX12_isHeard_55 rfl ?_
    obtain ⟨x28, μ26, e27, h⟩ := dtCall h
    refine dr_callS_i (S0 := []) [.int p3] x28 μ26 dX12_isHeard_56 (c_X12_loud p3 μ16 e27) mf_X12_loud wt_1775 wt_1774 rfl (Nat.le_of_ble_eq_true rfl) (Nat.le_of_ble_eq_true rfl) rfl ?_
    refine dr_iload x21 dX12_isHeard_59 rfl ?_
    refine dr_isub dX12_isHeard_61 ?_
    refine dr_aload_n p0 dX12_isHeard_62 rfl ?_
    refine dr_iload_n p1 dX12_isHeard_63 rfl ?_
    refine dr_iconst (1 : Int32) dX12_isHeard_64 (by decide) ?_
    obtain ⟨_, hb29, h⟩ := dtBind h
    obtain ⟨x32, μ30, e31, h⟩ := dtCall h
    refine dr_callV_i (S0 := [.int (x28 - x21)]) [.int p1, .int (1 : Int32)] x32 μ30 dX12_isHeard_65 (c_X12_personOf p0 p1 (1 : Int32) μ26 e31) mf_X12_personOf wt_1736 ws_96 wt_1734 rfl (dtRv hb29) (by decide) rfl (Nat.le_of_ble_eq_true rfl) (Nat.le_of_ble_eq_true rfl) rfl ?_
    obtain ⟨ht34, hf35⟩ := dtIte h
    refine dr_icmp_le 75 dX12_isHeard_68 (by decide) (fun hc33 => ?_) (fun hc33 => ?_)
    · have h := ht34 hc33
      refine dr_mask [] [] rfl ?_
      exact c_X12_isHeard_75 μ30 h
    · have h := hf35 hc33
      refine dr_iconst (1 : Int32) dX12_isHeard_71 (by decide) ?_
      refine dr_goto 76 dX12_isHeard_72 (by decide) ?_
      refine dr_mask [] [] rfl ?_
      exact c_X12_isHeard_76 (1 : Int32) μ30 h
/-! X12_hearing -/
theorem dX12_hearing_0 : decode cX12_hearing 0 = .ok (.aload_n 0, 1) := by decide +kernel
theorem dX12_hearing_1 : decode cX12_hearing 1 = .ok (.iload_n 1, 1) := by decide +kernel
theorem dX12_hearing_2 : decode cX12_hearing 2 = .ok (.iconst 0, 1) := by decide +kernel
theorem dX12_hearing_3 : decode cX12_hearing 3 = .ok (.invokevirtual 317, 3) := by decide +kernel
theorem dX12_hearing_6 : decode cX12_hearing 6 = .ok (.iconst 0, 1) := by decide +kernel
theorem dX12_hearing_7 : decode cX12_hearing 7 = .ok (.istore 4, 2) := by decide +kernel
theorem dX12_hearing_9 : decode cX12_hearing 9 = .ok (.iconst 0, 1) := by decide +kernel
theorem dX12_hearing_10 : decode cX12_hearing 10 = .ok (.istore 5, 2) := by decide +kernel
theorem dX12_hearing_12 : decode cX12_hearing 12 = .ok (.iload 5, 2) := by decide +kernel
theorem dX12_hearing_14 : decode cX12_hearing 14 = .ok (.aload_n 0, 1) := by decide +kernel
theorem dX12_hearing_15 : decode cX12_hearing 15 = .ok (.getfield 7, 3) := by decide +kernel
theorem dX12_hearing_18 : decode cX12_hearing 18 = .ok (.iconst 3, 1) := by decide +kernel
theorem dX12_hearing_19 : decode cX12_hearing 19 = .ok (.iaload, 1) := by decide +kernel
theorem dX12_hearing_20 : decode cX12_hearing 20 = .ok (.if_icmp .ge 39, 3) := by decide +kernel
theorem dX12_hearing_23 : decode cX12_hearing 23 = .ok (.iload 4, 2) := by decide +kernel
theorem dX12_hearing_25 : decode cX12_hearing 25 = .ok (.iload 5, 2) := by decide +kernel
theorem dX12_hearing_27 : decode cX12_hearing 27 = .ok (.iload_n 3, 1) := by decide +kernel
theorem dX12_hearing_28 : decode cX12_hearing 28 = .ok (.if_icmp .eq 21, 3) := by decide +kernel
theorem dX12_hearing_31 : decode cX12_hearing 31 = .ok (.aload_n 0, 1) := by decide +kernel
theorem dX12_hearing_32 : decode cX12_hearing 32 = .ok (.iload 5, 2) := by decide +kernel
theorem dX12_hearing_34 : decode cX12_hearing 34 = .ok (.iload_n 1, 1) := by decide +kernel
theorem dX12_hearing_35 : decode cX12_hearing 35 = .ok (.iload_n 2, 1) := by decide +kernel
theorem dX12_hearing_36 : decode cX12_hearing 36 = .ok (.invokevirtual 324, 3) := by decide +kernel
theorem dX12_hearing_39 : decode cX12_hearing 39 = .ok (.ifCond .eq 10, 3) := by decide +kernel
theorem dX12_hearing_42 : decode cX12_hearing 42 = .ok (.iconst 1, 1) := by decide +kernel
theorem dX12_hearing_43 : decode cX12_hearing 43 = .ok (.iload 5, 2) := by decide +kernel
theorem dX12_hearing_45 : decode cX12_hearing 45 = .ok (.ishl, 1) := by decide +kernel
theorem dX12_hearing_46 : decode cX12_hearing 46 = .ok (.goto 4, 3) := by decide +kernel
theorem dX12_hearing_49 : decode cX12_hearing 49 = .ok (.iconst 0, 1) := by decide +kernel
theorem dX12_hearing_50 : decode cX12_hearing 50 = .ok (.ior, 1) := by decide +kernel
theorem dX12_hearing_51 : decode cX12_hearing 51 = .ok (.istore 4, 2) := by decide +kernel
theorem dX12_hearing_53 : decode cX12_hearing 53 = .ok (.iinc 5 1, 3) := by decide +kernel
theorem dX12_hearing_56 : decode cX12_hearing 56 = .ok (.goto (-44), 3) := by decide +kernel
theorem dX12_hearing_59 : decode cX12_hearing 59 = .ok (.iload 4, 2) := by decide +kernel
theorem dX12_hearing_61 : decode cX12_hearing 61 = .ok (.ireturn, 1) := by decide +kernel
set_option maxRecDepth 100000 in
def f_X12_hearing_50 (k12 : Nat → Int32 → Int32 → Int32 → Int32 → Int32 → dtM → Option (Int32 × dtM)) (l0 : Nat) (l1 : Int32) (l2 : Int32) (l3 : Int32) (l5 : Int32) (s0 : Int32) (s1 : Int32) (μ : dtM) : Option (Int32 × dtM) :=
  (some (s0 ||| s1)).bind fun x1 => k12 l0 l1 l2 l3 x1 (l5 + 1) μ
set_option maxRecDepth 100000 in
def f_X12_hearing_49 (k12 : Nat → Int32 → Int32 → Int32 → Int32 → Int32 → dtM → Option (Int32 × dtM)) (l0 : Nat) (l1 : Int32) (l2 : Int32) (l3 : Int32) (l5 : Int32) (s0 : Int32) (μ : dtM) : Option (Int32 × dtM) :=
  f_X12_hearing_50 k12 l0 l1 l2 l3 l5 s0 (0 : Int32) μ
set_option maxRecDepth 100000 in
def f_X12_hearing_12 : Nat → Nat → Int32 → Int32 → Int32 → Int32 → Int32 → dtM → Option (Int32 × dtM)
  | 0, _, _, _, _, _, _, _ => none
  | n + 1, l0, l1, l2, l3, l4, l5, μ =>
    (opGR 12 0 μ l0).bind fun x1 => (opLI 1 μ x1 (3 : Int32)).bind fun x3 => if x3 ≤ l5 then (some (l4, μ)) else (if l5 = l3 then (f_X12_hearing_49 (f_X12_hearing_12 n) l0 l1 l2 l3 l5 l4 μ) else ((opRv 12 μ l0).bind fun _ => opCall (f_X12_isHeard l0 l5 l1 l2 μ) fun x14 μ12 => if x14 = 0 then (f_X12_hearing_49 (f_X12_hearing_12 n) l0 l1 l2 l3 l5 l4 μ12) else (f_X12_hearing_50 (f_X12_hearing_12 n) l0 l1 l2 l3 l5 l4 ((1 : Int32) <<< (l5 &&& 31)) μ12)))
set_option maxRecDepth 100000 in
def f_X12_hearing (p0 : Nat) (p1 : Int32) (p2 : Int32) (p3 : Int32) (μ : dtM) : Option (Int32 × dtM) :=
  (opRv 12 μ p0).bind fun _ => (f_X12_laysLoss p0 p1 (0 : Int32) μ).bind fun μ2 => f_X12_hearing_12 dtFuel p0 p1 p2 p3 (0 : Int32) (0 : Int32) μ2
set_option maxRecDepth 100000 in
theorem c_X12_hearing_50 {r : Int32} {F : dtM} (k12 : Nat → Int32 → Int32 → Int32 → Int32 → Int32 → dtM → Option (Int32 × dtM)) (hk12 : ∀ (l0 : Nat) (l1 : Int32) (l2 : Int32) (l3 : Int32) (l4 : Int32) (l5 : Int32) (μ : dtM), k12 l0 l1 l2 l3 l4 l5 μ = some (r, F) → dtW yX12_hearing cX12_hearing 6 (some .int) 4 (some (.int r)) F 12 [some (.ref l0), some (.int l1), some (.int l2), some (.int l3), some (.int l4), some (.int l5)] [] μ) (l0 : Nat) (l1 : Int32) (l2 : Int32) (l3 : Int32) (l5 : Int32) (s0 : Int32) (s1 : Int32) (μ : dtM) (h : f_X12_hearing_50 k12 l0 l1 l2 l3 l5 s0 s1 μ = some (r, F)) : dtW yX12_hearing cX12_hearing 6 (some .int) 4 (some (.int r)) F 50 [some (.ref l0), some (.int l1), some (.int l2), some (.int l3), none, some (.int l5)] [.int s1, .int s0] μ := by
  rw [f_X12_hearing_50] at h
  refine dr_ior dX12_hearing_50 ?_
  obtain ⟨x1, e2, h⟩ := dtBind h
  refine dr_nmi e2 ?_
  refine dr_istore [some (.ref l0), some (.int l1), some (.int l2), some (.int l3), some (.int x1), some (.int l5)] dX12_hearing_51 rfl rfl rfl ?_
  refine dr_iinc l5 (l5 + 1) [some (.ref l0), some (.int l1), some (.int l2), some (.int l3), some (.int x1), some (.int (l5 + 1))] dX12_hearing_53 rfl rfl rfl rfl rfl ?_
  refine dr_goto 12 dX12_hearing_56 (by decide) ?_
  exact hk12 l0 l1 l2 l3 x1 (l5 + 1) μ h
set_option maxRecDepth 100000 in
theorem c_X12_hearing_49 {r : Int32} {F : dtM} (k12 : Nat → Int32 → Int32 → Int32 → Int32 → Int32 → dtM → Option (Int32 × dtM)) (hk12 : ∀ (l0 : Nat) (l1 : Int32) (l2 : Int32) (l3 : Int32) (l4 : Int32) (l5 : Int32) (μ : dtM), k12 l0 l1 l2 l3 l4 l5 μ = some (r, F) → dtW yX12_hearing cX12_hearing 6 (some .int) 4 (some (.int r)) F 12 [some (.ref l0), some (.int l1), some (.int l2), some (.int l3), some (.int l4), some (.int l5)] [] μ) (l0 : Nat) (l1 : Int32) (l2 : Int32) (l3 : Int32) (l5 : Int32) (s0 : Int32) (μ : dtM) (h : f_X12_hearing_49 k12 l0 l1 l2 l3 l5 s0 μ = some (r, F)) : dtW yX12_hearing cX12_hearing 6 (some .int) 4 (some (.int r)) F 49 [some (.ref l0), some (.int l1), some (.int l2), some (.int l3), none, some (.int l5)] [.int s0] μ := by
  rw [f_X12_hearing_49] at h
  refine dr_iconst (0 : Int32) dX12_hearing_49 (by decide) ?_
  exact c_X12_hearing_50 k12 hk12 l0 l1 l2 l3 l5 s0 (0 : Int32) μ h
set_option maxRecDepth 100000 in
theorem c_X12_hearing_12 {r : Int32} {F : dtM} : ∀ (n : Nat) (l0 : Nat) (l1 : Int32) (l2 : Int32) (l3 : Int32) (l4 : Int32) (l5 : Int32) (μ : dtM), f_X12_hearing_12 n l0 l1 l2 l3 l4 l5 μ = some (r, F) → dtW yX12_hearing cX12_hearing 6 (some .int) 4 (some (.int r)) F 12 [some (.ref l0), some (.int l1), some (.int l2), some (.int l3), some (.int l4), some (.int l5)] [] μ := by
  intro n
  induction n with
  | zero => intro l0 l1 l2 l3 l4 l5 μ h; cases h
  | succ n ih =>
    intro l0 l1 l2 l3 l4 l5 μ h
    have h := (show f_X12_hearing_12 (n + 1) l0 l1 l2 l3 l4 l5 μ = some _ from h)
    rw [f_X12_hearing_12] at h
    refine dr_iload l5 dX12_hearing_12 rfl ?_
    refine dr_aload_n l0 dX12_hearing_14 rfl ?_
    obtain ⟨x1, e2, h⟩ := dtBind h
    refine dr_getR x1 dX12_hearing_15 fl_RX12_7 e2 ?_
    refine dr_iconst (3 : Int32) dX12_hearing_18 (by decide) ?_
    obtain ⟨x3, e4, h⟩ := dtBind h
    refine dr_iaload x3 dX12_hearing_19 e4 ?_
    obtain ⟨ht6, hf7⟩ := dtIte h
    refine dr_icmp_ge 59 dX12_hearing_20 (by decide) (fun hc5 => ?_) (fun hc5 => ?_)
    · have h := ht6 hc5
      refine dr_iload l4 dX12_hearing_59 rfl ?_
      cases h
      exact dr_ireturn dX12_hearing_61 rfl
    · have h := hf7 hc5
      refine dr_iload l4 dX12_hearing_23 rfl ?_
      refine dr_iload l5 dX12_hearing_25 rfl ?_
      refine dr_iload_n l3 dX12_hearing_27 rfl ?_
      obtain ⟨ht9, hf10⟩ := dtIte h
      refine dr_icmp_eq 49 dX12_hearing_28 (by decide) (fun hc8 => ?_) (fun hc8 => ?_)
      · have h := ht9 hc8
        refine dr_mask [true, true, true, true, false, true] [some (.ref l0), some (.int l1), some (.int l2), some (.int l3), none, some (.int l5)] rfl ?_
        exact c_X12_hearing_49 (f_X12_hearing_12 n) ih l0 l1 l2 l3 l5 l4 μ h
      · have h := hf10 hc8
        refine dr_aload_n l0 dX12_hearing_31 rfl ?_
        refine dr_iload l5 dX12_hearing_32 rfl ?_
        refine dr_iload_n l1 dX12_hearing_34 rfl ?_
        refine dr_iload_n l2 dX12_hearing_35 rfl ?_
        obtain ⟨_, hb11, h⟩ := dtBind h
        obtain ⟨x14, μ12, e13, h⟩ := dtCall h
        refine dr_callV_i (S0 := [.int l4]) [.int l5, .int l1, .int l2] x14 μ12 dX12_hearing_36 (c_X12_isHeard l0 l5 l1 l2 μ e13) mf_X12_isHeard wt_1772 ws_101 wt_1770 rfl (dtRv hb11) (by decide) rfl (Nat.le_of_ble_eq_true rfl) (Nat.le_of_ble_eq_true rfl) rfl ?_
        obtain ⟨ht16, hf17⟩ := dtIte h
        refine dr_if_eq 49 dX12_hearing_39 (by decide) (fun hc15 => ?_) (fun hc15 => ?_)
        · have h := ht16 hc15
          refine dr_mask [true, true, true, true, false, true] [some (.ref l0), some (.int l1), some (.int l2), some (.int l3), none, some (.int l5)] rfl ?_
          exact c_X12_hearing_49 (f_X12_hearing_12 n) ih l0 l1 l2 l3 l5 l4 μ12 h
        · have h := hf17 hc15
          refine dr_iconst (1 : Int32) dX12_hearing_42 (by decide) ?_
          refine dr_iload l5 dX12_hearing_43 rfl ?_
          refine dr_ishl dX12_hearing_45 ?_
          refine dr_goto 50 dX12_hearing_46 (by decide) ?_
          refine dr_mask [true, true, true, true, false, true] [some (.ref l0), some (.int l1), some (.int l2), some (.int l3), none, some (.int l5)] rfl ?_
          exact c_X12_hearing_50 (f_X12_hearing_12 n) ih l0 l1 l2 l3 l5 l4 ((1 : Int32) <<< (l5 &&& 31)) μ12 h
set_option maxRecDepth 100000 in
theorem c_X12_hearing {r : Int32} {F : dtM} (p0 : Nat) (p1 : Int32) (p2 : Int32) (p3 : Int32) (μ : dtM) (h : f_X12_hearing p0 p1 p2 p3 μ = some (r, F)) : dtMet yX12_hearing cX12_hearing 6 (some .int) 4 [.ref p0, .int p1, .int p2, .int p3] μ (some (.int r)) F := by
  refine dtMet.of (by decide +kernel) (Nat.le_of_ble_eq_true rfl) (show dtW yX12_hearing cX12_hearing 6 (some .int) 4 (some (.int r)) F 0 [some (.ref p0), some (.int p1), some (.int p2), some (.int p3)] [] μ from ?_)
  rw [f_X12_hearing] at h
  refine dr_aload_n p0 dX12_hearing_0 rfl ?_
  refine dr_iload_n p1 dX12_hearing_1 rfl ?_
  refine dr_iconst (0 : Int32) dX12_hearing_2 (by decide) ?_
  obtain ⟨_, hb1, h⟩ := dtBind h
  obtain ⟨μ2, e3, h⟩ := dtBind h
  refine dr_callV_v (S0 := []) [.int p1, .int (0 : Int32)] μ2 dX12_hearing_3 (c_X12_laysLoss p0 p1 (0 : Int32) μ e3) mf_X12_laysLoss wt_1752 ws_98 wt_1750 rfl (dtRv hb1) (by decide) rfl (Nat.le_of_ble_eq_true rfl) (Nat.le_of_ble_eq_true rfl) rfl ?_
  refine dr_iconst (0 : Int32) dX12_hearing_6 (by decide) ?_
  refine dr_istore [some (.ref p0), some (.int p1), some (.int p2), some (.int p3), some (.int (0 : Int32))] dX12_hearing_7 rfl rfl rfl ?_
  refine dr_iconst (0 : Int32) dX12_hearing_9 (by decide) ?_
  refine dr_istore [some (.ref p0), some (.int p1), some (.int p2), some (.int p3), some (.int (0 : Int32)), some (.int (0 : Int32))] dX12_hearing_10 rfl rfl rfl ?_
  exact c_X12_hearing_12 dtFuel p0 p1 p2 p3 (0 : Int32) (0 : Int32) μ2 h
/-! X12_hearers -/
theorem dX12_hearers_0 : decode cX12_hearers 0 = .ok (.aload_n 0, 1) := by decide +kernel
theorem dX12_hearers_1 : decode cX12_hearers 1 = .ok (.iload_n 1, 1) := by decide +kernel
theorem dX12_hearers_2 : decode cX12_hearers 2 = .ok (.invokevirtual 301, 3) := by decide +kernel
theorem dX12_hearers_5 : decode cX12_hearers 5 = .ok (.ifCond .eq 24, 3) := by decide +kernel
theorem dX12_hearers_8 : decode cX12_hearers 8 = .ok (.iload_n 2, 1) := by decide +kernel
theorem dX12_hearers_9 : decode cX12_hearers 9 = .ok (.invokestatic 327, 3) := by decide +kernel
theorem dX12_hearers_12 : decode cX12_hearers 12 = .ok (.ifCond .eq 17, 3) := by decide +kernel
theorem dX12_hearers_15 : decode cX12_hearers 15 = .ok (.aload_n 0, 1) := by decide +kernel
theorem dX12_hearers_16 : decode cX12_hearers 16 = .ok (.aload_n 0, 1) := by decide +kernel
theorem dX12_hearers_17 : decode cX12_hearers 17 = .ok (.iload_n 1, 1) := by decide +kernel
theorem dX12_hearers_18 : decode cX12_hearers 18 = .ok (.iload_n 2, 1) := by decide +kernel
theorem dX12_hearers_19 : decode cX12_hearers 19 = .ok (.iconst (-1), 1) := by decide +kernel
theorem dX12_hearers_20 : decode cX12_hearers 20 = .ok (.invokevirtual 330, 3) := by decide +kernel
theorem dX12_hearers_23 : decode cX12_hearers 23 = .ok (.invokevirtual 97, 3) := by decide +kernel
theorem dX12_hearers_26 : decode cX12_hearers 26 = .ok (.goto 8, 3) := by decide +kernel
theorem dX12_hearers_29 : decode cX12_hearers 29 = .ok (.aload_n 0, 1) := by decide +kernel
theorem dX12_hearers_30 : decode cX12_hearers 30 = .ok (.iconst 1, 1) := by decide +kernel
theorem dX12_hearers_31 : decode cX12_hearers 31 = .ok (.invokevirtual 93, 3) := by decide +kernel
theorem dX12_hearers_34 : decode cX12_hearers 34 = .ok (.ireturn, 1) := by decide +kernel
set_option maxRecDepth 100000 in
def f_X12_hearers_34 (s0 : Int32) (μ : dtM) : Option (Int32 × dtM) :=
  some (s0, μ)
set_option maxRecDepth 100000 in
def f_X12_hearers_29 (l0 : Nat) (μ : dtM) : Option (Int32 × dtM) :=
  (opRv 12 μ l0).bind fun _ => opCall (f_X12_refuse l0 (1 : Int32) μ) fun x4 μ2 => f_X12_hearers_34 x4 μ2
set_option maxRecDepth 100000 in
def f_X12_hearers (p0 : Nat) (p1 : Int32) (p2 : Int32) (μ : dtM) : Option (Int32 × dtM) :=
  (opRv 12 μ p0).bind fun _ => opCall (f_X12_isDoor p0 p1 μ) fun x4 μ2 => if x4 = 0 then (f_X12_hearers_29 p0 μ2) else (opCall (f_X12_isNoise p2 μ2) fun x10 μ8 => if x10 = 0 then (f_X12_hearers_29 p0 μ8) else ((opRv 12 μ8 p0).bind fun _ => opCall (f_X12_hearing p0 p1 p2 (-1 : Int32) μ8) fun x17 μ15 => (opRv 12 μ15 p0).bind fun _ => opCall (f_X12_gives p0 x17 μ15) fun x21 μ19 => f_X12_hearers_34 x21 μ19))
set_option maxRecDepth 100000 in
theorem c_X12_hearers_34 {r : Int32} {F : dtM} (s0 : Int32) (μ : dtM) (h : f_X12_hearers_34 s0 μ = some (r, F)) : dtW yX12_hearers cX12_hearers 3 (some .int) 5 (some (.int r)) F 34 [] [.int s0] μ := by
  rw [f_X12_hearers_34] at h
  cases h
  exact dr_ireturn dX12_hearers_34 rfl
set_option maxRecDepth 100000 in
theorem c_X12_hearers_29 {r : Int32} {F : dtM} (l0 : Nat) (μ : dtM) (h : f_X12_hearers_29 l0 μ = some (r, F)) : dtW yX12_hearers cX12_hearers 3 (some .int) 5 (some (.int r)) F 29 [some (.ref l0)] [] μ := by
  rw [f_X12_hearers_29] at h
  refine dr_aload_n l0 dX12_hearers_29 rfl ?_
  refine dr_iconst (1 : Int32) dX12_hearers_30 (by decide) ?_
  obtain ⟨_, hb1, h⟩ := dtBind h
  obtain ⟨x4, μ2, e3, h⟩ := dtCall h
  refine dr_callV_i (S0 := []) [.int (1 : Int32)] x4 μ2 dX12_hearers_31 (c_X12_refuse l0 (1 : Int32) μ e3) mf_X12_refuse wt_1552 ws_59 wt_1550 rfl (dtRv hb1) (by decide) rfl (Nat.le_of_ble_eq_true rfl) (Nat.le_of_ble_eq_true rfl) rfl ?_
  refine dr_mask [] [] rfl ?_
  exact c_X12_hearers_34 x4 μ2 h
set_option maxRecDepth 100000 in
theorem c_X12_hearers {r : Int32} {F : dtM} (p0 : Nat) (p1 : Int32) (p2 : Int32) (μ : dtM) (h : f_X12_hearers p0 p1 p2 μ = some (r, F)) : dtMet yX12_hearers cX12_hearers 3 (some .int) 5 [.ref p0, .int p1, .int p2] μ (some (.int r)) F := by
  refine dtMet.of (by decide +kernel) (Nat.le_of_ble_eq_true rfl) (show dtW yX12_hearers cX12_hearers 3 (some .int) 5 (some (.int r)) F 0 [some (.ref p0), some (.int p1), some (.int p2)] [] μ from ?_)
  rw [f_X12_hearers] at h
  refine dr_aload_n p0 dX12_hearers_0 rfl ?_
  refine dr_iload_n p1 dX12_hearers_1 rfl ?_
  obtain ⟨_, hb1, h⟩ := dtBind h
  obtain ⟨x4, μ2, e3, h⟩ := dtCall h
  refine dr_callV_i (S0 := []) [.int p1] x4 μ2 dX12_hearers_2 (c_X12_isDoor p0 p1 μ e3) mf_X12_isDoor wt_1708 ws_92 wt_1706 rfl (dtRv hb1) (by decide) rfl (Nat.le_of_ble_eq_true rfl) (Nat.le_of_ble_eq_true rfl) rfl ?_
  obtain ⟨ht6, hf7⟩ := dtIte h
  refine dr_if_eq 29 dX12_hearers_5 (by decide) (fun hc5 => ?_) (fun hc5 => ?_)
  · have h := ht6 hc5
    refine dr_mask [true] [some (.ref p0)] rfl ?_
    exact c_X12_hearers_29 p0 μ2 h
  · have h := hf7 hc5
    refine dr_iload_n p2 dX12_hearers_8 rfl ?_
    obtain ⟨x10, μ8, e9, h⟩ := dtCall h
    refine dr_callS_i (S0 := []) [.int p2] x10 μ8 dX12_hearers_9 (c_X12_isNoise p2 μ2 e9) mf_X12_isNoise wt_1764 wt_1763 rfl (Nat.le_of_ble_eq_true rfl) (Nat.le_of_ble_eq_true rfl) rfl ?_
    obtain ⟨ht12, hf13⟩ := dtIte h
    refine dr_if_eq 29 dX12_hearers_12 (by decide) (fun hc11 => ?_) (fun hc11 => ?_)
    · have h := ht12 hc11
      refine dr_mask [true] [some (.ref p0)] rfl ?_
      exact c_X12_hearers_29 p0 μ8 h
    · have h := hf13 hc11
      refine dr_aload_n p0 dX12_hearers_15 rfl ?_
      refine dr_aload_n p0 dX12_hearers_16 rfl ?_
      refine dr_iload_n p1 dX12_hearers_17 rfl ?_
      refine dr_iload_n p2 dX12_hearers_18 rfl ?_
      refine dr_iconst (-1 : Int32) dX12_hearers_19 (by decide) ?_
      obtain ⟨_, hb14, h⟩ := dtBind h
      obtain ⟨x17, μ15, e16, h⟩ := dtCall h
      refine dr_callV_i (S0 := [.ref p0]) [.int p1, .int p2, .int (-1 : Int32)] x17 μ15 dX12_hearers_20 (c_X12_hearing p0 p1 p2 (-1 : Int32) μ8 e16) mf_X12_hearing wt_1768 ws_100 wt_1766 rfl (dtRv hb14) (by decide) rfl (Nat.le_of_ble_eq_true rfl) (Nat.le_of_ble_eq_true rfl) rfl ?_
      obtain ⟨_, hb18, h⟩ := dtBind h
      obtain ⟨x21, μ19, e20, h⟩ := dtCall h
      refine dr_callV_i (S0 := []) [.int x17] x21 μ19 dX12_hearers_23 (c_X12_gives p0 x17 μ15 e20) mf_X12_gives wt_1668 ws_85 wt_1666 rfl (dtRv hb18) (by decide) rfl (Nat.le_of_ble_eq_true rfl) (Nat.le_of_ble_eq_true rfl) rfl ?_
      refine dr_goto 34 dX12_hearers_26 (by decide) ?_
      refine dr_mask [] [] rfl ?_
      exact c_X12_hearers_34 x21 μ19 h
/-! X12_hears -/
theorem dX12_hears_0 : decode cX12_hears 0 = .ok (.aload_n 0, 1) := by decide +kernel
theorem dX12_hears_1 : decode cX12_hears 1 = .ok (.iload_n 1, 1) := by decide +kernel
theorem dX12_hears_2 : decode cX12_hears 2 = .ok (.invokevirtual 307, 3) := by decide +kernel
theorem dX12_hears_5 : decode cX12_hears 5 = .ok (.ifCond .eq 10, 3) := by decide +kernel
theorem dX12_hears_8 : decode cX12_hears 8 = .ok (.iload_n 2, 1) := by decide +kernel
theorem dX12_hears_9 : decode cX12_hears 9 = .ok (.invokestatic 327, 3) := by decide +kernel
theorem dX12_hears_12 : decode cX12_hears 12 = .ok (.ifCond .ne 9, 3) := by decide +kernel
theorem dX12_hears_15 : decode cX12_hears 15 = .ok (.aload_n 0, 1) := by decide +kernel
theorem dX12_hears_16 : decode cX12_hears 16 = .ok (.iconst 1, 1) := by decide +kernel
theorem dX12_hears_17 : decode cX12_hears 17 = .ok (.invokevirtual 93, 3) := by decide +kernel
theorem dX12_hears_20 : decode cX12_hears 20 = .ok (.ireturn, 1) := by decide +kernel
theorem dX12_hears_21 : decode cX12_hears 21 = .ok (.iconst 0, 1) := by decide +kernel
theorem dX12_hears_22 : decode cX12_hears 22 = .ok (.istore_n 3, 1) := by decide +kernel
theorem dX12_hears_23 : decode cX12_hears 23 = .ok (.iconst 0, 1) := by decide +kernel
theorem dX12_hears_24 : decode cX12_hears 24 = .ok (.istore 4, 2) := by decide +kernel
theorem dX12_hears_26 : decode cX12_hears 26 = .ok (.iload 4, 2) := by decide +kernel
theorem dX12_hears_28 : decode cX12_hears 28 = .ok (.aload_n 0, 1) := by decide +kernel
theorem dX12_hears_29 : decode cX12_hears 29 = .ok (.getfield 7, 3) := by decide +kernel
theorem dX12_hears_32 : decode cX12_hears 32 = .ok (.iconst 1, 1) := by decide +kernel
theorem dX12_hears_33 : decode cX12_hears 33 = .ok (.iaload, 1) := by decide +kernel
theorem dX12_hears_34 : decode cX12_hears 34 = .ok (.if_icmp .ge 36, 3) := by decide +kernel
theorem dX12_hears_37 : decode cX12_hears 37 = .ok (.iload_n 3, 1) := by decide +kernel
theorem dX12_hears_38 : decode cX12_hears 38 = .ok (.aload_n 0, 1) := by decide +kernel
theorem dX12_hears_39 : decode cX12_hears 39 = .ok (.aload_n 0, 1) := by decide +kernel
theorem dX12_hears_40 : decode cX12_hears 40 = .ok (.iload 4, 2) := by decide +kernel
theorem dX12_hears_42 : decode cX12_hears 42 = .ok (.iload_n 2, 1) := by decide +kernel
theorem dX12_hears_43 : decode cX12_hears 43 = .ok (.iconst (-1), 1) := by decide +kernel
theorem dX12_hears_44 : decode cX12_hears 44 = .ok (.invokevirtual 330, 3) := by decide +kernel
theorem dX12_hears_47 : decode cX12_hears 47 = .ok (.iload_n 1, 1) := by decide +kernel
theorem dX12_hears_48 : decode cX12_hears 48 = .ok (.invokevirtual 241, 3) := by decide +kernel
theorem dX12_hears_51 : decode cX12_hears 51 = .ok (.ifCond .eq 10, 3) := by decide +kernel
theorem dX12_hears_54 : decode cX12_hears 54 = .ok (.iconst 1, 1) := by decide +kernel
theorem dX12_hears_55 : decode cX12_hears 55 = .ok (.iload 4, 2) := by decide +kernel
theorem dX12_hears_57 : decode cX12_hears 57 = .ok (.ishl, 1) := by decide +kernel
theorem dX12_hears_58 : decode cX12_hears 58 = .ok (.goto 4, 3) := by decide +kernel
theorem dX12_hears_61 : decode cX12_hears 61 = .ok (.iconst 0, 1) := by decide +kernel
theorem dX12_hears_62 : decode cX12_hears 62 = .ok (.ior, 1) := by decide +kernel
theorem dX12_hears_63 : decode cX12_hears 63 = .ok (.istore_n 3, 1) := by decide +kernel
theorem dX12_hears_64 : decode cX12_hears 64 = .ok (.iinc 4 1, 3) := by decide +kernel
theorem dX12_hears_67 : decode cX12_hears 67 = .ok (.goto (-41), 3) := by decide +kernel
theorem dX12_hears_70 : decode cX12_hears 70 = .ok (.aload_n 0, 1) := by decide +kernel
theorem dX12_hears_71 : decode cX12_hears 71 = .ok (.iload_n 3, 1) := by decide +kernel
theorem dX12_hears_72 : decode cX12_hears 72 = .ok (.invokevirtual 97, 3) := by decide +kernel
theorem dX12_hears_75 : decode cX12_hears 75 = .ok (.ireturn, 1) := by decide +kernel
set_option maxRecDepth 100000 in
def f_X12_hears_15 (l0 : Nat) (μ : dtM) : Option (Int32 × dtM) :=
  (opRv 12 μ l0).bind fun _ => opCall (f_X12_refuse l0 (1 : Int32) μ) fun x4 μ2 => some (x4, μ2)
set_option maxRecDepth 100000 in
def f_X12_hears_62 (k26 : Nat → Int32 → Int32 → Int32 → Int32 → dtM → Option (Int32 × dtM)) (l0 : Nat) (l1 : Int32) (l2 : Int32) (l4 : Int32) (s0 : Int32) (s1 : Int32) (μ : dtM) : Option (Int32 × dtM) :=
  (some (s0 ||| s1)).bind fun x1 => k26 l0 l1 l2 x1 (l4 + 1) μ
set_option maxRecDepth 100000 in
def f_X12_hears_26 : Nat → Nat → Int32 → Int32 → Int32 → Int32 → dtM → Option (Int32 × dtM)
  | 0, _, _, _, _, _, _ => none
  | n + 1, l0, l1, l2, l3, l4, μ =>
    (opGR 12 0 μ l0).bind fun x1 => (opLI 1 μ x1 (1 : Int32)).bind fun x3 => if x3 ≤ l4 then ((opRv 12 μ l0).bind fun _ => opCall (f_X12_gives l0 l3 μ) fun x11 μ9 => some (x11, μ9)) else ((opRv 12 μ l0).bind fun _ => opCall (f_X12_hearing l0 l4 l2 (-1 : Int32) μ) fun x15 μ13 => (opRv 12 μ13 l0).bind fun _ => opCall (f_X12_isIn l0 x15 l1 μ13) fun x19 μ17 => if x19 = 0 then (f_X12_hears_62 (f_X12_hears_26 n) l0 l1 l2 l4 l3 (0 : Int32) μ17) else (f_X12_hears_62 (f_X12_hears_26 n) l0 l1 l2 l4 l3 ((1 : Int32) <<< (l4 &&& 31)) μ17))
set_option maxRecDepth 100000 in
def f_X12_hears (p0 : Nat) (p1 : Int32) (p2 : Int32) (μ : dtM) : Option (Int32 × dtM) :=
  (opRv 12 μ p0).bind fun _ => opCall (f_X12_isPerson p0 p1 μ) fun x4 μ2 => if x4 = 0 then (f_X12_hears_15 p0 μ2) else (opCall (f_X12_isNoise p2 μ2) fun x10 μ8 => if x10 = 0 then (f_X12_hears_15 p0 μ8) else (f_X12_hears_26 dtFuel p0 p1 p2 (0 : Int32) (0 : Int32) μ8))
set_option maxRecDepth 100000 in
theorem c_X12_hears_15 {r : Int32} {F : dtM} (l0 : Nat) (μ : dtM) (h : f_X12_hears_15 l0 μ = some (r, F)) : dtW yX12_hears cX12_hears 5 (some .int) 5 (some (.int r)) F 15 [some (.ref l0)] [] μ := by
  rw [f_X12_hears_15] at h
  refine dr_aload_n l0 dX12_hears_15 rfl ?_
  refine dr_iconst (1 : Int32) dX12_hears_16 (by decide) ?_
  obtain ⟨_, hb1, h⟩ := dtBind h
  obtain ⟨x4, μ2, e3, h⟩ := dtCall h
  refine dr_callV_i (S0 := []) [.int (1 : Int32)] x4 μ2 dX12_hears_17 (c_X12_refuse l0 (1 : Int32) μ e3) mf_X12_refuse wt_1552 ws_59 wt_1550 rfl (dtRv hb1) (by decide) rfl (Nat.le_of_ble_eq_true rfl) (Nat.le_of_ble_eq_true rfl) rfl ?_
  cases h
  exact dr_ireturn dX12_hears_20 rfl
set_option maxRecDepth 100000 in
theorem c_X12_hears_62 {r : Int32} {F : dtM} (k26 : Nat → Int32 → Int32 → Int32 → Int32 → dtM → Option (Int32 × dtM)) (hk26 : ∀ (l0 : Nat) (l1 : Int32) (l2 : Int32) (l3 : Int32) (l4 : Int32) (μ : dtM), k26 l0 l1 l2 l3 l4 μ = some (r, F) → dtW yX12_hears cX12_hears 5 (some .int) 5 (some (.int r)) F 26 [some (.ref l0), some (.int l1), some (.int l2), some (.int l3), some (.int l4)] [] μ) (l0 : Nat) (l1 : Int32) (l2 : Int32) (l4 : Int32) (s0 : Int32) (s1 : Int32) (μ : dtM) (h : f_X12_hears_62 k26 l0 l1 l2 l4 s0 s1 μ = some (r, F)) : dtW yX12_hears cX12_hears 5 (some .int) 5 (some (.int r)) F 62 [some (.ref l0), some (.int l1), some (.int l2), none, some (.int l4)] [.int s1, .int s0] μ := by
  rw [f_X12_hears_62] at h
  refine dr_ior dX12_hears_62 ?_
  obtain ⟨x1, e2, h⟩ := dtBind h
  refine dr_nmi e2 ?_
  refine dr_istore_n 3 [some (.ref l0), some (.int l1), some (.int l2), some (.int x1), some (.int l4)] dX12_hears_63 rfl rfl rfl rfl ?_
  refine dr_iinc l4 (l4 + 1) [some (.ref l0), some (.int l1), some (.int l2), some (.int x1), some (.int (l4 + 1))] dX12_hears_64 rfl rfl rfl rfl rfl ?_
  refine dr_goto 26 dX12_hears_67 (by decide) ?_
  exact hk26 l0 l1 l2 x1 (l4 + 1) μ h
set_option maxRecDepth 100000 in
theorem c_X12_hears_26 {r : Int32} {F : dtM} : ∀ (n : Nat) (l0 : Nat) (l1 : Int32) (l2 : Int32) (l3 : Int32) (l4 : Int32) (μ : dtM), f_X12_hears_26 n l0 l1 l2 l3 l4 μ = some (r, F) → dtW yX12_hears cX12_hears 5 (some .int) 5 (some (.int r)) F 26 [some (.ref l0), some (.int l1), some (.int l2), some (.int l3), some (.int l4)] [] μ := by
  intro n
  induction n with
  | zero => intro l0 l1 l2 l3 l4 μ h; cases h
  | succ n ih =>
    intro l0 l1 l2 l3 l4 μ h
    have h := (show f_X12_hears_26 (n + 1) l0 l1 l2 l3 l4 μ = some _ from h)
    rw [f_X12_hears_26] at h
    refine dr_iload l4 dX12_hears_26 rfl ?_
    refine dr_aload_n l0 dX12_hears_28 rfl ?_
    obtain ⟨x1, e2, h⟩ := dtBind h
    refine dr_getR x1 dX12_hears_29 fl_RX12_7 e2 ?_
    refine dr_iconst (1 : Int32) dX12_hears_32 (by decide) ?_
    obtain ⟨x3, e4, h⟩ := dtBind h
    refine dr_iaload x3 dX12_hears_33 e4 ?_
    obtain ⟨ht6, hf7⟩ := dtIte h
    refine dr_icmp_ge 70 dX12_hears_34 (by decide) (fun hc5 => ?_) (fun hc5 => ?_)
    · have h := ht6 hc5
      refine dr_aload_n l0 dX12_hears_70 rfl ?_
      refine dr_iload_n l3 dX12_hears_71 rfl ?_
      obtain ⟨_, hb8, h⟩ := dtBind h
      obtain ⟨x11, μ9, e10, h⟩ := dtCall h
      refine dr_callV_i (S0 := []) [.int l3] x11 μ9 dX12_hears_72 (c_X12_gives l0 l3 μ e10) mf_X12_gives wt_1668 ws_85 wt_1666 rfl (dtRv hb8) (by decide) rfl (Nat.le_of_ble_eq_true rfl) (Nat.le_of_ble_eq_true rfl) rfl ?_
      cases h
      exact dr_ireturn dX12_hears_75 rfl
    · have h := hf7 hc5
      refine dr_iload_n l3 dX12_hears_37 rfl ?_
      refine dr_aload_n l0 dX12_hears_38 rfl ?_
      refine dr_aload_n l0 dX12_hears_39 rfl ?_
      refine dr_iload l4 dX12_hears_40 rfl ?_
      refine dr_iload_n l2 dX12_hears_42 rfl ?_
      refine dr_iconst (-1 : Int32) dX12_hears_43 (by decide) ?_
      obtain ⟨_, hb12, h⟩ := dtBind h
      obtain ⟨x15, μ13, e14, h⟩ := dtCall h
      refine dr_callV_i (S0 := [.ref l0, .int l3]) [.int l4, .int l2, .int (-1 : Int32)] x15 μ13 dX12_hears_44 (c_X12_hearing l0 l4 l2 (-1 : Int32) μ e14) mf_X12_hearing wt_1768 ws_100 wt_1766 rfl (dtRv hb12) (by decide) rfl (Nat.le_of_ble_eq_true rfl) (Nat.le_of_ble_eq_true rfl) rfl ?_
      refine dr_iload_n l1 dX12_hears_47 rfl ?_
      obtain ⟨_, hb16, h⟩ := dtBind h
      obtain ⟨x19, μ17, e18, h⟩ := dtCall h
      refine dr_callV_i (S0 := [.int l3]) [.int x15, .int l1] x19 μ17 dX12_hears_48 (c_X12_isIn l0 x15 l1 μ13 e18) mf_X12_isIn wt_1656 ws_82 wt_1654 rfl (dtRv hb16) (by decide) rfl (Nat.le_of_ble_eq_true rfl) (Nat.le_of_ble_eq_true rfl) rfl ?_
      obtain ⟨ht21, hf22⟩ := dtIte h
      refine dr_if_eq 61 dX12_hears_51 (by decide) (fun hc20 => ?_) (fun hc20 => ?_)
      · have h := ht21 hc20
        refine dr_iconst (0 : Int32) dX12_hears_61 (by decide) ?_
        refine dr_mask [true, true, true, false, true] [some (.ref l0), some (.int l1), some (.int l2), none, some (.int l4)] rfl ?_
        exact c_X12_hears_62 (f_X12_hears_26 n) ih l0 l1 l2 l4 l3 (0 : Int32) μ17 h
      · have h := hf22 hc20
        refine dr_iconst (1 : Int32) dX12_hears_54 (by decide) ?_
        refine dr_iload l4 dX12_hears_55 rfl ?_
        refine dr_ishl dX12_hears_57 ?_
        refine dr_goto 62 dX12_hears_58 (by decide) ?_
        refine dr_mask [true, true, true, false, true] [some (.ref l0), some (.int l1), some (.int l2), none, some (.int l4)] rfl ?_
        exact c_X12_hears_62 (f_X12_hears_26 n) ih l0 l1 l2 l4 l3 ((1 : Int32) <<< (l4 &&& 31)) μ17 h
set_option maxRecDepth 100000 in
theorem c_X12_hears {r : Int32} {F : dtM} (p0 : Nat) (p1 : Int32) (p2 : Int32) (μ : dtM) (h : f_X12_hears p0 p1 p2 μ = some (r, F)) : dtMet yX12_hears cX12_hears 5 (some .int) 5 [.ref p0, .int p1, .int p2] μ (some (.int r)) F := by
  refine dtMet.of (by decide +kernel) (Nat.le_of_ble_eq_true rfl) (show dtW yX12_hears cX12_hears 5 (some .int) 5 (some (.int r)) F 0 [some (.ref p0), some (.int p1), some (.int p2)] [] μ from ?_)
  rw [f_X12_hears] at h
  refine dr_aload_n p0 dX12_hears_0 rfl ?_
  refine dr_iload_n p1 dX12_hears_1 rfl ?_
  obtain ⟨_, hb1, h⟩ := dtBind h
  obtain ⟨x4, μ2, e3, h⟩ := dtCall h
  refine dr_callV_i (S0 := []) [.int p1] x4 μ2 dX12_hears_2 (c_X12_isPerson p0 p1 μ e3) mf_X12_isPerson wt_1732 ws_95 wt_1730 rfl (dtRv hb1) (by decide) rfl (Nat.le_of_ble_eq_true rfl) (Nat.le_of_ble_eq_true rfl) rfl ?_
  obtain ⟨ht6, hf7⟩ := dtIte h
  refine dr_if_eq 15 dX12_hears_5 (by decide) (fun hc5 => ?_) (fun hc5 => ?_)
  · have h := ht6 hc5
    refine dr_mask [true] [some (.ref p0)] rfl ?_
    exact c_X12_hears_15 p0 μ2 h
  · have h := hf7 hc5
    refine dr_iload_n p2 dX12_hears_8 rfl ?_
    obtain ⟨x10, μ8, e9, h⟩ := dtCall h
    refine dr_callS_i (S0 := []) [.int p2] x10 μ8 dX12_hears_9 (c_X12_isNoise p2 μ2 e9) mf_X12_isNoise wt_1764 wt_1763 rfl (Nat.le_of_ble_eq_true rfl) (Nat.le_of_ble_eq_true rfl) rfl ?_
    obtain ⟨ht12, hf13⟩ := dtIte h
    refine dr_if_ne 21 dX12_hears_12 (by decide) (fun hc11 => ?_) (fun hc11 => ?_)
    · have h := hf13 hc11
      refine dr_iconst (0 : Int32) dX12_hears_21 (by decide) ?_
      refine dr_istore_n 3 [some (.ref p0), some (.int p1), some (.int p2), some (.int (0 : Int32))] dX12_hears_22 rfl rfl rfl rfl ?_
      refine dr_iconst (0 : Int32) dX12_hears_23 (by decide) ?_
      refine dr_istore [some (.ref p0), some (.int p1), some (.int p2), some (.int (0 : Int32)), some (.int (0 : Int32))] dX12_hears_24 rfl rfl rfl ?_
      exact c_X12_hears_26 dtFuel p0 p1 p2 (0 : Int32) (0 : Int32) μ8 h
    · have h := ht12 hc11
      refine dr_mask [true] [some (.ref p0)] rfl ?_
      exact c_X12_hears_15 p0 μ8 h
/-! X12_hush -/
theorem dX12_hush_0 : decode cX12_hush 0 = .ok (.aload_n 0, 1) := by decide +kernel
theorem dX12_hush_1 : decode cX12_hush 1 = .ok (.iload_n 1, 1) := by decide +kernel
theorem dX12_hush_2 : decode cX12_hush 2 = .ok (.invokevirtual 301, 3) := by decide +kernel
theorem dX12_hush_5 : decode cX12_hush 5 = .ok (.ifCond .eq 18, 3) := by decide +kernel
theorem dX12_hush_8 : decode cX12_hush 8 = .ok (.iload_n 2, 1) := by decide +kernel
theorem dX12_hush_9 : decode cX12_hush 9 = .ok (.invokestatic 327, 3) := by decide +kernel
theorem dX12_hush_12 : decode cX12_hush 12 = .ok (.ifCond .eq 11, 3) := by decide +kernel
theorem dX12_hush_15 : decode cX12_hush 15 = .ok (.aload_n 0, 1) := by decide +kernel
theorem dX12_hush_16 : decode cX12_hush 16 = .ok (.iload_n 3, 1) := by decide +kernel
theorem dX12_hush_17 : decode cX12_hush 17 = .ok (.invokevirtual 307, 3) := by decide +kernel
theorem dX12_hush_20 : decode cX12_hush 20 = .ok (.ifCond .ne 9, 3) := by decide +kernel
theorem dX12_hush_23 : decode cX12_hush 23 = .ok (.aload_n 0, 1) := by decide +kernel
theorem dX12_hush_24 : decode cX12_hush 24 = .ok (.iconst 1, 1) := by decide +kernel
theorem dX12_hush_25 : decode cX12_hush 25 = .ok (.invokevirtual 93, 3) := by decide +kernel
theorem dX12_hush_28 : decode cX12_hush 28 = .ok (.ireturn, 1) := by decide +kernel
theorem dX12_hush_29 : decode cX12_hush 29 = .ok (.iconst 0, 1) := by decide +kernel
theorem dX12_hush_30 : decode cX12_hush 30 = .ok (.istore 4, 2) := by decide +kernel
theorem dX12_hush_32 : decode cX12_hush 32 = .ok (.iload 4, 2) := by decide +kernel
theorem dX12_hush_34 : decode cX12_hush 34 = .ok (.bipush 9, 2) := by decide +kernel
theorem dX12_hush_36 : decode cX12_hush 36 = .ok (.if_icmp .gt 33, 3) := by decide +kernel
theorem dX12_hush_39 : decode cX12_hush 39 = .ok (.aload_n 0, 1) := by decide +kernel
theorem dX12_hush_40 : decode cX12_hush 40 = .ok (.iload_n 1, 1) := by decide +kernel
theorem dX12_hush_41 : decode cX12_hush 41 = .ok (.iload 4, 2) := by decide +kernel
theorem dX12_hush_43 : decode cX12_hush 43 = .ok (.invokevirtual 317, 3) := by decide +kernel
theorem dX12_hush_46 : decode cX12_hush 46 = .ok (.aload_n 0, 1) := by decide +kernel
theorem dX12_hush_47 : decode cX12_hush 47 = .ok (.iload_n 3, 1) := by decide +kernel
theorem dX12_hush_48 : decode cX12_hush 48 = .ok (.iload_n 1, 1) := by decide +kernel
theorem dX12_hush_49 : decode cX12_hush 49 = .ok (.iload_n 2, 1) := by decide +kernel
theorem dX12_hush_50 : decode cX12_hush 50 = .ok (.invokevirtual 324, 3) := by decide +kernel
theorem dX12_hush_53 : decode cX12_hush 53 = .ok (.ifCond .ne 10, 3) := by decide +kernel
theorem dX12_hush_56 : decode cX12_hush 56 = .ok (.aload_n 0, 1) := by decide +kernel
theorem dX12_hush_57 : decode cX12_hush 57 = .ok (.iload 4, 2) := by decide +kernel
theorem dX12_hush_59 : decode cX12_hush 59 = .ok (.invokevirtual 97, 3) := by decide +kernel
theorem dX12_hush_62 : decode cX12_hush 62 = .ok (.ireturn, 1) := by decide +kernel
theorem dX12_hush_63 : decode cX12_hush 63 = .ok (.iinc 4 1, 3) := by decide +kernel
theorem dX12_hush_66 : decode cX12_hush 66 = .ok (.goto (-34), 3) := by decide +kernel
theorem dX12_hush_69 : decode cX12_hush 69 = .ok (.aload_n 0, 1) := by decide +kernel
theorem dX12_hush_70 : decode cX12_hush 70 = .ok (.bipush 6, 2) := by decide +kernel
theorem dX12_hush_72 : decode cX12_hush 72 = .ok (.invokevirtual 93, 3) := by decide +kernel
theorem dX12_hush_75 : decode cX12_hush 75 = .ok (.ireturn, 1) := by decide +kernel
set_option maxRecDepth 100000 in
def f_X12_hush_23 (l0 : Nat) (μ : dtM) : Option (Int32 × dtM) :=
  (opRv 12 μ l0).bind fun _ => opCall (f_X12_refuse l0 (1 : Int32) μ) fun x4 μ2 => some (x4, μ2)
set_option maxRecDepth 100000 in
def f_X12_hush_32 : Nat → Nat → Int32 → Int32 → Int32 → Int32 → dtM → Option (Int32 × dtM)
  | 0, _, _, _, _, _, _ => none
  | n + 1, l0, l1, l2, l3, l4, μ =>
    if (9 : Int32) < l4 then ((opRv 12 μ l0).bind fun _ => opCall (f_X12_refuse l0 (6 : Int32) μ) fun x7 μ5 => some (x7, μ5)) else ((opRv 12 μ l0).bind fun _ => (f_X12_laysLoss l0 l1 l4 μ).bind fun μ9 => (opRv 12 μ9 l0).bind fun _ => opCall (f_X12_isHeard l0 l3 l1 l2 μ9) fun x14 μ12 => if x14 = 0 then ((opRv 12 μ12 l0).bind fun _ => opCall (f_X12_gives l0 l4 μ12) fun x21 μ19 => some (x21, μ19)) else (f_X12_hush_32 n l0 l1 l2 l3 (l4 + 1) μ12))
set_option maxRecDepth 100000 in
def f_X12_hush (p0 : Nat) (p1 : Int32) (p2 : Int32) (p3 : Int32) (μ : dtM) : Option (Int32 × dtM) :=
  (opRv 12 μ p0).bind fun _ => opCall (f_X12_isDoor p0 p1 μ) fun x4 μ2 => if x4 = 0 then (f_X12_hush_23 p0 μ2) else (opCall (f_X12_isNoise p2 μ2) fun x10 μ8 => if x10 = 0 then (f_X12_hush_23 p0 μ8) else ((opRv 12 μ8 p0).bind fun _ => opCall (f_X12_isPerson p0 p3 μ8) fun x17 μ15 => if x17 = 0 then (f_X12_hush_23 p0 μ15) else (f_X12_hush_32 dtFuel p0 p1 p2 p3 (0 : Int32) μ15)))
set_option maxRecDepth 100000 in
theorem c_X12_hush_23 {r : Int32} {F : dtM} (l0 : Nat) (μ : dtM) (h : f_X12_hush_23 l0 μ = some (r, F)) : dtW yX12_hush cX12_hush 5 (some .int) 4 (some (.int r)) F 23 [some (.ref l0)] [] μ := by
  rw [f_X12_hush_23] at h
  refine dr_aload_n l0 dX12_hush_23 rfl ?_
  refine dr_iconst (1 : Int32) dX12_hush_24 (by decide) ?_
  obtain ⟨_, hb1, h⟩ := dtBind h
  obtain ⟨x4, μ2, e3, h⟩ := dtCall h
  refine dr_callV_i (S0 := []) [.int (1 : Int32)] x4 μ2 dX12_hush_25 (c_X12_refuse l0 (1 : Int32) μ e3) mf_X12_refuse wt_1552 ws_59 wt_1550 rfl (dtRv hb1) (by decide) rfl (Nat.le_of_ble_eq_true rfl) (Nat.le_of_ble_eq_true rfl) rfl ?_
  cases h
  exact dr_ireturn dX12_hush_28 rfl
set_option maxRecDepth 100000 in
theorem c_X12_hush_32 {r : Int32} {F : dtM} : ∀ (n : Nat) (l0 : Nat) (l1 : Int32) (l2 : Int32) (l3 : Int32) (l4 : Int32) (μ : dtM), f_X12_hush_32 n l0 l1 l2 l3 l4 μ = some (r, F) → dtW yX12_hush cX12_hush 5 (some .int) 4 (some (.int r)) F 32 [some (.ref l0), some (.int l1), some (.int l2), some (.int l3), some (.int l4)] [] μ := by
  intro n
  induction n with
  | zero => intro l0 l1 l2 l3 l4 μ h; cases h
  | succ n ih =>
    intro l0 l1 l2 l3 l4 μ h
    have h := (show f_X12_hush_32 (n + 1) l0 l1 l2 l3 l4 μ = some _ from h)
    rw [f_X12_hush_32] at h
    refine dr_iload l4 dX12_hush_32 rfl ?_
    refine dr_bipush (9 : Int32) dX12_hush_34 (by decide) ?_
    obtain ⟨ht2, hf3⟩ := dtIte h
    refine dr_icmp_gt 69 dX12_hush_36 (by decide) (fun hc1 => ?_) (fun hc1 => ?_)
    · have h := ht2 hc1
      refine dr_aload_n l0 dX12_hush_69 rfl ?_
      refine dr_bipush (6 : Int32) dX12_hush_70 (by decide) ?_
      obtain ⟨_, hb4, h⟩ := dtBind h
      obtain ⟨x7, μ5, e6, h⟩ := dtCall h
      refine dr_callV_i (S0 := []) [.int (6 : Int32)] x7 μ5 dX12_hush_72 (c_X12_refuse l0 (6 : Int32) μ e6) mf_X12_refuse wt_1552 ws_59 wt_1550 rfl (dtRv hb4) (by decide) rfl (Nat.le_of_ble_eq_true rfl) (Nat.le_of_ble_eq_true rfl) rfl ?_
      cases h
      exact dr_ireturn dX12_hush_75 rfl
    · have h := hf3 hc1
      refine dr_aload_n l0 dX12_hush_39 rfl ?_
      refine dr_iload_n l1 dX12_hush_40 rfl ?_
      refine dr_iload l4 dX12_hush_41 rfl ?_
      obtain ⟨_, hb8, h⟩ := dtBind h
      obtain ⟨μ9, e10, h⟩ := dtBind h
      refine dr_callV_v (S0 := []) [.int l1, .int l4] μ9 dX12_hush_43 (c_X12_laysLoss l0 l1 l4 μ e10) mf_X12_laysLoss wt_1752 ws_98 wt_1750 rfl (dtRv hb8) (by decide) rfl (Nat.le_of_ble_eq_true rfl) (Nat.le_of_ble_eq_true rfl) rfl ?_
      refine dr_aload_n l0 dX12_hush_46 rfl ?_
      refine dr_iload_n l3 dX12_hush_47 rfl ?_
      refine dr_iload_n l1 dX12_hush_48 rfl ?_
      refine dr_iload_n l2 dX12_hush_49 rfl ?_
      obtain ⟨_, hb11, h⟩ := dtBind h
      obtain ⟨x14, μ12, e13, h⟩ := dtCall h
      refine dr_callV_i (S0 := []) [.int l3, .int l1, .int l2] x14 μ12 dX12_hush_50 (c_X12_isHeard l0 l3 l1 l2 μ9 e13) mf_X12_isHeard wt_1772 ws_101 wt_1770 rfl (dtRv hb11) (by decide) rfl (Nat.le_of_ble_eq_true rfl) (Nat.le_of_ble_eq_true rfl) rfl ?_
      obtain ⟨ht16, hf17⟩ := dtIte h
      refine dr_if_ne 63 dX12_hush_53 (by decide) (fun hc15 => ?_) (fun hc15 => ?_)
      · have h := hf17 hc15
        refine dr_iinc l4 (l4 + 1) [some (.ref l0), some (.int l1), some (.int l2), some (.int l3), some (.int (l4 + 1))] dX12_hush_63 rfl rfl rfl rfl rfl ?_
        refine dr_goto 32 dX12_hush_66 (by decide) ?_
        exact ih l0 l1 l2 l3 (l4 + 1) μ12 h
      · have h := ht16 hc15
        refine dr_aload_n l0 dX12_hush_56 rfl ?_
        refine dr_iload l4 dX12_hush_57 rfl ?_
        obtain ⟨_, hb18, h⟩ := dtBind h
        obtain ⟨x21, μ19, e20, h⟩ := dtCall h
        refine dr_callV_i (S0 := []) [.int l4] x21 μ19 dX12_hush_59 (c_X12_gives l0 l4 μ12 e20) mf_X12_gives wt_1668 ws_85 wt_1666 rfl (dtRv hb18) (by decide) rfl (Nat.le_of_ble_eq_true rfl) (Nat.le_of_ble_eq_true rfl) rfl ?_
        cases h
        exact dr_ireturn dX12_hush_62 rfl
set_option maxRecDepth 100000 in
theorem c_X12_hush {r : Int32} {F : dtM} (p0 : Nat) (p1 : Int32) (p2 : Int32) (p3 : Int32) (μ : dtM) (h : f_X12_hush p0 p1 p2 p3 μ = some (r, F)) : dtMet yX12_hush cX12_hush 5 (some .int) 4 [.ref p0, .int p1, .int p2, .int p3] μ (some (.int r)) F := by
  refine dtMet.of (by decide +kernel) (Nat.le_of_ble_eq_true rfl) (show dtW yX12_hush cX12_hush 5 (some .int) 4 (some (.int r)) F 0 [some (.ref p0), some (.int p1), some (.int p2), some (.int p3)] [] μ from ?_)
  rw [f_X12_hush] at h
  refine dr_aload_n p0 dX12_hush_0 rfl ?_
  refine dr_iload_n p1 dX12_hush_1 rfl ?_
  obtain ⟨_, hb1, h⟩ := dtBind h
  obtain ⟨x4, μ2, e3, h⟩ := dtCall h
  refine dr_callV_i (S0 := []) [.int p1] x4 μ2 dX12_hush_2 (c_X12_isDoor p0 p1 μ e3) mf_X12_isDoor wt_1708 ws_92 wt_1706 rfl (dtRv hb1) (by decide) rfl (Nat.le_of_ble_eq_true rfl) (Nat.le_of_ble_eq_true rfl) rfl ?_
  obtain ⟨ht6, hf7⟩ := dtIte h
  refine dr_if_eq 23 dX12_hush_5 (by decide) (fun hc5 => ?_) (fun hc5 => ?_)
  · have h := ht6 hc5
    refine dr_mask [true] [some (.ref p0)] rfl ?_
    exact c_X12_hush_23 p0 μ2 h
  · have h := hf7 hc5
    refine dr_iload_n p2 dX12_hush_8 rfl ?_
    obtain ⟨x10, μ8, e9, h⟩ := dtCall h
    refine dr_callS_i (S0 := []) [.int p2] x10 μ8 dX12_hush_9 (c_X12_isNoise p2 μ2 e9) mf_X12_isNoise wt_1764 wt_1763 rfl (Nat.le_of_ble_eq_true rfl) (Nat.le_of_ble_eq_true rfl) rfl ?_
    obtain ⟨ht12, hf13⟩ := dtIte h
    refine dr_if_eq 23 dX12_hush_12 (by decide) (fun hc11 => ?_) (fun hc11 => ?_)
    · have h := ht12 hc11
      refine dr_mask [true] [some (.ref p0)] rfl ?_
      exact c_X12_hush_23 p0 μ8 h
    · have h := hf13 hc11
      refine dr_aload_n p0 dX12_hush_15 rfl ?_
      refine dr_iload_n p3 dX12_hush_16 rfl ?_
      obtain ⟨_, hb14, h⟩ := dtBind h
      obtain ⟨x17, μ15, e16, h⟩ := dtCall h
      refine dr_callV_i (S0 := []) [.int p3] x17 μ15 dX12_hush_17 (c_X12_isPerson p0 p3 μ8 e16) mf_X12_isPerson wt_1732 ws_95 wt_1730 rfl (dtRv hb14) (by decide) rfl (Nat.le_of_ble_eq_true rfl) (Nat.le_of_ble_eq_true rfl) rfl ?_
      obtain ⟨ht19, hf20⟩ := dtIte h
      refine dr_if_ne 29 dX12_hush_20 (by decide) (fun hc18 => ?_) (fun hc18 => ?_)
      · have h := hf20 hc18
        refine dr_iconst (0 : Int32) dX12_hush_29 (by decide) ?_
        refine dr_istore [some (.ref p0), some (.int p1), some (.int p2), some (.int p3), some (.int (0 : Int32))] dX12_hush_30 rfl rfl rfl ?_
        exact c_X12_hush_32 dtFuel p0 p1 p2 p3 (0 : Int32) μ15 h
      · have h := ht19 hc18
        refine dr_mask [true] [some (.ref p0)] rfl ?_
        exact c_X12_hush_23 p0 μ15 h
/-! X12_reaches -/
theorem dX12_reaches_0 : decode cX12_reaches 0 = .ok (.iload_n 1, 1) := by decide +kernel
theorem dX12_reaches_1 : decode cX12_reaches 1 = .ok (.istore_n 3, 1) := by decide +kernel
theorem dX12_reaches_2 : decode cX12_reaches 2 = .ok (.iconst 0, 1) := by decide +kernel
theorem dX12_reaches_3 : decode cX12_reaches 3 = .ok (.istore 4, 2) := by decide +kernel
theorem dX12_reaches_5 : decode cX12_reaches 5 = .ok (.iload 4, 2) := by decide +kernel
theorem dX12_reaches_7 : decode cX12_reaches 7 = .ok (.bipush 7, 2) := by decide +kernel
theorem dX12_reaches_9 : decode cX12_reaches 9 = .ok (.if_icmp .ge 72, 3) := by decide +kernel
theorem dX12_reaches_12 : decode cX12_reaches 12 = .ok (.iconst 0, 1) := by decide +kernel
theorem dX12_reaches_13 : decode cX12_reaches 13 = .ok (.istore 5, 2) := by decide +kernel
theorem dX12_reaches_15 : decode cX12_reaches 15 = .ok (.iload 5, 2) := by decide +kernel
theorem dX12_reaches_17 : decode cX12_reaches 17 = .ok (.aload_n 0, 1) := by decide +kernel
theorem dX12_reaches_18 : decode cX12_reaches 18 = .ok (.getfield 7, 3) := by decide +kernel
theorem dX12_reaches_21 : decode cX12_reaches 21 = .ok (.iconst 1, 1) := by decide +kernel
theorem dX12_reaches_22 : decode cX12_reaches 22 = .ok (.iaload, 1) := by decide +kernel
theorem dX12_reaches_23 : decode cX12_reaches 23 = .ok (.if_icmp .ge 52, 3) := by decide +kernel
theorem dX12_reaches_26 : decode cX12_reaches 26 = .ok (.iconst 1, 1) := by decide +kernel
theorem dX12_reaches_27 : decode cX12_reaches 27 = .ok (.aload_n 0, 1) := by decide +kernel
theorem dX12_reaches_28 : decode cX12_reaches 28 = .ok (.iload 5, 2) := by decide +kernel
theorem dX12_reaches_30 : decode cX12_reaches 30 = .ok (.iconst 0, 1) := by decide +kernel
theorem dX12_reaches_31 : decode cX12_reaches 31 = .ok (.invokevirtual 298, 3) := by decide +kernel
theorem dX12_reaches_34 : decode cX12_reaches 34 = .ok (.ishl, 1) := by decide +kernel
theorem dX12_reaches_35 : decode cX12_reaches 35 = .ok (.iconst 1, 1) := by decide +kernel
theorem dX12_reaches_36 : decode cX12_reaches 36 = .ok (.aload_n 0, 1) := by decide +kernel
theorem dX12_reaches_37 : decode cX12_reaches 37 = .ok (.iload 5, 2) := by decide +kernel
theorem dX12_reaches_39 : decode cX12_reaches 39 = .ok (.iconst 1, 1) := by decide +kernel
theorem dX12_reaches_40 : decode cX12_reaches 40 = .ok (.invokevirtual 298, 3) := by decide +kernel
theorem dX12_reaches_43 : decode cX12_reaches 43 = .ok (.ishl, 1) := by decide +kernel
theorem dX12_reaches_44 : decode cX12_reaches 44 = .ok (.ior, 1) := by decide +kernel
theorem dX12_reaches_45 : decode cX12_reaches 45 = .ok (.istore 6, 2) := by decide +kernel
theorem dX12_reaches_47 : decode cX12_reaches 47 = .ok (.aload_n 0, 1) := by decide +kernel
theorem dX12_reaches_48 : decode cX12_reaches 48 = .ok (.iload_n 2, 1) := by decide +kernel
theorem dX12_reaches_49 : decode cX12_reaches 49 = .ok (.iload 5, 2) := by decide +kernel
theorem dX12_reaches_51 : decode cX12_reaches 51 = .ok (.invokevirtual 241, 3) := by decide +kernel
theorem dX12_reaches_54 : decode cX12_reaches 54 = .ok (.ifCond .eq 15, 3) := by decide +kernel
theorem dX12_reaches_57 : decode cX12_reaches 57 = .ok (.iload 6, 2) := by decide +kernel
theorem dX12_reaches_59 : decode cX12_reaches 59 = .ok (.iload_n 3, 1) := by decide +kernel
theorem dX12_reaches_60 : decode cX12_reaches 60 = .ok (.iand, 1) := by decide +kernel
theorem dX12_reaches_61 : decode cX12_reaches 61 = .ok (.ifCond .eq 8, 3) := by decide +kernel
theorem dX12_reaches_64 : decode cX12_reaches 64 = .ok (.iload_n 3, 1) := by decide +kernel
theorem dX12_reaches_65 : decode cX12_reaches 65 = .ok (.iload 6, 2) := by decide +kernel
theorem dX12_reaches_67 : decode cX12_reaches 67 = .ok (.ior, 1) := by decide +kernel
theorem dX12_reaches_68 : decode cX12_reaches 68 = .ok (.istore_n 3, 1) := by decide +kernel
theorem dX12_reaches_69 : decode cX12_reaches 69 = .ok (.iinc 5 1, 3) := by decide +kernel
theorem dX12_reaches_72 : decode cX12_reaches 72 = .ok (.goto (-57), 3) := by decide +kernel
theorem dX12_reaches_75 : decode cX12_reaches 75 = .ok (.iinc 4 1, 3) := by decide +kernel
theorem dX12_reaches_78 : decode cX12_reaches 78 = .ok (.goto (-73), 3) := by decide +kernel
theorem dX12_reaches_81 : decode cX12_reaches 81 = .ok (.iload_n 3, 1) := by decide +kernel
theorem dX12_reaches_82 : decode cX12_reaches 82 = .ok (.ireturn, 1) := by decide +kernel
set_option maxRecDepth 100000 in
def f_X12_reaches_69 (k5 : Nat → Int32 → Int32 → Int32 → dtM → Option (Int32 × dtM)) (k15 : Nat → Int32 → Int32 → Int32 → Int32 → dtM → Option (Int32 × dtM)) (l0 : Nat) (l2 : Int32) (l3 : Int32) (l4 : Int32) (l5 : Int32) (μ : dtM) : Option (Int32 × dtM) :=
  k15 l0 l2 l3 l4 (l5 + 1) μ
set_option maxRecDepth 100000 in
def f_X12_reaches_15 (k5 : Nat → Int32 → Int32 → Int32 → dtM → Option (Int32 × dtM)) : Nat → Nat → Int32 → Int32 → Int32 → Int32 → dtM → Option (Int32 × dtM)
  | 0, _, _, _, _, _, _ => none
  | n + 1, l0, l2, l3, l4, l5, μ =>
    (opGR 12 0 μ l0).bind fun x1 => (opLI 1 μ x1 (1 : Int32)).bind fun x3 => if x3 ≤ l5 then (k5 l0 l2 l3 (l4 + 1) μ) else ((opRv 12 μ l0).bind fun _ => opCall (f_X12_doorOf l0 l5 (0 : Int32) μ) fun x11 μ9 => (opRv 12 μ9 l0).bind fun _ => opCall (f_X12_doorOf l0 l5 (1 : Int32) μ9) fun x15 μ13 => (some (((1 : Int32) <<< (x11 &&& 31)) ||| ((1 : Int32) <<< (x15 &&& 31)))).bind fun x16 => (opRv 12 μ13 l0).bind fun _ => opCall (f_X12_isIn l0 l2 l5 μ13) fun x21 μ19 => if x21 = 0 then (f_X12_reaches_69 k5 (f_X12_reaches_15 k5 n) l0 l2 l3 l4 l5 μ19) else (if (x16 &&& l3) = 0 then (f_X12_reaches_69 k5 (f_X12_reaches_15 k5 n) l0 l2 l3 l4 l5 μ19) else ((some (l3 ||| x16)).bind fun x28 => f_X12_reaches_69 k5 (f_X12_reaches_15 k5 n) l0 l2 x28 l4 l5 μ19)))
set_option maxRecDepth 100000 in
def f_X12_reaches_5 : Nat → Nat → Int32 → Int32 → Int32 → dtM → Option (Int32 × dtM)
  | 0, _, _, _, _, _ => none
  | n + 1, l0, l2, l3, l4, μ =>
    if (7 : Int32) ≤ l4 then (some (l3, μ)) else (f_X12_reaches_15 (f_X12_reaches_5 n) dtFuel l0 l2 l3 l4 (0 : Int32) μ)
set_option maxRecDepth 100000 in
def f_X12_reaches (p0 : Nat) (p1 : Int32) (p2 : Int32) (μ : dtM) : Option (Int32 × dtM) :=
  f_X12_reaches_5 dtFuel p0 p2 p1 (0 : Int32) μ
set_option maxRecDepth 100000 in
theorem c_X12_reaches_69 {r : Int32} {F : dtM} (k5 : Nat → Int32 → Int32 → Int32 → dtM → Option (Int32 × dtM)) (k15 : Nat → Int32 → Int32 → Int32 → Int32 → dtM → Option (Int32 × dtM)) (hk5 : ∀ (l0 : Nat) (l2 : Int32) (l3 : Int32) (l4 : Int32) (μ : dtM), k5 l0 l2 l3 l4 μ = some (r, F) → dtW yX12_reaches cX12_reaches 7 (some .int) 3 (some (.int r)) F 5 [some (.ref l0), none, some (.int l2), some (.int l3), some (.int l4)] [] μ) (hk15 : ∀ (l0 : Nat) (l2 : Int32) (l3 : Int32) (l4 : Int32) (l5 : Int32) (μ : dtM), k15 l0 l2 l3 l4 l5 μ = some (r, F) → dtW yX12_reaches cX12_reaches 7 (some .int) 3 (some (.int r)) F 15 [some (.ref l0), none, some (.int l2), some (.int l3), some (.int l4), some (.int l5)] [] μ) (l0 : Nat) (l2 : Int32) (l3 : Int32) (l4 : Int32) (l5 : Int32) (μ : dtM) (h : f_X12_reaches_69 k5 k15 l0 l2 l3 l4 l5 μ = some (r, F)) : dtW yX12_reaches cX12_reaches 7 (some .int) 3 (some (.int r)) F 69 [some (.ref l0), none, some (.int l2), some (.int l3), some (.int l4), some (.int l5)] [] μ := by
  rw [f_X12_reaches_69] at h
  refine dr_iinc l5 (l5 + 1) [some (.ref l0), none, some (.int l2), some (.int l3), some (.int l4), some (.int (l5 + 1))] dX12_reaches_69 rfl rfl rfl rfl rfl ?_
  refine dr_goto 15 dX12_reaches_72 (by decide) ?_
  exact hk15 l0 l2 l3 l4 (l5 + 1) μ h
set_option maxRecDepth 100000 in
theorem c_X12_reaches_15 {r : Int32} {F : dtM} (k5 : Nat → Int32 → Int32 → Int32 → dtM → Option (Int32 × dtM)) (hk5 : ∀ (l0 : Nat) (l2 : Int32) (l3 : Int32) (l4 : Int32) (μ : dtM), k5 l0 l2 l3 l4 μ = some (r, F) → dtW yX12_reaches cX12_reaches 7 (some .int) 3 (some (.int r)) F 5 [some (.ref l0), none, some (.int l2), some (.int l3), some (.int l4)] [] μ) : ∀ (n : Nat) (l0 : Nat) (l2 : Int32) (l3 : Int32) (l4 : Int32) (l5 : Int32) (μ : dtM), f_X12_reaches_15 k5 n l0 l2 l3 l4 l5 μ = some (r, F) → dtW yX12_reaches cX12_reaches 7 (some .int) 3 (some (.int r)) F 15 [some (.ref l0), none, some (.int l2), some (.int l3), some (.int l4), some (.int l5)] [] μ := by
  intro n
  induction n with
  | zero => intro l0 l2 l3 l4 l5 μ h; cases h
  | succ n ih =>
    intro l0 l2 l3 l4 l5 μ h
    have h := (show f_X12_reaches_15 k5 (n + 1) l0 l2 l3 l4 l5 μ = some _ from h)
    rw [f_X12_reaches_15] at h
    refine dr_iload l5 dX12_reaches_15 rfl ?_
    refine dr_aload_n l0 dX12_reaches_17 rfl ?_
    obtain ⟨x1, e2, h⟩ := dtBind h
    refine dr_getR x1 dX12_reaches_18 fl_RX12_7 e2 ?_
    refine dr_iconst (1 : Int32) dX12_reaches_21 (by decide) ?_
    obtain ⟨x3, e4, h⟩ := dtBind h
    refine dr_iaload x3 dX12_reaches_22 e4 ?_
    obtain ⟨ht6, hf7⟩ := dtIte h
    refine dr_icmp_ge 75 dX12_reaches_23 (by decide) (fun hc5 => ?_) (fun hc5 => ?_)
    · have h := ht6 hc5
      refine dr_iinc l4 (l4 + 1) [some (.ref l0), none, some (.int l2), some (.int l3), some (.int (l4 + 1)), some (.int l5)] dX12_reaches_75 rfl rfl rfl rfl rfl ?_
      refine dr_goto 5 dX12_reaches_78 (by decide) ?_
      refine dr_mask [true, false, true, true, true] [some (.ref l0), none, some (.int l2), some (.int l3), some (.int (l4 + 1))] rfl ?_
      exact hk5 l0 l2 l3 (l4 + 1) μ h
    · have h := hf7 hc5
      refine dr_iconst (1 : Int32) dX12_reaches_26 (by decide) ?_
      refine dr_aload_n l0 dX12_reaches_27 rfl ?_
      refine dr_iload l5 dX12_reaches_28 rfl ?_
      refine dr_iconst (0 : Int32) dX12_reaches_30 (by decide) ?_
      obtain ⟨_, hb8, h⟩ := dtBind h
      obtain ⟨x11, μ9, e10, h⟩ := dtCall h
      refine dr_callV_i (S0 := [.int (1 : Int32)]) [.int l5, .int (0 : Int32)] x11 μ9 dX12_reaches_31 (c_X12_doorOf l0 l5 (0 : Int32) μ e10) mf_X12_doorOf wt_1712 ws_93 wt_1710 rfl (dtRv hb8) (by decide) rfl (Nat.le_of_ble_eq_true rfl) (Nat.le_of_ble_eq_true rfl) rfl ?_
      refine dr_ishl dX12_reaches_34 ?_
      refine dr_iconst (1 : Int32) dX12_reaches_35 (by decide) ?_
      refine dr_aload_n l0 dX12_reaches_36 rfl ?_
      refine dr_iload l5 dX12_reaches_37 rfl ?_
      refine dr_iconst (1 : Int32) dX12_reaches_39 (by decide) ?_
      obtain ⟨_, hb12, h⟩ := dtBind h
      obtain ⟨x15, μ13, e14, h⟩ := dtCall h
      refine dr_callV_i (S0 := [.int (1 : Int32), .int ((1 : Int32) <<< (x11 &&& 31))]) [.int l5, .int (1 : Int32)] x15 μ13 dX12_reaches_40 (c_X12_doorOf l0 l5 (1 : Int32) μ9 e14) mf_X12_doorOf wt_1712 ws_93 wt_1710 rfl (dtRv hb12) (by decide) rfl (Nat.le_of_ble_eq_true rfl) (Nat.le_of_ble_eq_true rfl) rfl ?_
      refine dr_ishl dX12_reaches_43 ?_
      refine dr_ior dX12_reaches_44 ?_
      obtain ⟨x16, e17, h⟩ := dtBind h
      refine dr_nmi e17 ?_
      refine dr_istore [some (.ref l0), none, some (.int l2), some (.int l3), some (.int l4), some (.int l5), some (.int x16)] dX12_reaches_45 rfl rfl rfl ?_
      refine dr_aload_n l0 dX12_reaches_47 rfl ?_
      refine dr_iload_n l2 dX12_reaches_48 rfl ?_
      refine dr_iload l5 dX12_reaches_49 rfl ?_
      obtain ⟨_, hb18, h⟩ := dtBind h
      obtain ⟨x21, μ19, e20, h⟩ := dtCall h
      refine dr_callV_i (S0 := []) [.int l2, .int l5] x21 μ19 dX12_reaches_51 (c_X12_isIn l0 l2 l5 μ13 e20) mf_X12_isIn wt_1656 ws_82 wt_1654 rfl (dtRv hb18) (by decide) rfl (Nat.le_of_ble_eq_true rfl) (Nat.le_of_ble_eq_true rfl) rfl ?_
      obtain ⟨ht23, hf24⟩ := dtIte h
      refine dr_if_eq 69 dX12_reaches_54 (by decide) (fun hc22 => ?_) (fun hc22 => ?_)
      · have h := ht23 hc22
        refine dr_mask [true, false, true, true, true, true] [some (.ref l0), none, some (.int l2), some (.int l3), some (.int l4), some (.int l5)] rfl ?_
        exact c_X12_reaches_69 k5 (f_X12_reaches_15 k5 n) hk5 ih l0 l2 l3 l4 l5 μ19 h
      · have h := hf24 hc22
        refine dr_iload x16 dX12_reaches_57 rfl ?_
        refine dr_iload_n l3 dX12_reaches_59 rfl ?_
        refine dr_iand dX12_reaches_60 ?_
        obtain ⟨ht26, hf27⟩ := dtIte h
        refine dr_if_eq 69 dX12_reaches_61 (by decide) (fun hc25 => ?_) (fun hc25 => ?_)
        · have h := ht26 hc25
          refine dr_mask [true, false, true, true, true, true] [some (.ref l0), none, some (.int l2), some (.int l3), some (.int l4), some (.int l5)] rfl ?_
          exact c_X12_reaches_69 k5 (f_X12_reaches_15 k5 n) hk5 ih l0 l2 l3 l4 l5 μ19 h
        · have h := hf27 hc25
          refine dr_iload_n l3 dX12_reaches_64 rfl ?_
          refine dr_iload x16 dX12_reaches_65 rfl ?_
          refine dr_ior dX12_reaches_67 ?_
          obtain ⟨x28, e29, h⟩ := dtBind h
          refine dr_nmi e29 ?_
          refine dr_istore_n 3 [some (.ref l0), none, some (.int l2), some (.int x28), some (.int l4), some (.int l5), some (.int x16)] dX12_reaches_68 rfl rfl rfl rfl ?_
          refine dr_mask [true, false, true, true, true, true] [some (.ref l0), none, some (.int l2), some (.int x28), some (.int l4), some (.int l5)] rfl ?_
          exact c_X12_reaches_69 k5 (f_X12_reaches_15 k5 n) hk5 ih l0 l2 x28 l4 l5 μ19 h
set_option maxRecDepth 100000 in
theorem c_X12_reaches_5 {r : Int32} {F : dtM} : ∀ (n : Nat) (l0 : Nat) (l2 : Int32) (l3 : Int32) (l4 : Int32) (μ : dtM), f_X12_reaches_5 n l0 l2 l3 l4 μ = some (r, F) → dtW yX12_reaches cX12_reaches 7 (some .int) 3 (some (.int r)) F 5 [some (.ref l0), none, some (.int l2), some (.int l3), some (.int l4)] [] μ := by
  intro n
  induction n with
  | zero => intro l0 l2 l3 l4 μ h; cases h
  | succ n ih =>
    intro l0 l2 l3 l4 μ h
    have h := (show f_X12_reaches_5 (n + 1) l0 l2 l3 l4 μ = some _ from h)
    rw [f_X12_reaches_5] at h
    refine dr_iload l4 dX12_reaches_5 rfl ?_
    refine dr_bipush (7 : Int32) dX12_reaches_7 (by decide) ?_
    obtain ⟨ht2, hf3⟩ := dtIte h
    refine dr_icmp_ge 81 dX12_reaches_9 (by decide) (fun hc1 => ?_) (fun hc1 => ?_)
    · have h := ht2 hc1
      refine dr_iload_n l3 dX12_reaches_81 rfl ?_
      cases h
      exact dr_ireturn dX12_reaches_82 rfl
    · have h := hf3 hc1
      refine dr_iconst (0 : Int32) dX12_reaches_12 (by decide) ?_
      refine dr_istore [some (.ref l0), none, some (.int l2), some (.int l3), some (.int l4), some (.int (0 : Int32))] dX12_reaches_13 rfl rfl rfl ?_
      exact c_X12_reaches_15 (f_X12_reaches_5 n) ih dtFuel l0 l2 l3 l4 (0 : Int32) μ h
set_option maxRecDepth 100000 in
theorem c_X12_reaches {r : Int32} {F : dtM} (p0 : Nat) (p1 : Int32) (p2 : Int32) (μ : dtM) (h : f_X12_reaches p0 p1 p2 μ = some (r, F)) : dtMet yX12_reaches cX12_reaches 7 (some .int) 3 [.ref p0, .int p1, .int p2] μ (some (.int r)) F := by
  refine dtMet.of (by decide +kernel) (Nat.le_of_ble_eq_true rfl) (show dtW yX12_reaches cX12_reaches 7 (some .int) 3 (some (.int r)) F 0 [some (.ref p0), some (.int p1), some (.int p2)] [] μ from ?_)
  rw [f_X12_reaches] at h
  refine dr_iload_n p1 dX12_reaches_0 rfl ?_
  refine dr_istore_n 3 [some (.ref p0), some (.int p1), some (.int p2), some (.int p1)] dX12_reaches_1 rfl rfl rfl rfl ?_
  refine dr_iconst (0 : Int32) dX12_reaches_2 (by decide) ?_
  refine dr_istore [some (.ref p0), some (.int p1), some (.int p2), some (.int p1), some (.int (0 : Int32))] dX12_reaches_3 rfl rfl rfl ?_
  refine dr_mask [true, false, true, true, true] [some (.ref p0), none, some (.int p2), some (.int p1), some (.int (0 : Int32))] rfl ?_
  exact c_X12_reaches_5 dtFuel p0 p2 p1 (0 : Int32) μ h
/-! X12_isAt -/
theorem dX12_isAt_0 : decode cX12_isAt 0 = .ok (.aload_n 0, 1) := by decide +kernel
theorem dX12_isAt_1 : decode cX12_isAt 1 = .ok (.iload_n 1, 1) := by decide +kernel
theorem dX12_isAt_2 : decode cX12_isAt 2 = .ok (.aload_n 0, 1) := by decide +kernel
theorem dX12_isAt_3 : decode cX12_isAt 3 = .ok (.iload_n 2, 1) := by decide +kernel
theorem dX12_isAt_4 : decode cX12_isAt 4 = .ok (.iconst 0, 1) := by decide +kernel
theorem dX12_isAt_5 : decode cX12_isAt 5 = .ok (.invokevirtual 298, 3) := by decide +kernel
theorem dX12_isAt_8 : decode cX12_isAt 8 = .ok (.invokevirtual 241, 3) := by decide +kernel
theorem dX12_isAt_11 : decode cX12_isAt 11 = .ok (.ifCond .ne 17, 3) := by decide +kernel
theorem dX12_isAt_14 : decode cX12_isAt 14 = .ok (.aload_n 0, 1) := by decide +kernel
theorem dX12_isAt_15 : decode cX12_isAt 15 = .ok (.iload_n 1, 1) := by decide +kernel
theorem dX12_isAt_16 : decode cX12_isAt 16 = .ok (.aload_n 0, 1) := by decide +kernel
theorem dX12_isAt_17 : decode cX12_isAt 17 = .ok (.iload_n 2, 1) := by decide +kernel
theorem dX12_isAt_18 : decode cX12_isAt 18 = .ok (.iconst 1, 1) := by decide +kernel
theorem dX12_isAt_19 : decode cX12_isAt 19 = .ok (.invokevirtual 298, 3) := by decide +kernel
theorem dX12_isAt_22 : decode cX12_isAt 22 = .ok (.invokevirtual 241, 3) := by decide +kernel
theorem dX12_isAt_25 : decode cX12_isAt 25 = .ok (.ifCond .eq 7, 3) := by decide +kernel
theorem dX12_isAt_28 : decode cX12_isAt 28 = .ok (.iconst 1, 1) := by decide +kernel
theorem dX12_isAt_29 : decode cX12_isAt 29 = .ok (.goto 4, 3) := by decide +kernel
theorem dX12_isAt_32 : decode cX12_isAt 32 = .ok (.iconst 0, 1) := by decide +kernel
theorem dX12_isAt_33 : decode cX12_isAt 33 = .ok (.ireturn, 1) := by decide +kernel
set_option maxRecDepth 100000 in
def f_X12_isAt_33 (s0 : Int32) (μ : dtM) : Option (Int32 × dtM) :=
  opRet s0 μ
set_option maxRecDepth 100000 in
def f_X12_isAt_28  (μ : dtM) : Option (Int32 × dtM) :=
  f_X12_isAt_33 (1 : Int32) μ
set_option maxRecDepth 100000 in
def f_X12_isAt (p0 : Nat) (p1 : Int32) (p2 : Int32) (μ : dtM) : Option (Int32 × dtM) :=
  (opRv 12 μ p0).bind fun _ => opCall (f_X12_doorOf p0 p2 (0 : Int32) μ) fun x4 μ2 => (opRv 12 μ2 p0).bind fun _ => opCall (f_X12_isIn p0 p1 x4 μ2) fun x8 μ6 => if x8 = 0 then ((opRv 12 μ6 p0).bind fun _ => opCall (f_X12_doorOf p0 p2 (1 : Int32) μ6) fun x15 μ13 => (opRv 12 μ13 p0).bind fun _ => opCall (f_X12_isIn p0 p1 x15 μ13) fun x19 μ17 => if x19 = 0 then (f_X12_isAt_33 (0 : Int32) μ17) else (f_X12_isAt_28 μ17)) else (f_X12_isAt_28 μ6)
set_option maxRecDepth 100000 in
theorem c_X12_isAt_33 {r : Int32} {F : dtM} (s0 : Int32) (μ : dtM) (h : f_X12_isAt_33 s0 μ = some (r, F)) : dtW yX12_isAt cX12_isAt 3 (some .boolean) 3 (some (.int r)) F 33 [] [.int s0] μ := by
  rw [f_X12_isAt_33] at h
  obtain ⟨hz, rfl, rfl⟩ := dtRet h
  exact dr_ireturn dX12_isAt_33 (dtNz hz)
set_option maxRecDepth 100000 in
theorem c_X12_isAt_28 {r : Int32} {F : dtM}  (μ : dtM) (h : f_X12_isAt_28  μ = some (r, F)) : dtW yX12_isAt cX12_isAt 3 (some .boolean) 3 (some (.int r)) F 28 [] [] μ := by
  rw [f_X12_isAt_28] at h
  refine dr_iconst (1 : Int32) dX12_isAt_28 (by decide) ?_
  refine dr_goto 33 dX12_isAt_29 (by decide) ?_
  exact c_X12_isAt_33 (1 : Int32) μ h
set_option maxRecDepth 100000 in
theorem c_X12_isAt {r : Int32} {F : dtM} (p0 : Nat) (p1 : Int32) (p2 : Int32) (μ : dtM) (h : f_X12_isAt p0 p1 p2 μ = some (r, F)) : dtMet yX12_isAt cX12_isAt 3 (some .boolean) 3 [.ref p0, .int p1, .int p2] μ (some (.int r)) F := by
  refine dtMet.of (by decide +kernel) (Nat.le_of_ble_eq_true rfl) (show dtW yX12_isAt cX12_isAt 3 (some .boolean) 3 (some (.int r)) F 0 [some (.ref p0), some (.int p1), some (.int p2)] [] μ from ?_)
  rw [f_X12_isAt] at h
  refine dr_aload_n p0 dX12_isAt_0 rfl ?_
  refine dr_iload_n p1 dX12_isAt_1 rfl ?_
  refine dr_aload_n p0 dX12_isAt_2 rfl ?_
  refine dr_iload_n p2 dX12_isAt_3 rfl ?_
  refine dr_iconst (0 : Int32) dX12_isAt_4 (by decide) ?_
  obtain ⟨_, hb1, h⟩ := dtBind h
  obtain ⟨x4, μ2, e3, h⟩ := dtCall h
  refine dr_callV_i (S0 := [.int p1, .ref p0]) [.int p2, .int (0 : Int32)] x4 μ2 dX12_isAt_5 (c_X12_doorOf p0 p2 (0 : Int32) μ e3) mf_X12_doorOf wt_1712 ws_93 wt_1710 rfl (dtRv hb1) (by decide) rfl (Nat.le_of_ble_eq_true rfl) (Nat.le_of_ble_eq_true rfl) rfl ?_
  obtain ⟨_, hb5, h⟩ := dtBind h
  obtain ⟨x8, μ6, e7, h⟩ := dtCall h
  refine dr_callV_i (S0 := []) [.int p1, .int x4] x8 μ6 dX12_isAt_8 (c_X12_isIn p0 p1 x4 μ2 e7) mf_X12_isIn wt_1656 ws_82 wt_1654 rfl (dtRv hb5) (by decide) rfl (Nat.le_of_ble_eq_true rfl) (Nat.le_of_ble_eq_true rfl) rfl ?_
  obtain ⟨ht10, hf11⟩ := dtIte h
  refine dr_if_ne 28 dX12_isAt_11 (by decide) (fun hc9 => ?_) (fun hc9 => ?_)
  · have h := hf11 hc9
    refine dr_mask [] [] rfl ?_
    exact c_X12_isAt_28 μ6 h
  · have h := ht10 hc9
    refine dr_aload_n p0 dX12_isAt_14 rfl ?_
    refine dr_iload_n p1 dX12_isAt_15 rfl ?_
    refine dr_aload_n p0 dX12_isAt_16 rfl ?_
    refine dr_iload_n p2 dX12_isAt_17 rfl ?_
    refine dr_iconst (1 : Int32) dX12_isAt_18 (by decide) ?_
    obtain ⟨_, hb12, h⟩ := dtBind h
    obtain ⟨x15, μ13, e14, h⟩ := dtCall h
    refine dr_callV_i (S0 := [.int p1, .ref p0]) [.int p2, .int (1 : Int32)] x15 μ13 dX12_isAt_19 (c_X12_doorOf p0 p2 (1 : Int32) μ6 e14) mf_X12_doorOf wt_1712 ws_93 wt_1710 rfl (dtRv hb12) (by decide) rfl (Nat.le_of_ble_eq_true rfl) (Nat.le_of_ble_eq_true rfl) rfl ?_
    obtain ⟨_, hb16, h⟩ := dtBind h
    obtain ⟨x19, μ17, e18, h⟩ := dtCall h
    refine dr_callV_i (S0 := []) [.int p1, .int x15] x19 μ17 dX12_isAt_22 (c_X12_isIn p0 p1 x15 μ13 e18) mf_X12_isIn wt_1656 ws_82 wt_1654 rfl (dtRv hb16) (by decide) rfl (Nat.le_of_ble_eq_true rfl) (Nat.le_of_ble_eq_true rfl) rfl ?_
    obtain ⟨ht21, hf22⟩ := dtIte h
    refine dr_if_eq 32 dX12_isAt_25 (by decide) (fun hc20 => ?_) (fun hc20 => ?_)
    · have h := ht21 hc20
      refine dr_iconst (0 : Int32) dX12_isAt_32 (by decide) ?_
      refine dr_mask [] [] rfl ?_
      exact c_X12_isAt_33 (0 : Int32) μ17 h
    · have h := hf22 hc20
      refine dr_mask [] [] rfl ?_
      exact c_X12_isAt_28 μ17 h
/-! X12_secret -/
theorem dX12_secret_0 : decode cX12_secret 0 = .ok (.aload_n 0, 1) := by decide +kernel
theorem dX12_secret_1 : decode cX12_secret 1 = .ok (.iload_n 1, 1) := by decide +kernel
theorem dX12_secret_2 : decode cX12_secret 2 = .ok (.invokevirtual 307, 3) := by decide +kernel
theorem dX12_secret_5 : decode cX12_secret 5 = .ok (.ifCond .eq 42, 3) := by decide +kernel
theorem dX12_secret_8 : decode cX12_secret 8 = .ok (.aload_n 0, 1) := by decide +kernel
theorem dX12_secret_9 : decode cX12_secret 9 = .ok (.iload_n 2, 1) := by decide +kernel
theorem dX12_secret_10 : decode cX12_secret 10 = .ok (.invokevirtual 307, 3) := by decide +kernel
theorem dX12_secret_13 : decode cX12_secret 13 = .ok (.ifCond .eq 34, 3) := by decide +kernel
theorem dX12_secret_16 : decode cX12_secret 16 = .ok (.aload_n 0, 1) := by decide +kernel
theorem dX12_secret_17 : decode cX12_secret 17 = .ok (.iload_n 3, 1) := by decide +kernel
theorem dX12_secret_18 : decode cX12_secret 18 = .ok (.invokevirtual 307, 3) := by decide +kernel
theorem dX12_secret_21 : decode cX12_secret 21 = .ok (.ifCond .eq 26, 3) := by decide +kernel
theorem dX12_secret_24 : decode cX12_secret 24 = .ok (.iload 4, 2) := by decide +kernel
theorem dX12_secret_26 : decode cX12_secret 26 = .ok (.invokestatic 327, 3) := by decide +kernel
theorem dX12_secret_29 : decode cX12_secret 29 = .ok (.ifCond .eq 18, 3) := by decide +kernel
theorem dX12_secret_32 : decode cX12_secret 32 = .ok (.iload_n 1, 1) := by decide +kernel
theorem dX12_secret_33 : decode cX12_secret 33 = .ok (.iload_n 2, 1) := by decide +kernel
theorem dX12_secret_34 : decode cX12_secret 34 = .ok (.if_icmp .eq 13, 3) := by decide +kernel
theorem dX12_secret_37 : decode cX12_secret 37 = .ok (.iload_n 1, 1) := by decide +kernel
theorem dX12_secret_38 : decode cX12_secret 38 = .ok (.iload_n 3, 1) := by decide +kernel
theorem dX12_secret_39 : decode cX12_secret 39 = .ok (.if_icmp .eq 8, 3) := by decide +kernel
theorem dX12_secret_42 : decode cX12_secret 42 = .ok (.iload_n 2, 1) := by decide +kernel
theorem dX12_secret_43 : decode cX12_secret 43 = .ok (.iload_n 3, 1) := by decide +kernel
theorem dX12_secret_44 : decode cX12_secret 44 = .ok (.if_icmp .ne 9, 3) := by decide +kernel
theorem dX12_secret_47 : decode cX12_secret 47 = .ok (.aload_n 0, 1) := by decide +kernel
theorem dX12_secret_48 : decode cX12_secret 48 = .ok (.iconst 1, 1) := by decide +kernel
theorem dX12_secret_49 : decode cX12_secret 49 = .ok (.invokevirtual 93, 3) := by decide +kernel
theorem dX12_secret_52 : decode cX12_secret 52 = .ok (.ireturn, 1) := by decide +kernel
theorem dX12_secret_53 : decode cX12_secret 53 = .ok (.aload_n 0, 1) := by decide +kernel
theorem dX12_secret_54 : decode cX12_secret 54 = .ok (.iconst 1, 1) := by decide +kernel
theorem dX12_secret_55 : decode cX12_secret 55 = .ok (.aload_n 0, 1) := by decide +kernel
theorem dX12_secret_56 : decode cX12_secret 56 = .ok (.iload_n 1, 1) := by decide +kernel
theorem dX12_secret_57 : decode cX12_secret 57 = .ok (.iconst 0, 1) := by decide +kernel
theorem dX12_secret_58 : decode cX12_secret 58 = .ok (.invokevirtual 295, 3) := by decide +kernel
theorem dX12_secret_61 : decode cX12_secret 61 = .ok (.ishl, 1) := by decide +kernel
theorem dX12_secret_62 : decode cX12_secret 62 = .ok (.aload_n 0, 1) := by decide +kernel
theorem dX12_secret_63 : decode cX12_secret 63 = .ok (.getfield 7, 3) := by decide +kernel
theorem dX12_secret_66 : decode cX12_secret 66 = .ok (.iconst 5, 1) := by decide +kernel
theorem dX12_secret_67 : decode cX12_secret 67 = .ok (.iaload, 1) := by decide +kernel
theorem dX12_secret_68 : decode cX12_secret 68 = .ok (.invokevirtual 334, 3) := by decide +kernel
theorem dX12_secret_71 : decode cX12_secret 71 = .ok (.istore 5, 2) := by decide +kernel
theorem dX12_secret_73 : decode cX12_secret 73 = .ok (.iconst 0, 1) := by decide +kernel
theorem dX12_secret_74 : decode cX12_secret 74 = .ok (.istore 6, 2) := by decide +kernel
theorem dX12_secret_76 : decode cX12_secret 76 = .ok (.iload 6, 2) := by decide +kernel
theorem dX12_secret_78 : decode cX12_secret 78 = .ok (.aload_n 0, 1) := by decide +kernel
theorem dX12_secret_79 : decode cX12_secret 79 = .ok (.getfield 7, 3) := by decide +kernel
theorem dX12_secret_82 : decode cX12_secret 82 = .ok (.iconst 1, 1) := by decide +kernel
theorem dX12_secret_83 : decode cX12_secret 83 = .ok (.iaload, 1) := by decide +kernel
theorem dX12_secret_84 : decode cX12_secret 84 = .ok (.if_icmp .ge 70, 3) := by decide +kernel
theorem dX12_secret_87 : decode cX12_secret 87 = .ok (.aload_n 0, 1) := by decide +kernel
theorem dX12_secret_88 : decode cX12_secret 88 = .ok (.iload 6, 2) := by decide +kernel
theorem dX12_secret_90 : decode cX12_secret 90 = .ok (.invokevirtual 311, 3) := by decide +kernel
theorem dX12_secret_93 : decode cX12_secret 93 = .ok (.ifCond .eq 55, 3) := by decide +kernel
theorem dX12_secret_96 : decode cX12_secret 96 = .ok (.aload_n 0, 1) := by decide +kernel
theorem dX12_secret_97 : decode cX12_secret 97 = .ok (.iload 5, 2) := by decide +kernel
theorem dX12_secret_99 : decode cX12_secret 99 = .ok (.iload 6, 2) := by decide +kernel
theorem dX12_secret_101 : decode cX12_secret 101 = .ok (.invokevirtual 337, 3) := by decide +kernel
theorem dX12_secret_104 : decode cX12_secret 104 = .ok (.ifCond .ne 6, 3) := by decide +kernel
theorem dX12_secret_107 : decode cX12_secret 107 = .ok (.goto 41, 3) := by decide +kernel
theorem dX12_secret_110 : decode cX12_secret 110 = .ok (.aload_n 0, 1) := by decide +kernel
theorem dX12_secret_111 : decode cX12_secret 111 = .ok (.iload 6, 2) := by decide +kernel
theorem dX12_secret_113 : decode cX12_secret 113 = .ok (.iload 4, 2) := by decide +kernel
theorem dX12_secret_115 : decode cX12_secret 115 = .ok (.iload_n 1, 1) := by decide +kernel
theorem dX12_secret_116 : decode cX12_secret 116 = .ok (.invokevirtual 330, 3) := by decide +kernel
theorem dX12_secret_119 : decode cX12_secret 119 = .ok (.istore 7, 2) := by decide +kernel
theorem dX12_secret_121 : decode cX12_secret 121 = .ok (.aload_n 0, 1) := by decide +kernel
theorem dX12_secret_122 : decode cX12_secret 122 = .ok (.iload 7, 2) := by decide +kernel
theorem dX12_secret_124 : decode cX12_secret 124 = .ok (.iload_n 2, 1) := by decide +kernel
theorem dX12_secret_125 : decode cX12_secret 125 = .ok (.invokevirtual 241, 3) := by decide +kernel
theorem dX12_secret_128 : decode cX12_secret 128 = .ok (.ifCond .eq 20, 3) := by decide +kernel
theorem dX12_secret_131 : decode cX12_secret 131 = .ok (.aload_n 0, 1) := by decide +kernel
theorem dX12_secret_132 : decode cX12_secret 132 = .ok (.iload 7, 2) := by decide +kernel
theorem dX12_secret_134 : decode cX12_secret 134 = .ok (.iload_n 3, 1) := by decide +kernel
theorem dX12_secret_135 : decode cX12_secret 135 = .ok (.invokevirtual 241, 3) := by decide +kernel
theorem dX12_secret_138 : decode cX12_secret 138 = .ok (.ifCond .ne 10, 3) := by decide +kernel
theorem dX12_secret_141 : decode cX12_secret 141 = .ok (.aload_n 0, 1) := by decide +kernel
theorem dX12_secret_142 : decode cX12_secret 142 = .ok (.iload 6, 2) := by decide +kernel
theorem dX12_secret_144 : decode cX12_secret 144 = .ok (.invokevirtual 97, 3) := by decide +kernel
theorem dX12_secret_147 : decode cX12_secret 147 = .ok (.ireturn, 1) := by decide +kernel
theorem dX12_secret_148 : decode cX12_secret 148 = .ok (.iinc 6 1, 3) := by decide +kernel
theorem dX12_secret_151 : decode cX12_secret 151 = .ok (.goto (-75), 3) := by decide +kernel
theorem dX12_secret_154 : decode cX12_secret 154 = .ok (.aload_n 0, 1) := by decide +kernel
theorem dX12_secret_155 : decode cX12_secret 155 = .ok (.bipush 6, 2) := by decide +kernel
theorem dX12_secret_157 : decode cX12_secret 157 = .ok (.invokevirtual 93, 3) := by decide +kernel
theorem dX12_secret_160 : decode cX12_secret 160 = .ok (.ireturn, 1) := by decide +kernel
set_option maxRecDepth 100000 in
def f_X12_secret_47 (l0 : Nat) (μ : dtM) : Option (Int32 × dtM) :=
  (opRv 12 μ l0).bind fun _ => opCall (f_X12_refuse l0 (1 : Int32) μ) fun x4 μ2 => some (x4, μ2)
set_option maxRecDepth 100000 in
def f_X12_secret_148 (k76 : Nat → Int32 → Int32 → Int32 → Int32 → Int32 → Int32 → dtM → Option (Int32 × dtM)) (l0 : Nat) (l1 : Int32) (l2 : Int32) (l3 : Int32) (l4 : Int32) (l5 : Int32) (l6 : Int32) (μ : dtM) : Option (Int32 × dtM) :=
  k76 l0 l1 l2 l3 l4 l5 (l6 + 1) μ
set_option maxRecDepth 100000 in
def f_X12_secret_76 : Nat → Nat → Int32 → Int32 → Int32 → Int32 → Int32 → Int32 → dtM → Option (Int32 × dtM)
  | 0, _, _, _, _, _, _, _, _ => none
  | n + 1, l0, l1, l2, l3, l4, l5, l6, μ =>
    (opGR 12 0 μ l0).bind fun x1 => (opLI 1 μ x1 (1 : Int32)).bind fun x3 => if x3 ≤ l6 then ((opRv 12 μ l0).bind fun _ => opCall (f_X12_refuse l0 (6 : Int32) μ) fun x11 μ9 => some (x11, μ9)) else ((opRv 12 μ l0).bind fun _ => opCall (f_X12_isOpen l0 l6 μ) fun x15 μ13 => if x15 = 0 then (f_X12_secret_148 (f_X12_secret_76 n) l0 l1 l2 l3 l4 l5 l6 μ13) else ((opRv 12 μ13 l0).bind fun _ => opCall (f_X12_isAt l0 l5 l6 μ13) fun x22 μ20 => if x22 = 0 then (f_X12_secret_148 (f_X12_secret_76 n) l0 l1 l2 l3 l4 l5 l6 μ20) else ((opRv 12 μ20 l0).bind fun _ => opCall (f_X12_hearing l0 l6 l4 l1 μ20) fun x29 μ27 => (opRv 12 μ27 l0).bind fun _ => opCall (f_X12_isIn l0 x29 l2 μ27) fun x33 μ31 => if x33 = 0 then (f_X12_secret_148 (f_X12_secret_76 n) l0 l1 l2 l3 l4 l5 l6 μ31) else ((opRv 12 μ31 l0).bind fun _ => opCall (f_X12_isIn l0 x29 l3 μ31) fun x40 μ38 => if x40 = 0 then ((opRv 12 μ38 l0).bind fun _ => opCall (f_X12_gives l0 l6 μ38) fun x47 μ45 => some (x47, μ45)) else (f_X12_secret_148 (f_X12_secret_76 n) l0 l1 l2 l3 l4 l5 l6 μ38)))))
set_option maxRecDepth 100000 in
def f_X12_secret (p0 : Nat) (p1 : Int32) (p2 : Int32) (p3 : Int32) (p4 : Int32) (μ : dtM) : Option (Int32 × dtM) :=
  (opRv 12 μ p0).bind fun _ => opCall (f_X12_isPerson p0 p1 μ) fun x4 μ2 => if x4 = 0 then (f_X12_secret_47 p0 μ2) else ((opRv 12 μ2 p0).bind fun _ => opCall (f_X12_isPerson p0 p2 μ2) fun x11 μ9 => if x11 = 0 then (f_X12_secret_47 p0 μ9) else ((opRv 12 μ9 p0).bind fun _ => opCall (f_X12_isPerson p0 p3 μ9) fun x18 μ16 => if x18 = 0 then (f_X12_secret_47 p0 μ16) else (opCall (f_X12_isNoise p4 μ16) fun x24 μ22 => if x24 = 0 then (f_X12_secret_47 p0 μ22) else (if p1 = p2 then (f_X12_secret_47 p0 μ22) else (if p1 = p3 then (f_X12_secret_47 p0 μ22) else (if p2 = p3 then (f_X12_secret_47 p0 μ22) else ((opRv 12 μ22 p0).bind fun _ => opCall (f_X12_personOf p0 p1 (0 : Int32) μ22) fun x40 μ38 => (opGR 12 0 μ38 p0).bind fun x41 => (opLI 1 μ38 x41 (5 : Int32)).bind fun x43 => (opRv 12 μ38 p0).bind fun _ => opCall (f_X12_reaches p0 ((1 : Int32) <<< (x40 &&& 31)) x43 μ38) fun x48 μ46 => f_X12_secret_76 dtFuel p0 p1 p2 p3 p4 x48 (0 : Int32) μ46)))))))
set_option maxRecDepth 100000 in
theorem c_X12_secret_47 {r : Int32} {F : dtM} (l0 : Nat) (μ : dtM) (h : f_X12_secret_47 l0 μ = some (r, F)) : dtW yX12_secret cX12_secret 8 (some .int) 5 (some (.int r)) F 47 [some (.ref l0)] [] μ := by
  rw [f_X12_secret_47] at h
  refine dr_aload_n l0 dX12_secret_47 rfl ?_
  refine dr_iconst (1 : Int32) dX12_secret_48 (by decide) ?_
  obtain ⟨_, hb1, h⟩ := dtBind h
  obtain ⟨x4, μ2, e3, h⟩ := dtCall h
  refine dr_callV_i (S0 := []) [.int (1 : Int32)] x4 μ2 dX12_secret_49 (c_X12_refuse l0 (1 : Int32) μ e3) mf_X12_refuse wt_1552 ws_59 wt_1550 rfl (dtRv hb1) (by decide) rfl (Nat.le_of_ble_eq_true rfl) (Nat.le_of_ble_eq_true rfl) rfl ?_
  cases h
  exact dr_ireturn dX12_secret_52 rfl
set_option maxRecDepth 100000 in
theorem c_X12_secret_148 {r : Int32} {F : dtM} (k76 : Nat → Int32 → Int32 → Int32 → Int32 → Int32 → Int32 → dtM → Option (Int32 × dtM)) (hk76 : ∀ (l0 : Nat) (l1 : Int32) (l2 : Int32) (l3 : Int32) (l4 : Int32) (l5 : Int32) (l6 : Int32) (μ : dtM), k76 l0 l1 l2 l3 l4 l5 l6 μ = some (r, F) → dtW yX12_secret cX12_secret 8 (some .int) 5 (some (.int r)) F 76 [some (.ref l0), some (.int l1), some (.int l2), some (.int l3), some (.int l4), some (.int l5), some (.int l6)] [] μ) (l0 : Nat) (l1 : Int32) (l2 : Int32) (l3 : Int32) (l4 : Int32) (l5 : Int32) (l6 : Int32) (μ : dtM) (h : f_X12_secret_148 k76 l0 l1 l2 l3 l4 l5 l6 μ = some (r, F)) : dtW yX12_secret cX12_secret 8 (some .int) 5 (some (.int r)) F 148 [some (.ref l0), some (.int l1), some (.int l2), some (.int l3), some (.int l4), some (.int l5), some (.int l6)] [] μ := by
  rw [f_X12_secret_148] at h
  refine dr_iinc l6 (l6 + 1) [some (.ref l0), some (.int l1), some (.int l2), some (.int l3), some (.int l4), some (.int l5), some (.int (l6 + 1))] dX12_secret_148 rfl rfl rfl rfl rfl ?_
  refine dr_goto 76 dX12_secret_151 (by decide) ?_
  exact hk76 l0 l1 l2 l3 l4 l5 (l6 + 1) μ h
set_option maxRecDepth 100000 in
theorem c_X12_secret_76 {r : Int32} {F : dtM} : ∀ (n : Nat) (l0 : Nat) (l1 : Int32) (l2 : Int32) (l3 : Int32) (l4 : Int32) (l5 : Int32) (l6 : Int32) (μ : dtM), f_X12_secret_76 n l0 l1 l2 l3 l4 l5 l6 μ = some (r, F) → dtW yX12_secret cX12_secret 8 (some .int) 5 (some (.int r)) F 76 [some (.ref l0), some (.int l1), some (.int l2), some (.int l3), some (.int l4), some (.int l5), some (.int l6)] [] μ := by
  intro n
  induction n with
  | zero => intro l0 l1 l2 l3 l4 l5 l6 μ h; cases h
  | succ n ih =>
    intro l0 l1 l2 l3 l4 l5 l6 μ h
    have h := (show f_X12_secret_76 (n + 1) l0 l1 l2 l3 l4 l5 l6 μ = some _ from h)
    rw [f_X12_secret_76] at h
    refine dr_iload l6 dX12_secret_76 rfl ?_
    refine dr_aload_n l0 dX12_secret_78 rfl ?_
    obtain ⟨x1, e2, h⟩ := dtBind h
    refine dr_getR x1 dX12_secret_79 fl_RX12_7 e2 ?_
    refine dr_iconst (1 : Int32) dX12_secret_82 (by decide) ?_
    obtain ⟨x3, e4, h⟩ := dtBind h
    refine dr_iaload x3 dX12_secret_83 e4 ?_
    obtain ⟨ht6, hf7⟩ := dtIte h
    refine dr_icmp_ge 154 dX12_secret_84 (by decide) (fun hc5 => ?_) (fun hc5 => ?_)
    · have h := ht6 hc5
      refine dr_aload_n l0 dX12_secret_154 rfl ?_
      refine dr_bipush (6 : Int32) dX12_secret_155 (by decide) ?_
      obtain ⟨_, hb8, h⟩ := dtBind h
      obtain ⟨x11, μ9, e10, h⟩ := dtCall h
      refine dr_callV_i (S0 := []) [.int (6 : Int32)] x11 μ9 dX12_secret_157 (c_X12_refuse l0 (6 : Int32) μ e10) mf_X12_refuse wt_1552 ws_59 wt_1550 rfl (dtRv hb8) (by decide) rfl (Nat.le_of_ble_eq_true rfl) (Nat.le_of_ble_eq_true rfl) rfl ?_
      cases h
      exact dr_ireturn dX12_secret_160 rfl
    · have h := hf7 hc5
      refine dr_aload_n l0 dX12_secret_87 rfl ?_
      refine dr_iload l6 dX12_secret_88 rfl ?_
      obtain ⟨_, hb12, h⟩ := dtBind h
      obtain ⟨x15, μ13, e14, h⟩ := dtCall h
      refine dr_callV_i (S0 := []) [.int l6] x15 μ13 dX12_secret_90 (c_X12_isOpen l0 l6 μ e14) mf_X12_isOpen wt_1757 ws_99 wt_1755 rfl (dtRv hb12) (by decide) rfl (Nat.le_of_ble_eq_true rfl) (Nat.le_of_ble_eq_true rfl) rfl ?_
      obtain ⟨ht17, hf18⟩ := dtIte h
      refine dr_if_eq 148 dX12_secret_93 (by decide) (fun hc16 => ?_) (fun hc16 => ?_)
      · have h := ht17 hc16
        exact c_X12_secret_148 (f_X12_secret_76 n) ih l0 l1 l2 l3 l4 l5 l6 μ13 h
      · have h := hf18 hc16
        refine dr_aload_n l0 dX12_secret_96 rfl ?_
        refine dr_iload l5 dX12_secret_97 rfl ?_
        refine dr_iload l6 dX12_secret_99 rfl ?_
        obtain ⟨_, hb19, h⟩ := dtBind h
        obtain ⟨x22, μ20, e21, h⟩ := dtCall h
        refine dr_callV_i (S0 := []) [.int l5, .int l6] x22 μ20 dX12_secret_101 (c_X12_isAt l0 l5 l6 μ13 e21) mf_X12_isAt wt_1795 ws_103 wt_1793 rfl (dtRv hb19) (by decide) rfl (Nat.le_of_ble_eq_true rfl) (Nat.le_of_ble_eq_true rfl) rfl ?_
        obtain ⟨ht24, hf25⟩ := dtIte h
        refine dr_if_ne 110 dX12_secret_104 (by decide) (fun hc23 => ?_) (fun hc23 => ?_)
        · have h := hf25 hc23
          refine dr_aload_n l0 dX12_secret_110 rfl ?_
          refine dr_iload l6 dX12_secret_111 rfl ?_
          refine dr_iload l4 dX12_secret_113 rfl ?_
          refine dr_iload_n l1 dX12_secret_115 rfl ?_
          obtain ⟨_, hb26, h⟩ := dtBind h
          obtain ⟨x29, μ27, e28, h⟩ := dtCall h
          refine dr_callV_i (S0 := []) [.int l6, .int l4, .int l1] x29 μ27 dX12_secret_116 (c_X12_hearing l0 l6 l4 l1 μ20 e28) mf_X12_hearing wt_1768 ws_100 wt_1766 rfl (dtRv hb26) (by decide) rfl (Nat.le_of_ble_eq_true rfl) (Nat.le_of_ble_eq_true rfl) rfl ?_
          refine dr_istore [some (.ref l0), some (.int l1), some (.int l2), some (.int l3), some (.int l4), some (.int l5), some (.int l6), some (.int x29)] dX12_secret_119 rfl rfl rfl ?_
          refine dr_aload_n l0 dX12_secret_121 rfl ?_
          refine dr_iload x29 dX12_secret_122 rfl ?_
          refine dr_iload_n l2 dX12_secret_124 rfl ?_
          obtain ⟨_, hb30, h⟩ := dtBind h
          obtain ⟨x33, μ31, e32, h⟩ := dtCall h
          refine dr_callV_i (S0 := []) [.int x29, .int l2] x33 μ31 dX12_secret_125 (c_X12_isIn l0 x29 l2 μ27 e32) mf_X12_isIn wt_1656 ws_82 wt_1654 rfl (dtRv hb30) (by decide) rfl (Nat.le_of_ble_eq_true rfl) (Nat.le_of_ble_eq_true rfl) rfl ?_
          obtain ⟨ht35, hf36⟩ := dtIte h
          refine dr_if_eq 148 dX12_secret_128 (by decide) (fun hc34 => ?_) (fun hc34 => ?_)
          · have h := ht35 hc34
            refine dr_mask [true, true, true, true, true, true, true] [some (.ref l0), some (.int l1), some (.int l2), some (.int l3), some (.int l4), some (.int l5), some (.int l6)] rfl ?_
            exact c_X12_secret_148 (f_X12_secret_76 n) ih l0 l1 l2 l3 l4 l5 l6 μ31 h
          · have h := hf36 hc34
            refine dr_aload_n l0 dX12_secret_131 rfl ?_
            refine dr_iload x29 dX12_secret_132 rfl ?_
            refine dr_iload_n l3 dX12_secret_134 rfl ?_
            obtain ⟨_, hb37, h⟩ := dtBind h
            obtain ⟨x40, μ38, e39, h⟩ := dtCall h
            refine dr_callV_i (S0 := []) [.int x29, .int l3] x40 μ38 dX12_secret_135 (c_X12_isIn l0 x29 l3 μ31 e39) mf_X12_isIn wt_1656 ws_82 wt_1654 rfl (dtRv hb37) (by decide) rfl (Nat.le_of_ble_eq_true rfl) (Nat.le_of_ble_eq_true rfl) rfl ?_
            obtain ⟨ht42, hf43⟩ := dtIte h
            refine dr_if_ne 148 dX12_secret_138 (by decide) (fun hc41 => ?_) (fun hc41 => ?_)
            · have h := hf43 hc41
              refine dr_mask [true, true, true, true, true, true, true] [some (.ref l0), some (.int l1), some (.int l2), some (.int l3), some (.int l4), some (.int l5), some (.int l6)] rfl ?_
              exact c_X12_secret_148 (f_X12_secret_76 n) ih l0 l1 l2 l3 l4 l5 l6 μ38 h
            · have h := ht42 hc41
              refine dr_aload_n l0 dX12_secret_141 rfl ?_
              refine dr_iload l6 dX12_secret_142 rfl ?_
              obtain ⟨_, hb44, h⟩ := dtBind h
              obtain ⟨x47, μ45, e46, h⟩ := dtCall h
              refine dr_callV_i (S0 := []) [.int l6] x47 μ45 dX12_secret_144 (c_X12_gives l0 l6 μ38 e46) mf_X12_gives wt_1668 ws_85 wt_1666 rfl (dtRv hb44) (by decide) rfl (Nat.le_of_ble_eq_true rfl) (Nat.le_of_ble_eq_true rfl) rfl ?_
              cases h
              exact dr_ireturn dX12_secret_147 rfl
        · have h := ht24 hc23
          refine dr_goto 148 dX12_secret_107 (by decide) ?_
          exact c_X12_secret_148 (f_X12_secret_76 n) ih l0 l1 l2 l3 l4 l5 l6 μ20 h
set_option maxRecDepth 100000 in
theorem c_X12_secret {r : Int32} {F : dtM} (p0 : Nat) (p1 : Int32) (p2 : Int32) (p3 : Int32) (p4 : Int32) (μ : dtM) (h : f_X12_secret p0 p1 p2 p3 p4 μ = some (r, F)) : dtMet yX12_secret cX12_secret 8 (some .int) 5 [.ref p0, .int p1, .int p2, .int p3, .int p4] μ (some (.int r)) F := by
  refine dtMet.of (by decide +kernel) (Nat.le_of_ble_eq_true rfl) (show dtW yX12_secret cX12_secret 8 (some .int) 5 (some (.int r)) F 0 [some (.ref p0), some (.int p1), some (.int p2), some (.int p3), some (.int p4)] [] μ from ?_)
  rw [f_X12_secret] at h
  refine dr_aload_n p0 dX12_secret_0 rfl ?_
  refine dr_iload_n p1 dX12_secret_1 rfl ?_
  obtain ⟨_, hb1, h⟩ := dtBind h
  obtain ⟨x4, μ2, e3, h⟩ := dtCall h
  refine dr_callV_i (S0 := []) [.int p1] x4 μ2 dX12_secret_2 (c_X12_isPerson p0 p1 μ e3) mf_X12_isPerson wt_1732 ws_95 wt_1730 rfl (dtRv hb1) (by decide) rfl (Nat.le_of_ble_eq_true rfl) (Nat.le_of_ble_eq_true rfl) rfl ?_
  obtain ⟨ht6, hf7⟩ := dtIte h
  refine dr_if_eq 47 dX12_secret_5 (by decide) (fun hc5 => ?_) (fun hc5 => ?_)
  · have h := ht6 hc5
    refine dr_mask [true] [some (.ref p0)] rfl ?_
    exact c_X12_secret_47 p0 μ2 h
  · have h := hf7 hc5
    refine dr_aload_n p0 dX12_secret_8 rfl ?_
    refine dr_iload_n p2 dX12_secret_9 rfl ?_
    obtain ⟨_, hb8, h⟩ := dtBind h
    obtain ⟨x11, μ9, e10, h⟩ := dtCall h
    refine dr_callV_i (S0 := []) [.int p2] x11 μ9 dX12_secret_10 (c_X12_isPerson p0 p2 μ2 e10) mf_X12_isPerson wt_1732 ws_95 wt_1730 rfl (dtRv hb8) (by decide) rfl (Nat.le_of_ble_eq_true rfl) (Nat.le_of_ble_eq_true rfl) rfl ?_
    obtain ⟨ht13, hf14⟩ := dtIte h
    refine dr_if_eq 47 dX12_secret_13 (by decide) (fun hc12 => ?_) (fun hc12 => ?_)
    · have h := ht13 hc12
      refine dr_mask [true] [some (.ref p0)] rfl ?_
      exact c_X12_secret_47 p0 μ9 h
    · have h := hf14 hc12
      refine dr_aload_n p0 dX12_secret_16 rfl ?_
      refine dr_iload_n p3 dX12_secret_17 rfl ?_
      obtain ⟨_, hb15, h⟩ := dtBind h
      obtain ⟨x18, μ16, e17, h⟩ := dtCall h
      refine dr_callV_i (S0 := []) [.int p3] x18 μ16 dX12_secret_18 (c_X12_isPerson p0 p3 μ9 e17) mf_X12_isPerson wt_1732 ws_95 wt_1730 rfl (dtRv hb15) (by decide) rfl (Nat.le_of_ble_eq_true rfl) (Nat.le_of_ble_eq_true rfl) rfl ?_
      obtain ⟨ht20, hf21⟩ := dtIte h
      refine dr_if_eq 47 dX12_secret_21 (by decide) (fun hc19 => ?_) (fun hc19 => ?_)
      · have h := ht20 hc19
        refine dr_mask [true] [some (.ref p0)] rfl ?_
        exact c_X12_secret_47 p0 μ16 h
      · have h := hf21 hc19
        refine dr_iload p4 dX12_secret_24 rfl ?_
        obtain ⟨x24, μ22, e23, h⟩ := dtCall h
        refine dr_callS_i (S0 := []) [.int p4] x24 μ22 dX12_secret_26 (c_X12_isNoise p4 μ16 e23) mf_X12_isNoise wt_1764 wt_1763 rfl (Nat.le_of_ble_eq_true rfl) (Nat.le_of_ble_eq_true rfl) rfl ?_
        obtain ⟨ht26, hf27⟩ := dtIte h
        refine dr_if_eq 47 dX12_secret_29 (by decide) (fun hc25 => ?_) (fun hc25 => ?_)
        · have h := ht26 hc25
          refine dr_mask [true] [some (.ref p0)] rfl ?_
          exact c_X12_secret_47 p0 μ22 h
        · have h := hf27 hc25
          refine dr_iload_n p1 dX12_secret_32 rfl ?_
          refine dr_iload_n p2 dX12_secret_33 rfl ?_
          obtain ⟨ht29, hf30⟩ := dtIte h
          refine dr_icmp_eq 47 dX12_secret_34 (by decide) (fun hc28 => ?_) (fun hc28 => ?_)
          · have h := ht29 hc28
            refine dr_mask [true] [some (.ref p0)] rfl ?_
            exact c_X12_secret_47 p0 μ22 h
          · have h := hf30 hc28
            refine dr_iload_n p1 dX12_secret_37 rfl ?_
            refine dr_iload_n p3 dX12_secret_38 rfl ?_
            obtain ⟨ht32, hf33⟩ := dtIte h
            refine dr_icmp_eq 47 dX12_secret_39 (by decide) (fun hc31 => ?_) (fun hc31 => ?_)
            · have h := ht32 hc31
              refine dr_mask [true] [some (.ref p0)] rfl ?_
              exact c_X12_secret_47 p0 μ22 h
            · have h := hf33 hc31
              refine dr_iload_n p2 dX12_secret_42 rfl ?_
              refine dr_iload_n p3 dX12_secret_43 rfl ?_
              obtain ⟨ht35, hf36⟩ := dtIte h
              refine dr_icmp_ne 53 dX12_secret_44 (by decide) (fun hc34 => ?_) (fun hc34 => ?_)
              · have h := hf36 hc34
                refine dr_aload_n p0 dX12_secret_53 rfl ?_
                refine dr_iconst (1 : Int32) dX12_secret_54 (by decide) ?_
                refine dr_aload_n p0 dX12_secret_55 rfl ?_
                refine dr_iload_n p1 dX12_secret_56 rfl ?_
                refine dr_iconst (0 : Int32) dX12_secret_57 (by decide) ?_
                obtain ⟨_, hb37, h⟩ := dtBind h
                obtain ⟨x40, μ38, e39, h⟩ := dtCall h
                refine dr_callV_i (S0 := [.int (1 : Int32), .ref p0]) [.int p1, .int (0 : Int32)] x40 μ38 dX12_secret_58 (c_X12_personOf p0 p1 (0 : Int32) μ22 e39) mf_X12_personOf wt_1736 ws_96 wt_1734 rfl (dtRv hb37) (by decide) rfl (Nat.le_of_ble_eq_true rfl) (Nat.le_of_ble_eq_true rfl) rfl ?_
                refine dr_ishl dX12_secret_61 ?_
                refine dr_aload_n p0 dX12_secret_62 rfl ?_
                obtain ⟨x41, e42, h⟩ := dtBind h
                refine dr_getR x41 dX12_secret_63 fl_RX12_7 e42 ?_
                refine dr_iconst (5 : Int32) dX12_secret_66 (by decide) ?_
                obtain ⟨x43, e44, h⟩ := dtBind h
                refine dr_iaload x43 dX12_secret_67 e44 ?_
                obtain ⟨_, hb45, h⟩ := dtBind h
                obtain ⟨x48, μ46, e47, h⟩ := dtCall h
                refine dr_callV_i (S0 := []) [.int ((1 : Int32) <<< (x40 &&& 31)), .int x43] x48 μ46 dX12_secret_68 (c_X12_reaches p0 ((1 : Int32) <<< (x40 &&& 31)) x43 μ38 e47) mf_X12_reaches wt_1791 ws_102 wt_1789 rfl (dtRv hb45) (by decide) rfl (Nat.le_of_ble_eq_true rfl) (Nat.le_of_ble_eq_true rfl) rfl ?_
                refine dr_istore [some (.ref p0), some (.int p1), some (.int p2), some (.int p3), some (.int p4), some (.int x48)] dX12_secret_71 rfl rfl rfl ?_
                refine dr_iconst (0 : Int32) dX12_secret_73 (by decide) ?_
                refine dr_istore [some (.ref p0), some (.int p1), some (.int p2), some (.int p3), some (.int p4), some (.int x48), some (.int (0 : Int32))] dX12_secret_74 rfl rfl rfl ?_
                exact c_X12_secret_76 dtFuel p0 p1 p2 p3 p4 x48 (0 : Int32) μ46 h
              · have h := ht35 hc34
                refine dr_mask [true] [some (.ref p0)] rfl ?_
                exact c_X12_secret_47 p0 μ22 h
/-! X12_keepsSound -/
theorem dX12_keepsSound_0 : decode cX12_keepsSound 0 = .ok (.iload_n 1, 1) := by decide +kernel
theorem dX12_keepsSound_1 : decode cX12_keepsSound 1 = .ok (.invokestatic 238, 3) := by decide +kernel
theorem dX12_keepsSound_4 : decode cX12_keepsSound 4 = .ok (.istore_n 3, 1) := by decide +kernel
theorem dX12_keepsSound_5 : decode cX12_keepsSound 5 = .ok (.aload_n 0, 1) := by decide +kernel
theorem dX12_keepsSound_6 : decode cX12_keepsSound 6 = .ok (.getfield 7, 3) := by decide +kernel
theorem dX12_keepsSound_9 : decode cX12_keepsSound 9 = .ok (.iload_n 3, 1) := by decide +kernel
theorem dX12_keepsSound_10 : decode cX12_keepsSound 10 = .ok (.iconst 3, 1) := by decide +kernel
theorem dX12_keepsSound_11 : decode cX12_keepsSound 11 = .ok (.iadd, 1) := by decide +kernel
theorem dX12_keepsSound_12 : decode cX12_keepsSound 12 = .ok (.iaload, 1) := by decide +kernel
theorem dX12_keepsSound_13 : decode cX12_keepsSound 13 = .ok (.bipush 8, 2) := by decide +kernel
theorem dX12_keepsSound_15 : decode cX12_keepsSound 15 = .ok (.if_icmp .ne 55, 3) := by decide +kernel
theorem dX12_keepsSound_18 : decode cX12_keepsSound 18 = .ok (.iconst 1, 1) := by decide +kernel
theorem dX12_keepsSound_19 : decode cX12_keepsSound 19 = .ok (.istore 4, 2) := by decide +kernel
theorem dX12_keepsSound_21 : decode cX12_keepsSound 21 = .ok (.iload 4, 2) := by decide +kernel
theorem dX12_keepsSound_23 : decode cX12_keepsSound 23 = .ok (.bipush 8, 2) := by decide +kernel
theorem dX12_keepsSound_25 : decode cX12_keepsSound 25 = .ok (.if_icmp .ge 33, 3) := by decide +kernel
theorem dX12_keepsSound_28 : decode cX12_keepsSound 28 = .ok (.aload_n 0, 1) := by decide +kernel
theorem dX12_keepsSound_29 : decode cX12_keepsSound 29 = .ok (.getfield 7, 3) := by decide +kernel
theorem dX12_keepsSound_32 : decode cX12_keepsSound 32 = .ok (.iload_n 3, 1) := by decide +kernel
theorem dX12_keepsSound_33 : decode cX12_keepsSound 33 = .ok (.iconst 4, 1) := by decide +kernel
theorem dX12_keepsSound_34 : decode cX12_keepsSound 34 = .ok (.iadd, 1) := by decide +kernel
theorem dX12_keepsSound_35 : decode cX12_keepsSound 35 = .ok (.iload 4, 2) := by decide +kernel
theorem dX12_keepsSound_37 : decode cX12_keepsSound 37 = .ok (.iadd, 1) := by decide +kernel
theorem dX12_keepsSound_38 : decode cX12_keepsSound 38 = .ok (.iconst 1, 1) := by decide +kernel
theorem dX12_keepsSound_39 : decode cX12_keepsSound 39 = .ok (.isub, 1) := by decide +kernel
theorem dX12_keepsSound_40 : decode cX12_keepsSound 40 = .ok (.aload_n 0, 1) := by decide +kernel
theorem dX12_keepsSound_41 : decode cX12_keepsSound 41 = .ok (.getfield 7, 3) := by decide +kernel
theorem dX12_keepsSound_44 : decode cX12_keepsSound 44 = .ok (.iload_n 3, 1) := by decide +kernel
theorem dX12_keepsSound_45 : decode cX12_keepsSound 45 = .ok (.iconst 4, 1) := by decide +kernel
theorem dX12_keepsSound_46 : decode cX12_keepsSound 46 = .ok (.iadd, 1) := by decide +kernel
theorem dX12_keepsSound_47 : decode cX12_keepsSound 47 = .ok (.iload 4, 2) := by decide +kernel
theorem dX12_keepsSound_49 : decode cX12_keepsSound 49 = .ok (.iadd, 1) := by decide +kernel
theorem dX12_keepsSound_50 : decode cX12_keepsSound 50 = .ok (.iaload, 1) := by decide +kernel
theorem dX12_keepsSound_51 : decode cX12_keepsSound 51 = .ok (.iastore, 1) := by decide +kernel
theorem dX12_keepsSound_52 : decode cX12_keepsSound 52 = .ok (.iinc 4 1, 3) := by decide +kernel
theorem dX12_keepsSound_55 : decode cX12_keepsSound 55 = .ok (.goto (-34), 3) := by decide +kernel
theorem dX12_keepsSound_58 : decode cX12_keepsSound 58 = .ok (.aload_n 0, 1) := by decide +kernel
theorem dX12_keepsSound_59 : decode cX12_keepsSound 59 = .ok (.getfield 7, 3) := by decide +kernel
theorem dX12_keepsSound_62 : decode cX12_keepsSound 62 = .ok (.iload_n 3, 1) := by decide +kernel
theorem dX12_keepsSound_63 : decode cX12_keepsSound 63 = .ok (.iconst 3, 1) := by decide +kernel
theorem dX12_keepsSound_64 : decode cX12_keepsSound 64 = .ok (.iadd, 1) := by decide +kernel
theorem dX12_keepsSound_65 : decode cX12_keepsSound 65 = .ok (.dup2, 1) := by decide +kernel
theorem dX12_keepsSound_66 : decode cX12_keepsSound 66 = .ok (.iaload, 1) := by decide +kernel
theorem dX12_keepsSound_67 : decode cX12_keepsSound 67 = .ok (.iconst 1, 1) := by decide +kernel
theorem dX12_keepsSound_68 : decode cX12_keepsSound 68 = .ok (.isub, 1) := by decide +kernel
theorem dX12_keepsSound_69 : decode cX12_keepsSound 69 = .ok (.iastore, 1) := by decide +kernel
theorem dX12_keepsSound_70 : decode cX12_keepsSound 70 = .ok (.aload_n 0, 1) := by decide +kernel
theorem dX12_keepsSound_71 : decode cX12_keepsSound 71 = .ok (.getfield 7, 3) := by decide +kernel
theorem dX12_keepsSound_74 : decode cX12_keepsSound 74 = .ok (.iload_n 3, 1) := by decide +kernel
theorem dX12_keepsSound_75 : decode cX12_keepsSound 75 = .ok (.iconst 4, 1) := by decide +kernel
theorem dX12_keepsSound_76 : decode cX12_keepsSound 76 = .ok (.iadd, 1) := by decide +kernel
theorem dX12_keepsSound_77 : decode cX12_keepsSound 77 = .ok (.aload_n 0, 1) := by decide +kernel
theorem dX12_keepsSound_78 : decode cX12_keepsSound 78 = .ok (.getfield 7, 3) := by decide +kernel
theorem dX12_keepsSound_81 : decode cX12_keepsSound 81 = .ok (.iload_n 3, 1) := by decide +kernel
theorem dX12_keepsSound_82 : decode cX12_keepsSound 82 = .ok (.iconst 3, 1) := by decide +kernel
theorem dX12_keepsSound_83 : decode cX12_keepsSound 83 = .ok (.iadd, 1) := by decide +kernel
theorem dX12_keepsSound_84 : decode cX12_keepsSound 84 = .ok (.iaload, 1) := by decide +kernel
theorem dX12_keepsSound_85 : decode cX12_keepsSound 85 = .ok (.iadd, 1) := by decide +kernel
theorem dX12_keepsSound_86 : decode cX12_keepsSound 86 = .ok (.iload_n 2, 1) := by decide +kernel
theorem dX12_keepsSound_87 : decode cX12_keepsSound 87 = .ok (.iastore, 1) := by decide +kernel
theorem dX12_keepsSound_88 : decode cX12_keepsSound 88 = .ok (.aload_n 0, 1) := by decide +kernel
theorem dX12_keepsSound_89 : decode cX12_keepsSound 89 = .ok (.getfield 7, 3) := by decide +kernel
theorem dX12_keepsSound_92 : decode cX12_keepsSound 92 = .ok (.iload_n 3, 1) := by decide +kernel
theorem dX12_keepsSound_93 : decode cX12_keepsSound 93 = .ok (.iconst 3, 1) := by decide +kernel
theorem dX12_keepsSound_94 : decode cX12_keepsSound 94 = .ok (.iadd, 1) := by decide +kernel
theorem dX12_keepsSound_95 : decode cX12_keepsSound 95 = .ok (.dup2, 1) := by decide +kernel
theorem dX12_keepsSound_96 : decode cX12_keepsSound 96 = .ok (.iaload, 1) := by decide +kernel
theorem dX12_keepsSound_97 : decode cX12_keepsSound 97 = .ok (.iconst 1, 1) := by decide +kernel
theorem dX12_keepsSound_98 : decode cX12_keepsSound 98 = .ok (.iadd, 1) := by decide +kernel
theorem dX12_keepsSound_99 : decode cX12_keepsSound 99 = .ok (.iastore, 1) := by decide +kernel
theorem dX12_keepsSound_100 : decode cX12_keepsSound 100 = .ok (.return_, 1) := by decide +kernel
set_option maxRecDepth 100000 in
def f_X12_keepsSound_70 (l0 : Nat) (l2 : Int32) (l3 : Int32) (μ : dtM) : Option dtM :=
  (opGR 12 0 μ l0).bind fun x1 => (opGR 12 0 μ l0).bind fun x3 => (opLI 1 μ x3 (l3 + (3 : Int32))).bind fun x5 => (opSI μ x1 ((l3 + (4 : Int32)) + x5) l2).bind fun μ7 => (opGR 12 0 μ7 l0).bind fun x9 => (opLI 1 μ7 x9 (l3 + (3 : Int32))).bind fun x11 => (opSI μ7 x9 (l3 + (3 : Int32)) (x11 + (1 : Int32))).bind fun μ13 => some μ13
set_option maxRecDepth 100000 in
def f_X12_keepsSound_21 : Nat → Nat → Int32 → Int32 → Int32 → dtM → Option dtM
  | 0, _, _, _, _, _ => none
  | n + 1, l0, l2, l3, l4, μ =>
    if (8 : Int32) ≤ l4 then ((opGR 12 0 μ l0).bind fun x4 => (opLI 1 μ x4 (l3 + (3 : Int32))).bind fun x6 => (opSI μ x4 (l3 + (3 : Int32)) (x6 - (1 : Int32))).bind fun μ8 => f_X12_keepsSound_70 l0 l2 l3 μ8) else ((opGR 12 0 μ l0).bind fun x10 => (opGR 12 0 μ l0).bind fun x12 => (opLI 1 μ x12 ((l3 + (4 : Int32)) + l4)).bind fun x14 => (opSI μ x10 (((l3 + (4 : Int32)) + l4) - (1 : Int32)) x14).bind fun μ16 => f_X12_keepsSound_21 n l0 l2 l3 (l4 + 1) μ16)
set_option maxRecDepth 100000 in
def f_X12_keepsSound (p0 : Nat) (p1 : Int32) (p2 : Int32) (μ : dtM) : Option dtM :=
  opCall (f_X12_personRow p1 μ) fun x3 μ1 => (opGR 12 0 μ1 p0).bind fun x4 => (opLI 1 μ1 x4 (x3 + (3 : Int32))).bind fun x6 => if x6 = (8 : Int32) then (f_X12_keepsSound_21 dtFuel p0 p2 x3 (1 : Int32) μ1) else (f_X12_keepsSound_70 p0 p2 x3 μ1)
set_option maxRecDepth 100000 in
theorem c_X12_keepsSound_70 {F : dtM} (l0 : Nat) (l2 : Int32) (l3 : Int32) (μ : dtM) (h : f_X12_keepsSound_70 l0 l2 l3 μ = some F) : dtW yX12_keepsSound cX12_keepsSound 5 (none) 2 (none) F 70 [some (.ref l0), none, some (.int l2), some (.int l3)] [] μ := by
  rw [f_X12_keepsSound_70] at h
  refine dr_aload_n l0 dX12_keepsSound_70 rfl ?_
  obtain ⟨x1, e2, h⟩ := dtBind h
  refine dr_getR x1 dX12_keepsSound_71 fl_RX12_7 e2 ?_
  refine dr_iload_n l3 dX12_keepsSound_74 rfl ?_
  refine dr_iconst (4 : Int32) dX12_keepsSound_75 (by decide) ?_
  refine dr_iadd dX12_keepsSound_76 ?_
  refine dr_aload_n l0 dX12_keepsSound_77 rfl ?_
  obtain ⟨x3, e4, h⟩ := dtBind h
  refine dr_getR x3 dX12_keepsSound_78 fl_RX12_7 e4 ?_
  refine dr_iload_n l3 dX12_keepsSound_81 rfl ?_
  refine dr_iconst (3 : Int32) dX12_keepsSound_82 (by decide) ?_
  refine dr_iadd dX12_keepsSound_83 ?_
  obtain ⟨x5, e6, h⟩ := dtBind h
  refine dr_iaload x5 dX12_keepsSound_84 e6 ?_
  refine dr_iadd dX12_keepsSound_85 ?_
  refine dr_iload_n l2 dX12_keepsSound_86 rfl ?_
  obtain ⟨μ7, e8, h⟩ := dtBind h
  refine dr_iastore μ7 dX12_keepsSound_87 e8 ?_
  refine dr_aload_n l0 dX12_keepsSound_88 rfl ?_
  obtain ⟨x9, e10, h⟩ := dtBind h
  refine dr_getR x9 dX12_keepsSound_89 fl_RX12_7 e10 ?_
  refine dr_iload_n l3 dX12_keepsSound_92 rfl ?_
  refine dr_iconst (3 : Int32) dX12_keepsSound_93 (by decide) ?_
  refine dr_iadd dX12_keepsSound_94 ?_
  refine dr_dup2 dX12_keepsSound_95 rfl rfl ?_
  obtain ⟨x11, e12, h⟩ := dtBind h
  refine dr_iaload x11 dX12_keepsSound_96 e12 ?_
  refine dr_iconst (1 : Int32) dX12_keepsSound_97 (by decide) ?_
  refine dr_iadd dX12_keepsSound_98 ?_
  obtain ⟨μ13, e14, h⟩ := dtBind h
  refine dr_iastore μ13 dX12_keepsSound_99 e14 ?_
  cases h
  exact dr_return dX12_keepsSound_100
set_option maxRecDepth 100000 in
theorem c_X12_keepsSound_21 {F : dtM} : ∀ (n : Nat) (l0 : Nat) (l2 : Int32) (l3 : Int32) (l4 : Int32) (μ : dtM), f_X12_keepsSound_21 n l0 l2 l3 l4 μ = some F → dtW yX12_keepsSound cX12_keepsSound 5 (none) 2 (none) F 21 [some (.ref l0), none, some (.int l2), some (.int l3), some (.int l4)] [] μ := by
  intro n
  induction n with
  | zero => intro l0 l2 l3 l4 μ h; cases h
  | succ n ih =>
    intro l0 l2 l3 l4 μ h
    have h := (show f_X12_keepsSound_21 (n + 1) l0 l2 l3 l4 μ = some _ from h)
    rw [f_X12_keepsSound_21] at h
    refine dr_iload l4 dX12_keepsSound_21 rfl ?_
    refine dr_bipush (8 : Int32) dX12_keepsSound_23 (by decide) ?_
    obtain ⟨ht2, hf3⟩ := dtIte h
    refine dr_icmp_ge 58 dX12_keepsSound_25 (by decide) (fun hc1 => ?_) (fun hc1 => ?_)
    · have h := ht2 hc1
      refine dr_aload_n l0 dX12_keepsSound_58 rfl ?_
      obtain ⟨x4, e5, h⟩ := dtBind h
      refine dr_getR x4 dX12_keepsSound_59 fl_RX12_7 e5 ?_
      refine dr_iload_n l3 dX12_keepsSound_62 rfl ?_
      refine dr_iconst (3 : Int32) dX12_keepsSound_63 (by decide) ?_
      refine dr_iadd dX12_keepsSound_64 ?_
      refine dr_dup2 dX12_keepsSound_65 rfl rfl ?_
      obtain ⟨x6, e7, h⟩ := dtBind h
      refine dr_iaload x6 dX12_keepsSound_66 e7 ?_
      refine dr_iconst (1 : Int32) dX12_keepsSound_67 (by decide) ?_
      refine dr_isub dX12_keepsSound_68 ?_
      obtain ⟨μ8, e9, h⟩ := dtBind h
      refine dr_iastore μ8 dX12_keepsSound_69 e9 ?_
      refine dr_mask [true, false, true, true] [some (.ref l0), none, some (.int l2), some (.int l3)] rfl ?_
      exact c_X12_keepsSound_70 l0 l2 l3 μ8 h
    · have h := hf3 hc1
      refine dr_aload_n l0 dX12_keepsSound_28 rfl ?_
      obtain ⟨x10, e11, h⟩ := dtBind h
      refine dr_getR x10 dX12_keepsSound_29 fl_RX12_7 e11 ?_
      refine dr_iload_n l3 dX12_keepsSound_32 rfl ?_
      refine dr_iconst (4 : Int32) dX12_keepsSound_33 (by decide) ?_
      refine dr_iadd dX12_keepsSound_34 ?_
      refine dr_iload l4 dX12_keepsSound_35 rfl ?_
      refine dr_iadd dX12_keepsSound_37 ?_
      refine dr_iconst (1 : Int32) dX12_keepsSound_38 (by decide) ?_
      refine dr_isub dX12_keepsSound_39 ?_
      refine dr_aload_n l0 dX12_keepsSound_40 rfl ?_
      obtain ⟨x12, e13, h⟩ := dtBind h
      refine dr_getR x12 dX12_keepsSound_41 fl_RX12_7 e13 ?_
      refine dr_iload_n l3 dX12_keepsSound_44 rfl ?_
      refine dr_iconst (4 : Int32) dX12_keepsSound_45 (by decide) ?_
      refine dr_iadd dX12_keepsSound_46 ?_
      refine dr_iload l4 dX12_keepsSound_47 rfl ?_
      refine dr_iadd dX12_keepsSound_49 ?_
      obtain ⟨x14, e15, h⟩ := dtBind h
      refine dr_iaload x14 dX12_keepsSound_50 e15 ?_
      obtain ⟨μ16, e17, h⟩ := dtBind h
      refine dr_iastore μ16 dX12_keepsSound_51 e17 ?_
      refine dr_iinc l4 (l4 + 1) [some (.ref l0), none, some (.int l2), some (.int l3), some (.int (l4 + 1))] dX12_keepsSound_52 rfl rfl rfl rfl rfl ?_
      refine dr_goto 21 dX12_keepsSound_55 (by decide) ?_
      exact ih l0 l2 l3 (l4 + 1) μ16 h
set_option maxRecDepth 100000 in
theorem c_X12_keepsSound {F : dtM} (p0 : Nat) (p1 : Int32) (p2 : Int32) (μ : dtM) (h : f_X12_keepsSound p0 p1 p2 μ = some F) : dtMet yX12_keepsSound cX12_keepsSound 5 (none) 2 [.ref p0, .int p1, .int p2] μ (none) F := by
  refine dtMet.of (by decide +kernel) (Nat.le_of_ble_eq_true rfl) (show dtW yX12_keepsSound cX12_keepsSound 5 (none) 2 (none) F 0 [some (.ref p0), some (.int p1), some (.int p2)] [] μ from ?_)
  rw [f_X12_keepsSound] at h
  refine dr_iload_n p1 dX12_keepsSound_0 rfl ?_
  obtain ⟨x3, μ1, e2, h⟩ := dtCall h
  refine dr_callS_i (S0 := []) [.int p1] x3 μ1 dX12_keepsSound_1 (c_X12_personRow p1 μ e2) mf_X12_personRow wt_1652 wt_1651 rfl (Nat.le_of_ble_eq_true rfl) (Nat.le_of_ble_eq_true rfl) rfl ?_
  refine dr_istore_n 3 [some (.ref p0), some (.int p1), some (.int p2), some (.int x3)] dX12_keepsSound_4 rfl rfl rfl rfl ?_
  refine dr_aload_n p0 dX12_keepsSound_5 rfl ?_
  obtain ⟨x4, e5, h⟩ := dtBind h
  refine dr_getR x4 dX12_keepsSound_6 fl_RX12_7 e5 ?_
  refine dr_iload_n x3 dX12_keepsSound_9 rfl ?_
  refine dr_iconst (3 : Int32) dX12_keepsSound_10 (by decide) ?_
  refine dr_iadd dX12_keepsSound_11 ?_
  obtain ⟨x6, e7, h⟩ := dtBind h
  refine dr_iaload x6 dX12_keepsSound_12 e7 ?_
  refine dr_bipush (8 : Int32) dX12_keepsSound_13 (by decide) ?_
  obtain ⟨ht9, hf10⟩ := dtIte h
  refine dr_icmp_ne 70 dX12_keepsSound_15 (by decide) (fun hc8 => ?_) (fun hc8 => ?_)
  · have h := hf10 hc8
    refine dr_mask [true, false, true, true] [some (.ref p0), none, some (.int p2), some (.int x3)] rfl ?_
    exact c_X12_keepsSound_70 p0 p2 x3 μ1 h
  · have h := ht9 hc8
    refine dr_iconst (1 : Int32) dX12_keepsSound_18 (by decide) ?_
    refine dr_istore [some (.ref p0), some (.int p1), some (.int p2), some (.int x3), some (.int (1 : Int32))] dX12_keepsSound_19 rfl rfl rfl ?_
    refine dr_mask [true, false, true, true, true] [some (.ref p0), none, some (.int p2), some (.int x3), some (.int (1 : Int32))] rfl ?_
    exact c_X12_keepsSound_21 dtFuel p0 p2 x3 (1 : Int32) μ1 h
/-! X12_sounds -/
theorem dX12_sounds_0 : decode cX12_sounds 0 = .ok (.aload_n 0, 1) := by decide +kernel
theorem dX12_sounds_1 : decode cX12_sounds 1 = .ok (.iload_n 1, 1) := by decide +kernel
theorem dX12_sounds_2 : decode cX12_sounds 2 = .ok (.iload_n 2, 1) := by decide +kernel
theorem dX12_sounds_3 : decode cX12_sounds 3 = .ok (.iload_n 3, 1) := by decide +kernel
theorem dX12_sounds_4 : decode cX12_sounds 4 = .ok (.invokevirtual 330, 3) := by decide +kernel
theorem dX12_sounds_7 : decode cX12_sounds 7 = .ok (.istore 4, 2) := by decide +kernel
theorem dX12_sounds_9 : decode cX12_sounds 9 = .ok (.iconst 0, 1) := by decide +kernel
theorem dX12_sounds_10 : decode cX12_sounds 10 = .ok (.istore 5, 2) := by decide +kernel
theorem dX12_sounds_12 : decode cX12_sounds 12 = .ok (.iload 5, 2) := by decide +kernel
theorem dX12_sounds_14 : decode cX12_sounds 14 = .ok (.aload_n 0, 1) := by decide +kernel
theorem dX12_sounds_15 : decode cX12_sounds 15 = .ok (.getfield 7, 3) := by decide +kernel
theorem dX12_sounds_18 : decode cX12_sounds 18 = .ok (.iconst 3, 1) := by decide +kernel
theorem dX12_sounds_19 : decode cX12_sounds 19 = .ok (.iaload, 1) := by decide +kernel
theorem dX12_sounds_20 : decode cX12_sounds 20 = .ok (.if_icmp .ge 27, 3) := by decide +kernel
theorem dX12_sounds_23 : decode cX12_sounds 23 = .ok (.aload_n 0, 1) := by decide +kernel
theorem dX12_sounds_24 : decode cX12_sounds 24 = .ok (.iload 4, 2) := by decide +kernel
theorem dX12_sounds_26 : decode cX12_sounds 26 = .ok (.iload 5, 2) := by decide +kernel
theorem dX12_sounds_28 : decode cX12_sounds 28 = .ok (.invokevirtual 241, 3) := by decide +kernel
theorem dX12_sounds_31 : decode cX12_sounds 31 = .ok (.ifCond .eq 10, 3) := by decide +kernel
theorem dX12_sounds_34 : decode cX12_sounds 34 = .ok (.aload_n 0, 1) := by decide +kernel
theorem dX12_sounds_35 : decode cX12_sounds 35 = .ok (.iload 5, 2) := by decide +kernel
theorem dX12_sounds_37 : decode cX12_sounds 37 = .ok (.iload_n 2, 1) := by decide +kernel
theorem dX12_sounds_38 : decode cX12_sounds 38 = .ok (.invokevirtual 340, 3) := by decide +kernel
theorem dX12_sounds_41 : decode cX12_sounds 41 = .ok (.iinc 5 1, 3) := by decide +kernel
theorem dX12_sounds_44 : decode cX12_sounds 44 = .ok (.goto (-32), 3) := by decide +kernel
theorem dX12_sounds_47 : decode cX12_sounds 47 = .ok (.aload_n 0, 1) := by decide +kernel
theorem dX12_sounds_48 : decode cX12_sounds 48 = .ok (.getfield 7, 3) := by decide +kernel
theorem dX12_sounds_51 : decode cX12_sounds 51 = .ok (.bipush 6, 2) := by decide +kernel
theorem dX12_sounds_53 : decode cX12_sounds 53 = .ok (.dup2, 1) := by decide +kernel
theorem dX12_sounds_54 : decode cX12_sounds 54 = .ok (.iaload, 1) := by decide +kernel
theorem dX12_sounds_55 : decode cX12_sounds 55 = .ok (.iconst 1, 1) := by decide +kernel
theorem dX12_sounds_56 : decode cX12_sounds 56 = .ok (.iadd, 1) := by decide +kernel
theorem dX12_sounds_57 : decode cX12_sounds 57 = .ok (.iastore, 1) := by decide +kernel
theorem dX12_sounds_58 : decode cX12_sounds 58 = .ok (.iload 4, 2) := by decide +kernel
theorem dX12_sounds_60 : decode cX12_sounds 60 = .ok (.ireturn, 1) := by decide +kernel
set_option maxRecDepth 100000 in
def f_X12_sounds_41 (k12 : Nat → Int32 → Int32 → Int32 → dtM → Option (Int32 × dtM)) (l0 : Nat) (l2 : Int32) (l4 : Int32) (l5 : Int32) (μ : dtM) : Option (Int32 × dtM) :=
  k12 l0 l2 l4 (l5 + 1) μ
set_option maxRecDepth 100000 in
def f_X12_sounds_12 : Nat → Nat → Int32 → Int32 → Int32 → dtM → Option (Int32 × dtM)
  | 0, _, _, _, _, _ => none
  | n + 1, l0, l2, l4, l5, μ =>
    (opGR 12 0 μ l0).bind fun x1 => (opLI 1 μ x1 (3 : Int32)).bind fun x3 => if x3 ≤ l5 then ((opGR 12 0 μ l0).bind fun x8 => (opLI 1 μ x8 (6 : Int32)).bind fun x10 => (opSI μ x8 (6 : Int32) (x10 + (1 : Int32))).bind fun μ12 => some (l4, μ12)) else ((opRv 12 μ l0).bind fun _ => opCall (f_X12_isIn l0 l4 l5 μ) fun x17 μ15 => if x17 = 0 then (f_X12_sounds_41 (f_X12_sounds_12 n) l0 l2 l4 l5 μ15) else ((opRv 12 μ15 l0).bind fun _ => (f_X12_keepsSound l0 l5 l2 μ15).bind fun μ22 => f_X12_sounds_41 (f_X12_sounds_12 n) l0 l2 l4 l5 μ22))
set_option maxRecDepth 100000 in
def f_X12_sounds (p0 : Nat) (p1 : Int32) (p2 : Int32) (p3 : Int32) (μ : dtM) : Option (Int32 × dtM) :=
  (opRv 12 μ p0).bind fun _ => opCall (f_X12_hearing p0 p1 p2 p3 μ) fun x4 μ2 => f_X12_sounds_12 dtFuel p0 p2 x4 (0 : Int32) μ2
set_option maxRecDepth 100000 in
theorem c_X12_sounds_41 {r : Int32} {F : dtM} (k12 : Nat → Int32 → Int32 → Int32 → dtM → Option (Int32 × dtM)) (hk12 : ∀ (l0 : Nat) (l2 : Int32) (l4 : Int32) (l5 : Int32) (μ : dtM), k12 l0 l2 l4 l5 μ = some (r, F) → dtW yX12_sounds cX12_sounds 6 (some .int) 5 (some (.int r)) F 12 [some (.ref l0), none, some (.int l2), none, some (.int l4), some (.int l5)] [] μ) (l0 : Nat) (l2 : Int32) (l4 : Int32) (l5 : Int32) (μ : dtM) (h : f_X12_sounds_41 k12 l0 l2 l4 l5 μ = some (r, F)) : dtW yX12_sounds cX12_sounds 6 (some .int) 5 (some (.int r)) F 41 [some (.ref l0), none, some (.int l2), none, some (.int l4), some (.int l5)] [] μ := by
  rw [f_X12_sounds_41] at h
  refine dr_iinc l5 (l5 + 1) [some (.ref l0), none, some (.int l2), none, some (.int l4), some (.int (l5 + 1))] dX12_sounds_41 rfl rfl rfl rfl rfl ?_
  refine dr_goto 12 dX12_sounds_44 (by decide) ?_
  exact hk12 l0 l2 l4 (l5 + 1) μ h
set_option maxRecDepth 100000 in
theorem c_X12_sounds_12 {r : Int32} {F : dtM} : ∀ (n : Nat) (l0 : Nat) (l2 : Int32) (l4 : Int32) (l5 : Int32) (μ : dtM), f_X12_sounds_12 n l0 l2 l4 l5 μ = some (r, F) → dtW yX12_sounds cX12_sounds 6 (some .int) 5 (some (.int r)) F 12 [some (.ref l0), none, some (.int l2), none, some (.int l4), some (.int l5)] [] μ := by
  intro n
  induction n with
  | zero => intro l0 l2 l4 l5 μ h; cases h
  | succ n ih =>
    intro l0 l2 l4 l5 μ h
    have h := (show f_X12_sounds_12 (n + 1) l0 l2 l4 l5 μ = some _ from h)
    rw [f_X12_sounds_12] at h
    refine dr_iload l5 dX12_sounds_12 rfl ?_
    refine dr_aload_n l0 dX12_sounds_14 rfl ?_
    obtain ⟨x1, e2, h⟩ := dtBind h
    refine dr_getR x1 dX12_sounds_15 fl_RX12_7 e2 ?_
    refine dr_iconst (3 : Int32) dX12_sounds_18 (by decide) ?_
    obtain ⟨x3, e4, h⟩ := dtBind h
    refine dr_iaload x3 dX12_sounds_19 e4 ?_
    obtain ⟨ht6, hf7⟩ := dtIte h
    refine dr_icmp_ge 47 dX12_sounds_20 (by decide) (fun hc5 => ?_) (fun hc5 => ?_)
    · have h := ht6 hc5
      refine dr_aload_n l0 dX12_sounds_47 rfl ?_
      obtain ⟨x8, e9, h⟩ := dtBind h
      refine dr_getR x8 dX12_sounds_48 fl_RX12_7 e9 ?_
      refine dr_bipush (6 : Int32) dX12_sounds_51 (by decide) ?_
      refine dr_dup2 dX12_sounds_53 rfl rfl ?_
      obtain ⟨x10, e11, h⟩ := dtBind h
      refine dr_iaload x10 dX12_sounds_54 e11 ?_
      refine dr_iconst (1 : Int32) dX12_sounds_55 (by decide) ?_
      refine dr_iadd dX12_sounds_56 ?_
      obtain ⟨μ12, e13, h⟩ := dtBind h
      refine dr_iastore μ12 dX12_sounds_57 e13 ?_
      refine dr_iload l4 dX12_sounds_58 rfl ?_
      cases h
      exact dr_ireturn dX12_sounds_60 rfl
    · have h := hf7 hc5
      refine dr_aload_n l0 dX12_sounds_23 rfl ?_
      refine dr_iload l4 dX12_sounds_24 rfl ?_
      refine dr_iload l5 dX12_sounds_26 rfl ?_
      obtain ⟨_, hb14, h⟩ := dtBind h
      obtain ⟨x17, μ15, e16, h⟩ := dtCall h
      refine dr_callV_i (S0 := []) [.int l4, .int l5] x17 μ15 dX12_sounds_28 (c_X12_isIn l0 l4 l5 μ e16) mf_X12_isIn wt_1656 ws_82 wt_1654 rfl (dtRv hb14) (by decide) rfl (Nat.le_of_ble_eq_true rfl) (Nat.le_of_ble_eq_true rfl) rfl ?_
      obtain ⟨ht19, hf20⟩ := dtIte h
      refine dr_if_eq 41 dX12_sounds_31 (by decide) (fun hc18 => ?_) (fun hc18 => ?_)
      · have h := ht19 hc18
        exact c_X12_sounds_41 (f_X12_sounds_12 n) ih l0 l2 l4 l5 μ15 h
      · have h := hf20 hc18
        refine dr_aload_n l0 dX12_sounds_34 rfl ?_
        refine dr_iload l5 dX12_sounds_35 rfl ?_
        refine dr_iload_n l2 dX12_sounds_37 rfl ?_
        obtain ⟨_, hb21, h⟩ := dtBind h
        obtain ⟨μ22, e23, h⟩ := dtBind h
        refine dr_callV_v (S0 := []) [.int l5, .int l2] μ22 dX12_sounds_38 (c_X12_keepsSound l0 l5 l2 μ15 e23) mf_X12_keepsSound wt_1815 ws_107 wt_1813 rfl (dtRv hb21) (by decide) rfl (Nat.le_of_ble_eq_true rfl) (Nat.le_of_ble_eq_true rfl) rfl ?_
        exact c_X12_sounds_41 (f_X12_sounds_12 n) ih l0 l2 l4 l5 μ22 h
set_option maxRecDepth 100000 in
theorem c_X12_sounds {r : Int32} {F : dtM} (p0 : Nat) (p1 : Int32) (p2 : Int32) (p3 : Int32) (μ : dtM) (h : f_X12_sounds p0 p1 p2 p3 μ = some (r, F)) : dtMet yX12_sounds cX12_sounds 6 (some .int) 5 [.ref p0, .int p1, .int p2, .int p3] μ (some (.int r)) F := by
  refine dtMet.of (by decide +kernel) (Nat.le_of_ble_eq_true rfl) (show dtW yX12_sounds cX12_sounds 6 (some .int) 5 (some (.int r)) F 0 [some (.ref p0), some (.int p1), some (.int p2), some (.int p3)] [] μ from ?_)
  rw [f_X12_sounds] at h
  refine dr_aload_n p0 dX12_sounds_0 rfl ?_
  refine dr_iload_n p1 dX12_sounds_1 rfl ?_
  refine dr_iload_n p2 dX12_sounds_2 rfl ?_
  refine dr_iload_n p3 dX12_sounds_3 rfl ?_
  obtain ⟨_, hb1, h⟩ := dtBind h
  obtain ⟨x4, μ2, e3, h⟩ := dtCall h
  refine dr_callV_i (S0 := []) [.int p1, .int p2, .int p3] x4 μ2 dX12_sounds_4 (c_X12_hearing p0 p1 p2 p3 μ e3) mf_X12_hearing wt_1768 ws_100 wt_1766 rfl (dtRv hb1) (by decide) rfl (Nat.le_of_ble_eq_true rfl) (Nat.le_of_ble_eq_true rfl) rfl ?_
  refine dr_istore [some (.ref p0), some (.int p1), some (.int p2), some (.int p3), some (.int x4)] dX12_sounds_7 rfl rfl rfl ?_
  refine dr_iconst (0 : Int32) dX12_sounds_9 (by decide) ?_
  refine dr_istore [some (.ref p0), some (.int p1), some (.int p2), some (.int p3), some (.int x4), some (.int (0 : Int32))] dX12_sounds_10 rfl rfl rfl ?_
  refine dr_mask [true, false, true, false, true, true] [some (.ref p0), none, some (.int p2), none, some (.int x4), some (.int (0 : Int32))] rfl ?_
  exact c_X12_sounds_12 dtFuel p0 p2 x4 (0 : Int32) μ2 h
/-! X12_closes -/
theorem dX12_closes_0 : decode cX12_closes 0 = .ok (.aload_n 0, 1) := by decide +kernel
theorem dX12_closes_1 : decode cX12_closes 1 = .ok (.iload_n 1, 1) := by decide +kernel
theorem dX12_closes_2 : decode cX12_closes 2 = .ok (.iload_n 2, 1) := by decide +kernel
theorem dX12_closes_3 : decode cX12_closes 3 = .ok (.invokevirtual 343, 3) := by decide +kernel
theorem dX12_closes_6 : decode cX12_closes 6 = .ok (.ifCond .eq 11, 3) := by decide +kernel
theorem dX12_closes_9 : decode cX12_closes 9 = .ok (.aload_n 0, 1) := by decide +kernel
theorem dX12_closes_10 : decode cX12_closes 10 = .ok (.iload_n 2, 1) := by decide +kernel
theorem dX12_closes_11 : decode cX12_closes 11 = .ok (.invokevirtual 311, 3) := by decide +kernel
theorem dX12_closes_14 : decode cX12_closes 14 = .ok (.ifCond .ne 5, 3) := by decide +kernel
theorem dX12_closes_17 : decode cX12_closes 17 = .ok (.iconst (-1), 1) := by decide +kernel
theorem dX12_closes_18 : decode cX12_closes 18 = .ok (.ireturn, 1) := by decide +kernel
theorem dX12_closes_19 : decode cX12_closes 19 = .ok (.aload_n 0, 1) := by decide +kernel
theorem dX12_closes_20 : decode cX12_closes 20 = .ok (.iload_n 2, 1) := by decide +kernel
theorem dX12_closes_21 : decode cX12_closes 21 = .ok (.iload_n 3, 1) := by decide +kernel
theorem dX12_closes_22 : decode cX12_closes 22 = .ok (.iload_n 1, 1) := by decide +kernel
theorem dX12_closes_23 : decode cX12_closes 23 = .ok (.invokevirtual 346, 3) := by decide +kernel
theorem dX12_closes_26 : decode cX12_closes 26 = .ok (.istore 4, 2) := by decide +kernel
theorem dX12_closes_28 : decode cX12_closes 28 = .ok (.iload_n 3, 1) := by decide +kernel
theorem dX12_closes_29 : decode cX12_closes 29 = .ok (.iconst 3, 1) := by decide +kernel
theorem dX12_closes_30 : decode cX12_closes 30 = .ok (.if_icmp .ge 17, 3) := by decide +kernel
theorem dX12_closes_33 : decode cX12_closes 33 = .ok (.aload_n 0, 1) := by decide +kernel
theorem dX12_closes_34 : decode cX12_closes 34 = .ok (.getfield 7, 3) := by decide +kernel
theorem dX12_closes_37 : decode cX12_closes 37 = .ok (.iconst 5, 1) := by decide +kernel
theorem dX12_closes_38 : decode cX12_closes 38 = .ok (.dup2, 1) := by decide +kernel
theorem dX12_closes_39 : decode cX12_closes 39 = .ok (.iaload, 1) := by decide +kernel
theorem dX12_closes_40 : decode cX12_closes 40 = .ok (.iconst 1, 1) := by decide +kernel
theorem dX12_closes_41 : decode cX12_closes 41 = .ok (.iload_n 2, 1) := by decide +kernel
theorem dX12_closes_42 : decode cX12_closes 42 = .ok (.ishl, 1) := by decide +kernel
theorem dX12_closes_43 : decode cX12_closes 43 = .ok (.iconst (-1), 1) := by decide +kernel
theorem dX12_closes_44 : decode cX12_closes 44 = .ok (.ixor, 1) := by decide +kernel
theorem dX12_closes_45 : decode cX12_closes 45 = .ok (.iand, 1) := by decide +kernel
theorem dX12_closes_46 : decode cX12_closes 46 = .ok (.iastore, 1) := by decide +kernel
theorem dX12_closes_47 : decode cX12_closes 47 = .ok (.iload 4, 2) := by decide +kernel
theorem dX12_closes_49 : decode cX12_closes 49 = .ok (.ireturn, 1) := by decide +kernel
set_option maxRecDepth 100000 in
def f_X12_closes_17  (μ : dtM) : Option (Int32 × dtM) :=
  some ((-1 : Int32), μ)
set_option maxRecDepth 100000 in
def f_X12_closes_47 (l4 : Int32) (μ : dtM) : Option (Int32 × dtM) :=
  some (l4, μ)
set_option maxRecDepth 100000 in
def f_X12_closes (p0 : Nat) (p1 : Int32) (p2 : Int32) (p3 : Int32) (μ : dtM) : Option (Int32 × dtM) :=
  (opRv 12 μ p0).bind fun _ => opCall (f_X12_isBy p0 p1 p2 μ) fun x4 μ2 => if x4 = 0 then (f_X12_closes_17 μ2) else ((opRv 12 μ2 p0).bind fun _ => opCall (f_X12_isOpen p0 p2 μ2) fun x11 μ9 => if x11 = 0 then (f_X12_closes_17 μ9) else ((opRv 12 μ9 p0).bind fun _ => opCall (f_X12_sounds p0 p2 p3 p1 μ9) fun x18 μ16 => if (3 : Int32) ≤ p3 then (f_X12_closes_47 x18 μ16) else ((opGR 12 0 μ16 p0).bind fun x22 => (opLI 1 μ16 x22 (5 : Int32)).bind fun x24 => (opSI μ16 x22 (5 : Int32) (x24 &&& (((1 : Int32) <<< (p2 &&& 31)) ^^^ (-1 : Int32)))).bind fun μ26 => f_X12_closes_47 x18 μ26)))
set_option maxRecDepth 100000 in
theorem c_X12_closes_17 {r : Int32} {F : dtM}  (μ : dtM) (h : f_X12_closes_17  μ = some (r, F)) : dtW yX12_closes cX12_closes 5 (some .int) 6 (some (.int r)) F 17 [] [] μ := by
  rw [f_X12_closes_17] at h
  refine dr_iconst (-1 : Int32) dX12_closes_17 (by decide) ?_
  cases h
  exact dr_ireturn dX12_closes_18 rfl
set_option maxRecDepth 100000 in
theorem c_X12_closes_47 {r : Int32} {F : dtM} (l4 : Int32) (μ : dtM) (h : f_X12_closes_47 l4 μ = some (r, F)) : dtW yX12_closes cX12_closes 5 (some .int) 6 (some (.int r)) F 47 [none, none, none, none, some (.int l4)] [] μ := by
  rw [f_X12_closes_47] at h
  refine dr_iload l4 dX12_closes_47 rfl ?_
  cases h
  exact dr_ireturn dX12_closes_49 rfl
set_option maxRecDepth 100000 in
theorem c_X12_closes {r : Int32} {F : dtM} (p0 : Nat) (p1 : Int32) (p2 : Int32) (p3 : Int32) (μ : dtM) (h : f_X12_closes p0 p1 p2 p3 μ = some (r, F)) : dtMet yX12_closes cX12_closes 5 (some .int) 6 [.ref p0, .int p1, .int p2, .int p3] μ (some (.int r)) F := by
  refine dtMet.of (by decide +kernel) (Nat.le_of_ble_eq_true rfl) (show dtW yX12_closes cX12_closes 5 (some .int) 6 (some (.int r)) F 0 [some (.ref p0), some (.int p1), some (.int p2), some (.int p3)] [] μ from ?_)
  rw [f_X12_closes] at h
  refine dr_aload_n p0 dX12_closes_0 rfl ?_
  refine dr_iload_n p1 dX12_closes_1 rfl ?_
  refine dr_iload_n p2 dX12_closes_2 rfl ?_
  obtain ⟨_, hb1, h⟩ := dtBind h
  obtain ⟨x4, μ2, e3, h⟩ := dtCall h
  refine dr_callV_i (S0 := []) [.int p1, .int p2] x4 μ2 dX12_closes_3 (c_X12_isBy p0 p1 p2 μ e3) mf_X12_isBy wt_1807 ws_105 wt_1805 rfl (dtRv hb1) (by decide) rfl (Nat.le_of_ble_eq_true rfl) (Nat.le_of_ble_eq_true rfl) rfl ?_
  obtain ⟨ht6, hf7⟩ := dtIte h
  refine dr_if_eq 17 dX12_closes_6 (by decide) (fun hc5 => ?_) (fun hc5 => ?_)
  · have h := ht6 hc5
    refine dr_mask [] [] rfl ?_
    exact c_X12_closes_17 μ2 h
  · have h := hf7 hc5
    refine dr_aload_n p0 dX12_closes_9 rfl ?_
    refine dr_iload_n p2 dX12_closes_10 rfl ?_
    obtain ⟨_, hb8, h⟩ := dtBind h
    obtain ⟨x11, μ9, e10, h⟩ := dtCall h
    refine dr_callV_i (S0 := []) [.int p2] x11 μ9 dX12_closes_11 (c_X12_isOpen p0 p2 μ2 e10) mf_X12_isOpen wt_1757 ws_99 wt_1755 rfl (dtRv hb8) (by decide) rfl (Nat.le_of_ble_eq_true rfl) (Nat.le_of_ble_eq_true rfl) rfl ?_
    obtain ⟨ht13, hf14⟩ := dtIte h
    refine dr_if_ne 19 dX12_closes_14 (by decide) (fun hc12 => ?_) (fun hc12 => ?_)
    · have h := hf14 hc12
      refine dr_aload_n p0 dX12_closes_19 rfl ?_
      refine dr_iload_n p2 dX12_closes_20 rfl ?_
      refine dr_iload_n p3 dX12_closes_21 rfl ?_
      refine dr_iload_n p1 dX12_closes_22 rfl ?_
      obtain ⟨_, hb15, h⟩ := dtBind h
      obtain ⟨x18, μ16, e17, h⟩ := dtCall h
      refine dr_callV_i (S0 := []) [.int p2, .int p3, .int p1] x18 μ16 dX12_closes_23 (c_X12_sounds p0 p2 p3 p1 μ9 e17) mf_X12_sounds wt_1811 ws_106 wt_1809 rfl (dtRv hb15) (by decide) rfl (Nat.le_of_ble_eq_true rfl) (Nat.le_of_ble_eq_true rfl) rfl ?_
      refine dr_istore [some (.ref p0), some (.int p1), some (.int p2), some (.int p3), some (.int x18)] dX12_closes_26 rfl rfl rfl ?_
      refine dr_iload_n p3 dX12_closes_28 rfl ?_
      refine dr_iconst (3 : Int32) dX12_closes_29 (by decide) ?_
      obtain ⟨ht20, hf21⟩ := dtIte h
      refine dr_icmp_ge 47 dX12_closes_30 (by decide) (fun hc19 => ?_) (fun hc19 => ?_)
      · have h := ht20 hc19
        refine dr_mask [false, false, false, false, true] [none, none, none, none, some (.int x18)] rfl ?_
        exact c_X12_closes_47 x18 μ16 h
      · have h := hf21 hc19
        refine dr_aload_n p0 dX12_closes_33 rfl ?_
        obtain ⟨x22, e23, h⟩ := dtBind h
        refine dr_getR x22 dX12_closes_34 fl_RX12_7 e23 ?_
        refine dr_iconst (5 : Int32) dX12_closes_37 (by decide) ?_
        refine dr_dup2 dX12_closes_38 rfl rfl ?_
        obtain ⟨x24, e25, h⟩ := dtBind h
        refine dr_iaload x24 dX12_closes_39 e25 ?_
        refine dr_iconst (1 : Int32) dX12_closes_40 (by decide) ?_
        refine dr_iload_n p2 dX12_closes_41 rfl ?_
        refine dr_ishl dX12_closes_42 ?_
        refine dr_iconst (-1 : Int32) dX12_closes_43 (by decide) ?_
        refine dr_ixor dX12_closes_44 ?_
        refine dr_iand dX12_closes_45 ?_
        obtain ⟨μ26, e27, h⟩ := dtBind h
        refine dr_iastore μ26 dX12_closes_46 e27 ?_
        refine dr_mask [false, false, false, false, true] [none, none, none, none, some (.int x18)] rfl ?_
        exact c_X12_closes_47 x18 μ26 h
    · have h := ht13 hc12
      refine dr_mask [] [] rfl ?_
      exact c_X12_closes_17 μ9 h
/-! X12_opens -/
theorem dX12_opens_0 : decode cX12_opens 0 = .ok (.aload_n 0, 1) := by decide +kernel
theorem dX12_opens_1 : decode cX12_opens 1 = .ok (.iload_n 1, 1) := by decide +kernel
theorem dX12_opens_2 : decode cX12_opens 2 = .ok (.iload_n 2, 1) := by decide +kernel
theorem dX12_opens_3 : decode cX12_opens 3 = .ok (.invokevirtual 343, 3) := by decide +kernel
theorem dX12_opens_6 : decode cX12_opens 6 = .ok (.ifCond .eq 11, 3) := by decide +kernel
theorem dX12_opens_9 : decode cX12_opens 9 = .ok (.aload_n 0, 1) := by decide +kernel
theorem dX12_opens_10 : decode cX12_opens 10 = .ok (.iload_n 2, 1) := by decide +kernel
theorem dX12_opens_11 : decode cX12_opens 11 = .ok (.invokevirtual 311, 3) := by decide +kernel
theorem dX12_opens_14 : decode cX12_opens 14 = .ok (.ifCond .eq 5, 3) := by decide +kernel
theorem dX12_opens_17 : decode cX12_opens 17 = .ok (.iconst 0, 1) := by decide +kernel
theorem dX12_opens_18 : decode cX12_opens 18 = .ok (.ireturn, 1) := by decide +kernel
theorem dX12_opens_19 : decode cX12_opens 19 = .ok (.aload_n 0, 1) := by decide +kernel
theorem dX12_opens_20 : decode cX12_opens 20 = .ok (.getfield 7, 3) := by decide +kernel
theorem dX12_opens_23 : decode cX12_opens 23 = .ok (.iconst 5, 1) := by decide +kernel
theorem dX12_opens_24 : decode cX12_opens 24 = .ok (.dup2, 1) := by decide +kernel
theorem dX12_opens_25 : decode cX12_opens 25 = .ok (.iaload, 1) := by decide +kernel
theorem dX12_opens_26 : decode cX12_opens 26 = .ok (.iconst 1, 1) := by decide +kernel
theorem dX12_opens_27 : decode cX12_opens 27 = .ok (.iload_n 2, 1) := by decide +kernel
theorem dX12_opens_28 : decode cX12_opens 28 = .ok (.ishl, 1) := by decide +kernel
theorem dX12_opens_29 : decode cX12_opens 29 = .ok (.ior, 1) := by decide +kernel
theorem dX12_opens_30 : decode cX12_opens 30 = .ok (.iastore, 1) := by decide +kernel
theorem dX12_opens_31 : decode cX12_opens 31 = .ok (.iconst 1, 1) := by decide +kernel
theorem dX12_opens_32 : decode cX12_opens 32 = .ok (.ireturn, 1) := by decide +kernel
set_option maxRecDepth 100000 in
def f_X12_opens_17  (μ : dtM) : Option (Int32 × dtM) :=
  opRet (0 : Int32) μ
set_option maxRecDepth 100000 in
def f_X12_opens (p0 : Nat) (p1 : Int32) (p2 : Int32) (μ : dtM) : Option (Int32 × dtM) :=
  (opRv 12 μ p0).bind fun _ => opCall (f_X12_isBy p0 p1 p2 μ) fun x4 μ2 => if x4 = 0 then (f_X12_opens_17 μ2) else ((opRv 12 μ2 p0).bind fun _ => opCall (f_X12_isOpen p0 p2 μ2) fun x11 μ9 => if x11 = 0 then ((opGR 12 0 μ9 p0).bind fun x15 => (opLI 1 μ9 x15 (5 : Int32)).bind fun x17 => (opSI μ9 x15 (5 : Int32) (x17 ||| ((1 : Int32) <<< (p2 &&& 31)))).bind fun μ19 => opRet (1 : Int32) μ19) else (f_X12_opens_17 μ9))
set_option maxRecDepth 100000 in
theorem c_X12_opens_17 {r : Int32} {F : dtM}  (μ : dtM) (h : f_X12_opens_17  μ = some (r, F)) : dtW yX12_opens cX12_opens 3 (some .boolean) 4 (some (.int r)) F 17 [] [] μ := by
  rw [f_X12_opens_17] at h
  refine dr_iconst (0 : Int32) dX12_opens_17 (by decide) ?_
  obtain ⟨hz, rfl, rfl⟩ := dtRet h
  exact dr_ireturn dX12_opens_18 (dtNz hz)
set_option maxRecDepth 100000 in
theorem c_X12_opens {r : Int32} {F : dtM} (p0 : Nat) (p1 : Int32) (p2 : Int32) (μ : dtM) (h : f_X12_opens p0 p1 p2 μ = some (r, F)) : dtMet yX12_opens cX12_opens 3 (some .boolean) 4 [.ref p0, .int p1, .int p2] μ (some (.int r)) F := by
  refine dtMet.of (by decide +kernel) (Nat.le_of_ble_eq_true rfl) (show dtW yX12_opens cX12_opens 3 (some .boolean) 4 (some (.int r)) F 0 [some (.ref p0), some (.int p1), some (.int p2)] [] μ from ?_)
  rw [f_X12_opens] at h
  refine dr_aload_n p0 dX12_opens_0 rfl ?_
  refine dr_iload_n p1 dX12_opens_1 rfl ?_
  refine dr_iload_n p2 dX12_opens_2 rfl ?_
  obtain ⟨_, hb1, h⟩ := dtBind h
  obtain ⟨x4, μ2, e3, h⟩ := dtCall h
  refine dr_callV_i (S0 := []) [.int p1, .int p2] x4 μ2 dX12_opens_3 (c_X12_isBy p0 p1 p2 μ e3) mf_X12_isBy wt_1807 ws_105 wt_1805 rfl (dtRv hb1) (by decide) rfl (Nat.le_of_ble_eq_true rfl) (Nat.le_of_ble_eq_true rfl) rfl ?_
  obtain ⟨ht6, hf7⟩ := dtIte h
  refine dr_if_eq 17 dX12_opens_6 (by decide) (fun hc5 => ?_) (fun hc5 => ?_)
  · have h := ht6 hc5
    refine dr_mask [] [] rfl ?_
    exact c_X12_opens_17 μ2 h
  · have h := hf7 hc5
    refine dr_aload_n p0 dX12_opens_9 rfl ?_
    refine dr_iload_n p2 dX12_opens_10 rfl ?_
    obtain ⟨_, hb8, h⟩ := dtBind h
    obtain ⟨x11, μ9, e10, h⟩ := dtCall h
    refine dr_callV_i (S0 := []) [.int p2] x11 μ9 dX12_opens_11 (c_X12_isOpen p0 p2 μ2 e10) mf_X12_isOpen wt_1757 ws_99 wt_1755 rfl (dtRv hb8) (by decide) rfl (Nat.le_of_ble_eq_true rfl) (Nat.le_of_ble_eq_true rfl) rfl ?_
    obtain ⟨ht13, hf14⟩ := dtIte h
    refine dr_if_eq 19 dX12_opens_14 (by decide) (fun hc12 => ?_) (fun hc12 => ?_)
    · have h := ht13 hc12
      refine dr_aload_n p0 dX12_opens_19 rfl ?_
      obtain ⟨x15, e16, h⟩ := dtBind h
      refine dr_getR x15 dX12_opens_20 fl_RX12_7 e16 ?_
      refine dr_iconst (5 : Int32) dX12_opens_23 (by decide) ?_
      refine dr_dup2 dX12_opens_24 rfl rfl ?_
      obtain ⟨x17, e18, h⟩ := dtBind h
      refine dr_iaload x17 dX12_opens_25 e18 ?_
      refine dr_iconst (1 : Int32) dX12_opens_26 (by decide) ?_
      refine dr_iload_n p2 dX12_opens_27 rfl ?_
      refine dr_ishl dX12_opens_28 ?_
      refine dr_ior dX12_opens_29 ?_
      obtain ⟨μ19, e20, h⟩ := dtBind h
      refine dr_iastore μ19 dX12_opens_30 e20 ?_
      refine dr_iconst (1 : Int32) dX12_opens_31 (by decide) ?_
      obtain ⟨hz, rfl, rfl⟩ := dtRet h
      exact dr_ireturn dX12_opens_32 (dtNz hz)
    · have h := hf14 hc12
      refine dr_mask [] [] rfl ?_
      exact c_X12_opens_17 μ9 h
/-! X12_goes -/
theorem dX12_goes_0 : decode cX12_goes 0 = .ok (.aload_n 0, 1) := by decide +kernel
theorem dX12_goes_1 : decode cX12_goes 1 = .ok (.iload_n 1, 1) := by decide +kernel
theorem dX12_goes_2 : decode cX12_goes 2 = .ok (.iload_n 2, 1) := by decide +kernel
theorem dX12_goes_3 : decode cX12_goes 3 = .ok (.invokevirtual 343, 3) := by decide +kernel
theorem dX12_goes_6 : decode cX12_goes 6 = .ok (.ifCond .eq 11, 3) := by decide +kernel
theorem dX12_goes_9 : decode cX12_goes 9 = .ok (.aload_n 0, 1) := by decide +kernel
theorem dX12_goes_10 : decode cX12_goes 10 = .ok (.iload_n 2, 1) := by decide +kernel
theorem dX12_goes_11 : decode cX12_goes 11 = .ok (.invokevirtual 311, 3) := by decide +kernel
theorem dX12_goes_14 : decode cX12_goes 14 = .ok (.ifCond .ne 5, 3) := by decide +kernel
theorem dX12_goes_17 : decode cX12_goes 17 = .ok (.iconst 0, 1) := by decide +kernel
theorem dX12_goes_18 : decode cX12_goes 18 = .ok (.ireturn, 1) := by decide +kernel
theorem dX12_goes_19 : decode cX12_goes 19 = .ok (.aload_n 0, 1) := by decide +kernel
theorem dX12_goes_20 : decode cX12_goes 20 = .ok (.getfield 7, 3) := by decide +kernel
theorem dX12_goes_23 : decode cX12_goes 23 = .ok (.iload_n 1, 1) := by decide +kernel
theorem dX12_goes_24 : decode cX12_goes 24 = .ok (.invokestatic 238, 3) := by decide +kernel
theorem dX12_goes_27 : decode cX12_goes 27 = .ok (.aload_n 0, 1) := by decide +kernel
theorem dX12_goes_28 : decode cX12_goes 28 = .ok (.iload_n 2, 1) := by decide +kernel
theorem dX12_goes_29 : decode cX12_goes 29 = .ok (.iconst 0, 1) := by decide +kernel
theorem dX12_goes_30 : decode cX12_goes 30 = .ok (.invokevirtual 298, 3) := by decide +kernel
theorem dX12_goes_33 : decode cX12_goes 33 = .ok (.aload_n 0, 1) := by decide +kernel
theorem dX12_goes_34 : decode cX12_goes 34 = .ok (.iload_n 2, 1) := by decide +kernel
theorem dX12_goes_35 : decode cX12_goes 35 = .ok (.iconst 1, 1) := by decide +kernel
theorem dX12_goes_36 : decode cX12_goes 36 = .ok (.invokevirtual 298, 3) := by decide +kernel
theorem dX12_goes_39 : decode cX12_goes 39 = .ok (.iadd, 1) := by decide +kernel
theorem dX12_goes_40 : decode cX12_goes 40 = .ok (.aload_n 0, 1) := by decide +kernel
theorem dX12_goes_41 : decode cX12_goes 41 = .ok (.iload_n 1, 1) := by decide +kernel
theorem dX12_goes_42 : decode cX12_goes 42 = .ok (.iconst 0, 1) := by decide +kernel
theorem dX12_goes_43 : decode cX12_goes 43 = .ok (.invokevirtual 295, 3) := by decide +kernel
theorem dX12_goes_46 : decode cX12_goes 46 = .ok (.isub, 1) := by decide +kernel
theorem dX12_goes_47 : decode cX12_goes 47 = .ok (.iastore, 1) := by decide +kernel
theorem dX12_goes_48 : decode cX12_goes 48 = .ok (.iconst 1, 1) := by decide +kernel
theorem dX12_goes_49 : decode cX12_goes 49 = .ok (.ireturn, 1) := by decide +kernel
set_option maxRecDepth 100000 in
def f_X12_goes_17  (μ : dtM) : Option (Int32 × dtM) :=
  opRet (0 : Int32) μ
set_option maxRecDepth 100000 in
def f_X12_goes (p0 : Nat) (p1 : Int32) (p2 : Int32) (μ : dtM) : Option (Int32 × dtM) :=
  (opRv 12 μ p0).bind fun _ => opCall (f_X12_isBy p0 p1 p2 μ) fun x4 μ2 => if x4 = 0 then (f_X12_goes_17 μ2) else ((opRv 12 μ2 p0).bind fun _ => opCall (f_X12_isOpen p0 p2 μ2) fun x11 μ9 => if x11 = 0 then (f_X12_goes_17 μ9) else ((opGR 12 0 μ9 p0).bind fun x15 => opCall (f_X12_personRow p1 μ9) fun x19 μ17 => (opRv 12 μ17 p0).bind fun _ => opCall (f_X12_doorOf p0 p2 (0 : Int32) μ17) fun x23 μ21 => (opRv 12 μ21 p0).bind fun _ => opCall (f_X12_doorOf p0 p2 (1 : Int32) μ21) fun x27 μ25 => (opRv 12 μ25 p0).bind fun _ => opCall (f_X12_personOf p0 p1 (0 : Int32) μ25) fun x31 μ29 => (opSI μ29 x15 x19 ((x23 + x27) - x31)).bind fun μ32 => opRet (1 : Int32) μ32))
set_option maxRecDepth 100000 in
theorem c_X12_goes_17 {r : Int32} {F : dtM}  (μ : dtM) (h : f_X12_goes_17  μ = some (r, F)) : dtW yX12_goes cX12_goes 3 (some .boolean) 4 (some (.int r)) F 17 [] [] μ := by
  rw [f_X12_goes_17] at h
  refine dr_iconst (0 : Int32) dX12_goes_17 (by decide) ?_
  obtain ⟨hz, rfl, rfl⟩ := dtRet h
  exact dr_ireturn dX12_goes_18 (dtNz hz)
set_option maxRecDepth 100000 in
theorem c_X12_goes {r : Int32} {F : dtM} (p0 : Nat) (p1 : Int32) (p2 : Int32) (μ : dtM) (h : f_X12_goes p0 p1 p2 μ = some (r, F)) : dtMet yX12_goes cX12_goes 3 (some .boolean) 4 [.ref p0, .int p1, .int p2] μ (some (.int r)) F := by
  refine dtMet.of (by decide +kernel) (Nat.le_of_ble_eq_true rfl) (show dtW yX12_goes cX12_goes 3 (some .boolean) 4 (some (.int r)) F 0 [some (.ref p0), some (.int p1), some (.int p2)] [] μ from ?_)
  rw [f_X12_goes] at h
  refine dr_aload_n p0 dX12_goes_0 rfl ?_
  refine dr_iload_n p1 dX12_goes_1 rfl ?_
  refine dr_iload_n p2 dX12_goes_2 rfl ?_
  obtain ⟨_, hb1, h⟩ := dtBind h
  obtain ⟨x4, μ2, e3, h⟩ := dtCall h
  refine dr_callV_i (S0 := []) [.int p1, .int p2] x4 μ2 dX12_goes_3 (c_X12_isBy p0 p1 p2 μ e3) mf_X12_isBy wt_1807 ws_105 wt_1805 rfl (dtRv hb1) (by decide) rfl (Nat.le_of_ble_eq_true rfl) (Nat.le_of_ble_eq_true rfl) rfl ?_
  obtain ⟨ht6, hf7⟩ := dtIte h
  refine dr_if_eq 17 dX12_goes_6 (by decide) (fun hc5 => ?_) (fun hc5 => ?_)
  · have h := ht6 hc5
    refine dr_mask [] [] rfl ?_
    exact c_X12_goes_17 μ2 h
  · have h := hf7 hc5
    refine dr_aload_n p0 dX12_goes_9 rfl ?_
    refine dr_iload_n p2 dX12_goes_10 rfl ?_
    obtain ⟨_, hb8, h⟩ := dtBind h
    obtain ⟨x11, μ9, e10, h⟩ := dtCall h
    refine dr_callV_i (S0 := []) [.int p2] x11 μ9 dX12_goes_11 (c_X12_isOpen p0 p2 μ2 e10) mf_X12_isOpen wt_1757 ws_99 wt_1755 rfl (dtRv hb8) (by decide) rfl (Nat.le_of_ble_eq_true rfl) (Nat.le_of_ble_eq_true rfl) rfl ?_
    obtain ⟨ht13, hf14⟩ := dtIte h
    refine dr_if_ne 19 dX12_goes_14 (by decide) (fun hc12 => ?_) (fun hc12 => ?_)
    · have h := hf14 hc12
      refine dr_aload_n p0 dX12_goes_19 rfl ?_
      obtain ⟨x15, e16, h⟩ := dtBind h
      refine dr_getR x15 dX12_goes_20 fl_RX12_7 e16 ?_
      refine dr_iload_n p1 dX12_goes_23 rfl ?_
      obtain ⟨x19, μ17, e18, h⟩ := dtCall h
      refine dr_callS_i (S0 := [.ref x15]) [.int p1] x19 μ17 dX12_goes_24 (c_X12_personRow p1 μ9 e18) mf_X12_personRow wt_1652 wt_1651 rfl (Nat.le_of_ble_eq_true rfl) (Nat.le_of_ble_eq_true rfl) rfl ?_
      refine dr_aload_n p0 dX12_goes_27 rfl ?_
      refine dr_iload_n p2 dX12_goes_28 rfl ?_
      refine dr_iconst (0 : Int32) dX12_goes_29 (by decide) ?_
      obtain ⟨_, hb20, h⟩ := dtBind h
      obtain ⟨x23, μ21, e22, h⟩ := dtCall h
      refine dr_callV_i (S0 := [.int x19, .ref x15]) [.int p2, .int (0 : Int32)] x23 μ21 dX12_goes_30 (c_X12_doorOf p0 p2 (0 : Int32) μ17 e22) mf_X12_doorOf wt_1712 ws_93 wt_1710 rfl (dtRv hb20) (by decide) rfl (Nat.le_of_ble_eq_true rfl) (Nat.le_of_ble_eq_true rfl) rfl ?_
      refine dr_aload_n p0 dX12_goes_33 rfl ?_
      refine dr_iload_n p2 dX12_goes_34 rfl ?_
      refine dr_iconst (1 : Int32) dX12_goes_35 (by decide) ?_
      obtain ⟨_, hb24, h⟩ := dtBind h
      obtain ⟨x27, μ25, e26, h⟩ := dtCall h
      refine dr_callV_i (S0 := [.int x23, .int x19, .ref x15]) [.int p2, .int (1 : Int32)] x27 μ25 dX12_goes_36 (c_X12_doorOf p0 p2 (1 : Int32) μ21 e26) mf_X12_doorOf wt_1712 ws_93 wt_1710 rfl (dtRv hb24) (by decide) rfl (Nat.le_of_ble_eq_true rfl) (Nat.le_of_ble_eq_true rfl) rfl ?_
      refine dr_iadd dX12_goes_39 ?_
      refine dr_aload_n p0 dX12_goes_40 rfl ?_
      refine dr_iload_n p1 dX12_goes_41 rfl ?_
      refine dr_iconst (0 : Int32) dX12_goes_42 (by decide) ?_
      obtain ⟨_, hb28, h⟩ := dtBind h
      obtain ⟨x31, μ29, e30, h⟩ := dtCall h
      refine dr_callV_i (S0 := [.int (x23 + x27), .int x19, .ref x15]) [.int p1, .int (0 : Int32)] x31 μ29 dX12_goes_43 (c_X12_personOf p0 p1 (0 : Int32) μ25 e30) mf_X12_personOf wt_1736 ws_96 wt_1734 rfl (dtRv hb28) (by decide) rfl (Nat.le_of_ble_eq_true rfl) (Nat.le_of_ble_eq_true rfl) rfl ?_
      refine dr_isub dX12_goes_46 ?_
      obtain ⟨μ32, e33, h⟩ := dtBind h
      refine dr_iastore μ32 dX12_goes_47 e33 ?_
      refine dr_iconst (1 : Int32) dX12_goes_48 (by decide) ?_
      obtain ⟨hz, rfl, rfl⟩ := dtRet h
      exact dr_ireturn dX12_goes_49 (dtNz hz)
    · have h := ht13 hc12
      refine dr_mask [] [] rfl ?_
      exact c_X12_goes_17 μ9 h
/-! X12_forgets -/
theorem dX12_forgets_0 : decode cX12_forgets 0 = .ok (.iload_n 1, 1) := by decide +kernel
theorem dX12_forgets_1 : decode cX12_forgets 1 = .ok (.invokestatic 238, 3) := by decide +kernel
theorem dX12_forgets_4 : decode cX12_forgets 4 = .ok (.istore_n 2, 1) := by decide +kernel
theorem dX12_forgets_5 : decode cX12_forgets 5 = .ok (.aload_n 0, 1) := by decide +kernel
theorem dX12_forgets_6 : decode cX12_forgets 6 = .ok (.getfield 7, 3) := by decide +kernel
theorem dX12_forgets_9 : decode cX12_forgets 9 = .ok (.iload_n 2, 1) := by decide +kernel
theorem dX12_forgets_10 : decode cX12_forgets 10 = .ok (.iconst 3, 1) := by decide +kernel
theorem dX12_forgets_11 : decode cX12_forgets 11 = .ok (.iadd, 1) := by decide +kernel
theorem dX12_forgets_12 : decode cX12_forgets 12 = .ok (.iaload, 1) := by decide +kernel
theorem dX12_forgets_13 : decode cX12_forgets 13 = .ok (.istore_n 3, 1) := by decide +kernel
theorem dX12_forgets_14 : decode cX12_forgets 14 = .ok (.iconst 3, 1) := by decide +kernel
theorem dX12_forgets_15 : decode cX12_forgets 15 = .ok (.istore 4, 2) := by decide +kernel
theorem dX12_forgets_17 : decode cX12_forgets 17 = .ok (.iload 4, 2) := by decide +kernel
theorem dX12_forgets_19 : decode cX12_forgets 19 = .ok (.bipush 12, 2) := by decide +kernel
theorem dX12_forgets_21 : decode cX12_forgets 21 = .ok (.if_icmp .ge 19, 3) := by decide +kernel
theorem dX12_forgets_24 : decode cX12_forgets 24 = .ok (.aload_n 0, 1) := by decide +kernel
theorem dX12_forgets_25 : decode cX12_forgets 25 = .ok (.getfield 7, 3) := by decide +kernel
theorem dX12_forgets_28 : decode cX12_forgets 28 = .ok (.iload_n 2, 1) := by decide +kernel
theorem dX12_forgets_29 : decode cX12_forgets 29 = .ok (.iload 4, 2) := by decide +kernel
theorem dX12_forgets_31 : decode cX12_forgets 31 = .ok (.iadd, 1) := by decide +kernel
theorem dX12_forgets_32 : decode cX12_forgets 32 = .ok (.iconst 0, 1) := by decide +kernel
theorem dX12_forgets_33 : decode cX12_forgets 33 = .ok (.iastore, 1) := by decide +kernel
theorem dX12_forgets_34 : decode cX12_forgets 34 = .ok (.iinc 4 1, 3) := by decide +kernel
theorem dX12_forgets_37 : decode cX12_forgets 37 = .ok (.goto (-20), 3) := by decide +kernel
theorem dX12_forgets_40 : decode cX12_forgets 40 = .ok (.iload_n 3, 1) := by decide +kernel
theorem dX12_forgets_41 : decode cX12_forgets 41 = .ok (.ireturn, 1) := by decide +kernel
set_option maxRecDepth 100000 in
def f_X12_forgets_17 : Nat → Nat → Int32 → Int32 → Int32 → dtM → Option (Int32 × dtM)
  | 0, _, _, _, _, _ => none
  | n + 1, l0, l2, l3, l4, μ =>
    if (12 : Int32) ≤ l4 then (some (l3, μ)) else ((opGR 12 0 μ l0).bind fun x4 => (opSI μ x4 (l2 + l4) (0 : Int32)).bind fun μ6 => f_X12_forgets_17 n l0 l2 l3 (l4 + 1) μ6)
set_option maxRecDepth 100000 in
def f_X12_forgets (p0 : Nat) (p1 : Int32) (μ : dtM) : Option (Int32 × dtM) :=
  opCall (f_X12_personRow p1 μ) fun x3 μ1 => (opGR 12 0 μ1 p0).bind fun x4 => (opLI 1 μ1 x4 (x3 + (3 : Int32))).bind fun x6 => f_X12_forgets_17 dtFuel p0 x3 x6 (3 : Int32) μ1
set_option maxRecDepth 100000 in
theorem c_X12_forgets_17 {r : Int32} {F : dtM} : ∀ (n : Nat) (l0 : Nat) (l2 : Int32) (l3 : Int32) (l4 : Int32) (μ : dtM), f_X12_forgets_17 n l0 l2 l3 l4 μ = some (r, F) → dtW yX12_forgets cX12_forgets 5 (some .int) 2 (some (.int r)) F 17 [some (.ref l0), none, some (.int l2), some (.int l3), some (.int l4)] [] μ := by
  intro n
  induction n with
  | zero => intro l0 l2 l3 l4 μ h; cases h
  | succ n ih =>
    intro l0 l2 l3 l4 μ h
    have h := (show f_X12_forgets_17 (n + 1) l0 l2 l3 l4 μ = some _ from h)
    rw [f_X12_forgets_17] at h
    refine dr_iload l4 dX12_forgets_17 rfl ?_
    refine dr_bipush (12 : Int32) dX12_forgets_19 (by decide) ?_
    obtain ⟨ht2, hf3⟩ := dtIte h
    refine dr_icmp_ge 40 dX12_forgets_21 (by decide) (fun hc1 => ?_) (fun hc1 => ?_)
    · have h := ht2 hc1
      refine dr_iload_n l3 dX12_forgets_40 rfl ?_
      cases h
      exact dr_ireturn dX12_forgets_41 rfl
    · have h := hf3 hc1
      refine dr_aload_n l0 dX12_forgets_24 rfl ?_
      obtain ⟨x4, e5, h⟩ := dtBind h
      refine dr_getR x4 dX12_forgets_25 fl_RX12_7 e5 ?_
      refine dr_iload_n l2 dX12_forgets_28 rfl ?_
      refine dr_iload l4 dX12_forgets_29 rfl ?_
      refine dr_iadd dX12_forgets_31 ?_
      refine dr_iconst (0 : Int32) dX12_forgets_32 (by decide) ?_
      obtain ⟨μ6, e7, h⟩ := dtBind h
      refine dr_iastore μ6 dX12_forgets_33 e7 ?_
      refine dr_iinc l4 (l4 + 1) [some (.ref l0), none, some (.int l2), some (.int l3), some (.int (l4 + 1))] dX12_forgets_34 rfl rfl rfl rfl rfl ?_
      refine dr_goto 17 dX12_forgets_37 (by decide) ?_
      exact ih l0 l2 l3 (l4 + 1) μ6 h
set_option maxRecDepth 100000 in
theorem c_X12_forgets {r : Int32} {F : dtM} (p0 : Nat) (p1 : Int32) (μ : dtM) (h : f_X12_forgets p0 p1 μ = some (r, F)) : dtMet yX12_forgets cX12_forgets 5 (some .int) 2 [.ref p0, .int p1] μ (some (.int r)) F := by
  refine dtMet.of (by decide +kernel) (Nat.le_of_ble_eq_true rfl) (show dtW yX12_forgets cX12_forgets 5 (some .int) 2 (some (.int r)) F 0 [some (.ref p0), some (.int p1)] [] μ from ?_)
  rw [f_X12_forgets] at h
  refine dr_iload_n p1 dX12_forgets_0 rfl ?_
  obtain ⟨x3, μ1, e2, h⟩ := dtCall h
  refine dr_callS_i (S0 := []) [.int p1] x3 μ1 dX12_forgets_1 (c_X12_personRow p1 μ e2) mf_X12_personRow wt_1652 wt_1651 rfl (Nat.le_of_ble_eq_true rfl) (Nat.le_of_ble_eq_true rfl) rfl ?_
  refine dr_istore_n 2 [some (.ref p0), some (.int p1), some (.int x3)] dX12_forgets_4 rfl rfl rfl rfl ?_
  refine dr_aload_n p0 dX12_forgets_5 rfl ?_
  obtain ⟨x4, e5, h⟩ := dtBind h
  refine dr_getR x4 dX12_forgets_6 fl_RX12_7 e5 ?_
  refine dr_iload_n x3 dX12_forgets_9 rfl ?_
  refine dr_iconst (3 : Int32) dX12_forgets_10 (by decide) ?_
  refine dr_iadd dX12_forgets_11 ?_
  obtain ⟨x6, e7, h⟩ := dtBind h
  refine dr_iaload x6 dX12_forgets_12 e7 ?_
  refine dr_istore_n 3 [some (.ref p0), some (.int p1), some (.int x3), some (.int x6)] dX12_forgets_13 rfl rfl rfl rfl ?_
  refine dr_iconst (3 : Int32) dX12_forgets_14 (by decide) ?_
  refine dr_istore [some (.ref p0), some (.int p1), some (.int x3), some (.int x6), some (.int (3 : Int32))] dX12_forgets_15 rfl rfl rfl ?_
  refine dr_mask [true, false, true, true, true] [some (.ref p0), none, some (.int x3), some (.int x6), some (.int (3 : Int32))] rfl ?_
  exact c_X12_forgets_17 dtFuel p0 x3 x6 (3 : Int32) μ1 h
