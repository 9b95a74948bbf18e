/-! X12_copies -/
theorem dX12_copies_0 : decode cX12_copies 0 = .ok (.iconst 0, 1) := by decide +kernel
theorem dX12_copies_1 : decode cX12_copies 1 = .ok (.istore_n 3, 1) := by decide +kernel
theorem dX12_copies_2 : decode cX12_copies 2 = .ok (.iload_n 3, 1) := by decide +kernel
theorem dX12_copies_3 : decode cX12_copies 3 = .ok (.sipush 504, 3) := by decide +kernel
theorem dX12_copies_6 : decode cX12_copies 6 = .ok (.if_icmp .ge 33, 3) := by decide +kernel
theorem dX12_copies_9 : decode cX12_copies 9 = .ok (.aload_n 0, 1) := by decide +kernel
theorem dX12_copies_10 : decode cX12_copies 10 = .ok (.getfield 7, 3) := by decide +kernel
theorem dX12_copies_13 : decode cX12_copies 13 = .ok (.sipush 504, 3) := by decide +kernel
theorem dX12_copies_16 : decode cX12_copies 16 = .ok (.iload_n 2, 1) := by decide +kernel
theorem dX12_copies_17 : decode cX12_copies 17 = .ok (.imul, 1) := by decide +kernel
theorem dX12_copies_18 : decode cX12_copies 18 = .ok (.iload_n 3, 1) := by decide +kernel
theorem dX12_copies_19 : decode cX12_copies 19 = .ok (.iadd, 1) := by decide +kernel
theorem dX12_copies_20 : decode cX12_copies 20 = .ok (.aload_n 0, 1) := by decide +kernel
theorem dX12_copies_21 : decode cX12_copies 21 = .ok (.getfield 7, 3) := by decide +kernel
theorem dX12_copies_24 : decode cX12_copies 24 = .ok (.sipush 504, 3) := by decide +kernel
theorem dX12_copies_27 : decode cX12_copies 27 = .ok (.iload_n 1, 1) := by decide +kernel
theorem dX12_copies_28 : decode cX12_copies 28 = .ok (.imul, 1) := by decide +kernel
theorem dX12_copies_29 : decode cX12_copies 29 = .ok (.iload_n 3, 1) := by decide +kernel
theorem dX12_copies_30 : decode cX12_copies 30 = .ok (.iadd, 1) := by decide +kernel
theorem dX12_copies_31 : decode cX12_copies 31 = .ok (.iaload, 1) := by decide +kernel
theorem dX12_copies_32 : decode cX12_copies 32 = .ok (.iastore, 1) := by decide +kernel
theorem dX12_copies_33 : decode cX12_copies 33 = .ok (.iinc 3 1, 3) := by decide +kernel
theorem dX12_copies_36 : decode cX12_copies 36 = .ok (.goto (-34), 3) := by decide +kernel
theorem dX12_copies_39 : decode cX12_copies 39 = .ok (.iconst 0, 1) := by decide +kernel
theorem dX12_copies_40 : decode cX12_copies 40 = .ok (.istore_n 3, 1) := by decide +kernel
theorem dX12_copies_41 : decode cX12_copies 41 = .ok (.iload_n 3, 1) := by decide +kernel
theorem dX12_copies_42 : decode cX12_copies 42 = .ok (.bipush 19, 2) := by decide +kernel
theorem dX12_copies_44 : decode cX12_copies 44 = .ok (.if_icmp .ge 31, 3) := by decide +kernel
theorem dX12_copies_47 : decode cX12_copies 47 = .ok (.aload_n 0, 1) := by decide +kernel
theorem dX12_copies_48 : decode cX12_copies 48 = .ok (.getfield 13, 3) := by decide +kernel
theorem dX12_copies_51 : decode cX12_copies 51 = .ok (.bipush 19, 2) := by decide +kernel
theorem dX12_copies_53 : decode cX12_copies 53 = .ok (.iload_n 2, 1) := by decide +kernel
theorem dX12_copies_54 : decode cX12_copies 54 = .ok (.imul, 1) := by decide +kernel
theorem dX12_copies_55 : decode cX12_copies 55 = .ok (.iload_n 3, 1) := by decide +kernel
theorem dX12_copies_56 : decode cX12_copies 56 = .ok (.iadd, 1) := by decide +kernel
theorem dX12_copies_57 : decode cX12_copies 57 = .ok (.aload_n 0, 1) := by decide +kernel
theorem dX12_copies_58 : decode cX12_copies 58 = .ok (.getfield 13, 3) := by decide +kernel
theorem dX12_copies_61 : decode cX12_copies 61 = .ok (.bipush 19, 2) := by decide +kernel
theorem dX12_copies_63 : decode cX12_copies 63 = .ok (.iload_n 1, 1) := by decide +kernel
theorem dX12_copies_64 : decode cX12_copies 64 = .ok (.imul, 1) := by decide +kernel
theorem dX12_copies_65 : decode cX12_copies 65 = .ok (.iload_n 3, 1) := by decide +kernel
theorem dX12_copies_66 : decode cX12_copies 66 = .ok (.iadd, 1) := by decide +kernel
theorem dX12_copies_67 : decode cX12_copies 67 = .ok (.laload, 1) := by decide +kernel
theorem dX12_copies_68 : decode cX12_copies 68 = .ok (.lastore, 1) := by decide +kernel
theorem dX12_copies_69 : decode cX12_copies 69 = .ok (.iinc 3 1, 3) := by decide +kernel
theorem dX12_copies_72 : decode cX12_copies 72 = .ok (.goto (-31), 3) := by decide +kernel
theorem dX12_copies_75 : decode cX12_copies 75 = .ok (.return_, 1) := by decide +kernel
set_option maxRecDepth 100000 in
def f_X12_copies_41 : Nat → Nat → Int32 → Int32 → Int32 → dtM → Option dtM
  | 0, _, _, _, _, _ => none
  | n + 1, l0, l1, l2, l3, μ =>
    if (19 : Int32) ≤ l3 then (some μ) else ((opGR 12 1 μ l0).bind fun x4 => (opGR 12 1 μ l0).bind fun x6 => (opLJ 3 μ x6 (((19 : Int32) * l1) + l3)).bind fun x8 => (opSJ μ x4 (((19 : Int32) * l2) + l3) x8).bind fun μ10 => f_X12_copies_41 n l0 l1 l2 (l3 + 1) μ10)
set_option maxRecDepth 100000 in
def f_X12_copies_2 : Nat → Nat → Int32 → Int32 → Int32 → dtM → Option dtM
  | 0, _, _, _, _, _ => none
  | n + 1, l0, l1, l2, l3, μ =>
    if (504 : Int32) ≤ l3 then (f_X12_copies_41 dtFuel l0 l1 l2 (0 : Int32) μ) else ((opGR 12 0 μ l0).bind fun x4 => (opGR 12 0 μ l0).bind fun x6 => (opLI 1 μ x6 (((504 : Int32) * l1) + l3)).bind fun x8 => (opSI μ x4 (((504 : Int32) * l2) + l3) x8).bind fun μ10 => f_X12_copies_2 n l0 l1 l2 (l3 + 1) μ10)
set_option maxRecDepth 100000 in
def f_X12_copies (p0 : Nat) (p1 : Int32) (p2 : Int32) (μ : dtM) : Option dtM :=
  f_X12_copies_2 dtFuel p0 p1 p2 (0 : Int32) μ
set_option maxRecDepth 100000 in
theorem c_X12_copies_41 {F : dtM} : ∀ (n : Nat) (l0 : Nat) (l1 : Int32) (l2 : Int32) (l3 : Int32) (μ : dtM), f_X12_copies_41 n l0 l1 l2 l3 μ = some F → dtW yX12_copies cX12_copies 4 (none) 1 (none) F 41 [some (.ref l0), some (.int l1), some (.int l2), some (.int l3)] [] μ := by
  intro n
  induction n with
  | zero => intro l0 l1 l2 l3 μ h; cases h
  | succ n ih =>
    intro l0 l1 l2 l3 μ h
    have h := (show f_X12_copies_41 (n + 1) l0 l1 l2 l3 μ = some _ from h)
    rw [f_X12_copies_41] at h
    refine dr_iload_n l3 dX12_copies_41 rfl ?_
    refine dr_bipush (19 : Int32) dX12_copies_42 (by decide) ?_
    obtain ⟨ht2, hf3⟩ := dtIte h
    refine dr_icmp_ge 75 dX12_copies_44 (by decide) (fun hc1 => ?_) (fun hc1 => ?_)
    · have h := ht2 hc1
      cases h
      exact dr_return dX12_copies_75
    · have h := hf3 hc1
      refine dr_aload_n l0 dX12_copies_47 rfl ?_
      obtain ⟨x4, e5, h⟩ := dtBind h
      refine dr_getR x4 dX12_copies_48 fl_RX12_13 e5 ?_
      refine dr_bipush (19 : Int32) dX12_copies_51 (by decide) ?_
      refine dr_iload_n l2 dX12_copies_53 rfl ?_
      refine dr_imul dX12_copies_54 ?_
      refine dr_iload_n l3 dX12_copies_55 rfl ?_
      refine dr_iadd dX12_copies_56 ?_
      refine dr_aload_n l0 dX12_copies_57 rfl ?_
      obtain ⟨x6, e7, h⟩ := dtBind h
      refine dr_getR x6 dX12_copies_58 fl_RX12_13 e7 ?_
      refine dr_bipush (19 : Int32) dX12_copies_61 (by decide) ?_
      refine dr_iload_n l1 dX12_copies_63 rfl ?_
      refine dr_imul dX12_copies_64 ?_
      refine dr_iload_n l3 dX12_copies_65 rfl ?_
      refine dr_iadd dX12_copies_66 ?_
      obtain ⟨x8, e9, h⟩ := dtBind h
      refine dr_laload x8 dX12_copies_67 e9 ?_
      obtain ⟨μ10, e11, h⟩ := dtBind h
      refine dr_lastore μ10 dX12_copies_68 e11 ?_
      refine dr_iinc l3 (l3 + 1) [some (.ref l0), some (.int l1), some (.int l2), some (.int (l3 + 1))] dX12_copies_69 rfl rfl rfl rfl rfl ?_
      refine dr_goto 41 dX12_copies_72 (by decide) ?_
      exact ih l0 l1 l2 (l3 + 1) μ10 h
set_option maxRecDepth 100000 in
theorem c_X12_copies_2 {F : dtM} : ∀ (n : Nat) (l0 : Nat) (l1 : Int32) (l2 : Int32) (l3 : Int32) (μ : dtM), f_X12_copies_2 n l0 l1 l2 l3 μ = some F → dtW yX12_copies cX12_copies 4 (none) 1 (none) F 2 [some (.ref l0), some (.int l1), some (.int l2), some (.int l3)] [] μ := by
  intro n
  induction n with
  | zero => intro l0 l1 l2 l3 μ h; cases h
  | succ n ih =>
    intro l0 l1 l2 l3 μ h
    have h := (show f_X12_copies_2 (n + 1) l0 l1 l2 l3 μ = some _ from h)
    rw [f_X12_copies_2] at h
    refine dr_iload_n l3 dX12_copies_2 rfl ?_
    refine dr_sipush (504 : Int32) dX12_copies_3 (by decide) ?_
    obtain ⟨ht2, hf3⟩ := dtIte h
    refine dr_icmp_ge 39 dX12_copies_6 (by decide) (fun hc1 => ?_) (fun hc1 => ?_)
    · have h := ht2 hc1
      refine dr_iconst (0 : Int32) dX12_copies_39 (by decide) ?_
      refine dr_istore_n 3 [some (.ref l0), some (.int l1), some (.int l2), some (.int (0 : Int32))] dX12_copies_40 rfl rfl rfl rfl ?_
      exact c_X12_copies_41 dtFuel l0 l1 l2 (0 : Int32) μ h
    · have h := hf3 hc1
      refine dr_aload_n l0 dX12_copies_9 rfl ?_
      obtain ⟨x4, e5, h⟩ := dtBind h
      refine dr_getR x4 dX12_copies_10 fl_RX12_7 e5 ?_
      refine dr_sipush (504 : Int32) dX12_copies_13 (by decide) ?_
      refine dr_iload_n l2 dX12_copies_16 rfl ?_
      refine dr_imul dX12_copies_17 ?_
      refine dr_iload_n l3 dX12_copies_18 rfl ?_
      refine dr_iadd dX12_copies_19 ?_
      refine dr_aload_n l0 dX12_copies_20 rfl ?_
      obtain ⟨x6, e7, h⟩ := dtBind h
      refine dr_getR x6 dX12_copies_21 fl_RX12_7 e7 ?_
      refine dr_sipush (504 : Int32) dX12_copies_24 (by decide) ?_
      refine dr_iload_n l1 dX12_copies_27 rfl ?_
      refine dr_imul dX12_copies_28 ?_
      refine dr_iload_n l3 dX12_copies_29 rfl ?_
      refine dr_iadd dX12_copies_30 ?_
      obtain ⟨x8, e9, h⟩ := dtBind h
      refine dr_iaload x8 dX12_copies_31 e9 ?_
      obtain ⟨μ10, e11, h⟩ := dtBind h
      refine dr_iastore μ10 dX12_copies_32 e11 ?_
      refine dr_iinc l3 (l3 + 1) [some (.ref l0), some (.int l1), some (.int l2), some (.int (l3 + 1))] dX12_copies_33 rfl rfl rfl rfl rfl ?_
      refine dr_goto 2 dX12_copies_36 (by decide) ?_
      exact ih l0 l1 l2 (l3 + 1) μ10 h
set_option maxRecDepth 100000 in
theorem c_X12_copies {F : dtM} (p0 : Nat) (p1 : Int32) (p2 : Int32) (μ : dtM) (h : f_X12_copies p0 p1 p2 μ = some F) : dtMet yX12_copies cX12_copies 4 (none) 1 [.ref p0, .int p1, .int p2] μ (none) F := by
  refine dtMet.of (by decide +kernel) (Nat.le_of_ble_eq_true rfl) (show dtW yX12_copies cX12_copies 4 (none) 1 (none) F 0 [some (.ref p0), some (.int p1), some (.int p2)] [] μ from ?_)
  rw [f_X12_copies] at h
  refine dr_iconst (0 : Int32) dX12_copies_0 (by decide) ?_
  refine dr_istore_n 3 [some (.ref p0), some (.int p1), some (.int p2), some (.int (0 : Int32))] dX12_copies_1 rfl rfl rfl rfl ?_
  exact c_X12_copies_2 dtFuel p0 p1 p2 (0 : Int32) μ h
/-! X12_mark -/
theorem dX12_mark_0 : decode cX12_mark 0 = .ok (.aload_n 0, 1) := by decide +kernel
theorem dX12_mark_1 : decode cX12_mark 1 = .ok (.getfield 479, 3) := by decide +kernel
theorem dX12_mark_4 : decode cX12_mark 4 = .ok (.iconst 3, 1) := by decide +kernel
theorem dX12_mark_5 : decode cX12_mark 5 = .ok (.if_icmp .ne 9, 3) := by decide +kernel
theorem dX12_mark_8 : decode cX12_mark 8 = .ok (.aload_n 0, 1) := by decide +kernel
theorem dX12_mark_9 : decode cX12_mark 9 = .ok (.iconst 4, 1) := by decide +kernel
theorem dX12_mark_10 : decode cX12_mark 10 = .ok (.invokevirtual 93, 3) := by decide +kernel
theorem dX12_mark_13 : decode cX12_mark 13 = .ok (.ireturn, 1) := by decide +kernel
theorem dX12_mark_14 : decode cX12_mark 14 = .ok (.aload_n 0, 1) := by decide +kernel
theorem dX12_mark_15 : decode cX12_mark 15 = .ok (.dup, 1) := by decide +kernel
theorem dX12_mark_16 : decode cX12_mark 16 = .ok (.getfield 479, 3) := by decide +kernel
theorem dX12_mark_19 : decode cX12_mark 19 = .ok (.iconst 1, 1) := by decide +kernel
theorem dX12_mark_20 : decode cX12_mark 20 = .ok (.iadd, 1) := by decide +kernel
theorem dX12_mark_21 : decode cX12_mark 21 = .ok (.putfield 479, 3) := by decide +kernel
theorem dX12_mark_24 : decode cX12_mark 24 = .ok (.aload_n 0, 1) := by decide +kernel
theorem dX12_mark_25 : decode cX12_mark 25 = .ok (.iconst 0, 1) := by decide +kernel
theorem dX12_mark_26 : decode cX12_mark 26 = .ok (.aload_n 0, 1) := by decide +kernel
theorem dX12_mark_27 : decode cX12_mark 27 = .ok (.getfield 479, 3) := by decide +kernel
theorem dX12_mark_30 : decode cX12_mark 30 = .ok (.invokevirtual 482, 3) := by decide +kernel
theorem dX12_mark_33 : decode cX12_mark 33 = .ok (.aload_n 0, 1) := by decide +kernel
theorem dX12_mark_34 : decode cX12_mark 34 = .ok (.aload_n 0, 1) := by decide +kernel
theorem dX12_mark_35 : decode cX12_mark 35 = .ok (.getfield 479, 3) := by decide +kernel
theorem dX12_mark_38 : decode cX12_mark 38 = .ok (.invokevirtual 97, 3) := by decide +kernel
theorem dX12_mark_41 : decode cX12_mark 41 = .ok (.ireturn, 1) := by decide +kernel
set_option maxRecDepth 100000 in
def f_X12_mark (p0 : Nat) (μ : dtM) : Option (Int32 × dtM) :=
  (opGI 12 40 μ p0).bind fun x1 => if x1 = (3 : Int32) then ((opRv 12 μ p0).bind fun _ => opCall (f_X12_refuse p0 (4 : Int32) μ) fun x24 μ22 => some (x24, μ22)) else ((opGI 12 40 μ p0).bind fun x6 => (opPI 12 40 μ p0 (x6 + (1 : Int32))).bind fun μ8 => (opGI 12 40 μ8 p0).bind fun x10 => (opRv 12 μ8 p0).bind fun _ => (f_X12_copies p0 (0 : Int32) x10 μ8).bind fun μ13 => (opGI 12 40 μ13 p0).bind fun x15 => (opRv 12 μ13 p0).bind fun _ => opCall (f_X12_gives p0 x15 μ13) fun x20 μ18 => some (x20, μ18))
set_option maxRecDepth 100000 in
theorem c_X12_mark {r : Int32} {F : dtM} (p0 : Nat) (μ : dtM) (h : f_X12_mark p0 μ = some (r, F)) : dtMet yX12_mark cX12_mark 1 (some .int) 2 [.ref p0] μ (some (.int r)) F := by
  refine dtMet.of (by decide +kernel) (Nat.le_of_ble_eq_true rfl) (show dtW yX12_mark cX12_mark 1 (some .int) 2 (some (.int r)) F 0 [some (.ref p0)] [] μ from ?_)
  rw [f_X12_mark] at h
  refine dr_aload_n p0 dX12_mark_0 rfl ?_
  obtain ⟨x1, e2, h⟩ := dtBind h
  refine dr_getI x1 dX12_mark_1 fl_RX12_479 e2 ?_
  refine dr_iconst (3 : Int32) dX12_mark_4 (by decide) ?_
  obtain ⟨ht4, hf5⟩ := dtIte h
  refine dr_icmp_ne 14 dX12_mark_5 (by decide) (fun hc3 => ?_) (fun hc3 => ?_)
  · have h := hf5 hc3
    refine dr_aload_n p0 dX12_mark_14 rfl ?_
    refine dr_dup dX12_mark_15 rfl ?_
    obtain ⟨x6, e7, h⟩ := dtBind h
    refine dr_getI x6 dX12_mark_16 fl_RX12_479 e7 ?_
    refine dr_iconst (1 : Int32) dX12_mark_19 (by decide) ?_
    refine dr_iadd dX12_mark_20 ?_
    obtain ⟨μ8, e9, h⟩ := dtBind h
    refine dr_putI μ8 dX12_mark_21 fl_RX12_479 rfl e9 ?_
    refine dr_aload_n p0 dX12_mark_24 rfl ?_
    refine dr_iconst (0 : Int32) dX12_mark_25 (by decide) ?_
    refine dr_aload_n p0 dX12_mark_26 rfl ?_
    obtain ⟨x10, e11, h⟩ := dtBind h
    refine dr_getI x10 dX12_mark_27 fl_RX12_479 e11 ?_
    obtain ⟨_, hb12, h⟩ := dtBind h
    obtain ⟨μ13, e14, h⟩ := dtBind h
    refine dr_callV_v (S0 := []) [.int (0 : Int32), .int x10] μ13 dX12_mark_30 (c_X12_copies p0 (0 : Int32) x10 μ8 e14) mf_X12_copies wt_2078 ws_137 wt_2076 rfl (dtRv hb12) (by decide) rfl (Nat.le_of_ble_eq_true rfl) (Nat.le_of_ble_eq_true rfl) rfl ?_
    refine dr_aload_n p0 dX12_mark_33 rfl ?_
    refine dr_aload_n p0 dX12_mark_34 rfl ?_
    obtain ⟨x15, e16, h⟩ := dtBind h
    refine dr_getI x15 dX12_mark_35 fl_RX12_479 e16 ?_
    obtain ⟨_, hb17, h⟩ := dtBind h
    obtain ⟨x20, μ18, e19, h⟩ := dtCall h
    refine dr_callV_i (S0 := []) [.int x15] x20 μ18 dX12_mark_38 (c_X12_gives p0 x15 μ13 e19) mf_X12_gives wt_1668 ws_85 wt_1666 rfl (dtRv hb17) (by decide) rfl (Nat.le_of_ble_eq_true rfl) (Nat.le_of_ble_eq_true rfl) rfl ?_
    cases h
    exact dr_ireturn dX12_mark_41 rfl
  · have h := ht4 hc3
    refine dr_aload_n p0 dX12_mark_8 rfl ?_
    refine dr_iconst (4 : Int32) dX12_mark_9 (by decide) ?_
    obtain ⟨_, hb21, h⟩ := dtBind h
    obtain ⟨x24, μ22, e23, h⟩ := dtCall h
    refine dr_callV_i (S0 := []) [.int (4 : Int32)] x24 μ22 dX12_mark_10 (c_X12_refuse p0 (4 : Int32) μ e23) mf_X12_refuse wt_1552 ws_59 wt_1550 rfl (dtRv hb21) (by decide) rfl (Nat.le_of_ble_eq_true rfl) (Nat.le_of_ble_eq_true rfl) rfl ?_
    cases h
    exact dr_ireturn dX12_mark_13 rfl
/-! X12_undo -/
theorem dX12_undo_0 : decode cX12_undo 0 = .ok (.aload_n 0, 1) := by decide +kernel
theorem dX12_undo_1 : decode cX12_undo 1 = .ok (.getfield 479, 3) := by decide +kernel
theorem dX12_undo_4 : decode cX12_undo 4 = .ok (.ifCond .ne 10, 3) := by decide +kernel
theorem dX12_undo_7 : decode cX12_undo 7 = .ok (.aload_n 0, 1) := by decide +kernel
theorem dX12_undo_8 : decode cX12_undo 8 = .ok (.bipush 6, 2) := by decide +kernel
theorem dX12_undo_10 : decode cX12_undo 10 = .ok (.invokevirtual 93, 3) := by decide +kernel
theorem dX12_undo_13 : decode cX12_undo 13 = .ok (.ireturn, 1) := by decide +kernel
theorem dX12_undo_14 : decode cX12_undo 14 = .ok (.aload_n 0, 1) := by decide +kernel
theorem dX12_undo_15 : decode cX12_undo 15 = .ok (.aload_n 0, 1) := by decide +kernel
theorem dX12_undo_16 : decode cX12_undo 16 = .ok (.getfield 479, 3) := by decide +kernel
theorem dX12_undo_19 : decode cX12_undo 19 = .ok (.iconst 0, 1) := by decide +kernel
theorem dX12_undo_20 : decode cX12_undo 20 = .ok (.invokevirtual 482, 3) := by decide +kernel
theorem dX12_undo_23 : decode cX12_undo 23 = .ok (.aload_n 0, 1) := by decide +kernel
theorem dX12_undo_24 : decode cX12_undo 24 = .ok (.dup, 1) := by decide +kernel
theorem dX12_undo_25 : decode cX12_undo 25 = .ok (.getfield 479, 3) := by decide +kernel
theorem dX12_undo_28 : decode cX12_undo 28 = .ok (.iconst 1, 1) := by decide +kernel
theorem dX12_undo_29 : decode cX12_undo 29 = .ok (.isub, 1) := by decide +kernel
theorem dX12_undo_30 : decode cX12_undo 30 = .ok (.putfield 479, 3) := by decide +kernel
theorem dX12_undo_33 : decode cX12_undo 33 = .ok (.aload_n 0, 1) := by decide +kernel
theorem dX12_undo_34 : decode cX12_undo 34 = .ok (.aload_n 0, 1) := by decide +kernel
theorem dX12_undo_35 : decode cX12_undo 35 = .ok (.getfield 479, 3) := by decide +kernel
theorem dX12_undo_38 : decode cX12_undo 38 = .ok (.invokevirtual 97, 3) := by decide +kernel
theorem dX12_undo_41 : decode cX12_undo 41 = .ok (.ireturn, 1) := by decide +kernel
set_option maxRecDepth 100000 in
def f_X12_undo (p0 : Nat) (μ : dtM) : Option (Int32 × dtM) :=
  (opGI 12 40 μ p0).bind fun x1 => if x1 = 0 then ((opRv 12 μ p0).bind fun _ => opCall (f_X12_refuse p0 (6 : Int32) μ) fun x24 μ22 => some (x24, μ22)) else ((opGI 12 40 μ p0).bind fun x6 => (opRv 12 μ p0).bind fun _ => (f_X12_copies p0 x6 (0 : Int32) μ).bind fun μ9 => (opGI 12 40 μ9 p0).bind fun x11 => (opPI 12 40 μ9 p0 (x11 - (1 : Int32))).bind fun μ13 => (opGI 12 40 μ13 p0).bind fun x15 => (opRv 12 μ13 p0).bind fun _ => opCall (f_X12_gives p0 x15 μ13) fun x20 μ18 => some (x20, μ18))
set_option maxRecDepth 100000 in
theorem c_X12_undo {r : Int32} {F : dtM} (p0 : Nat) (μ : dtM) (h : f_X12_undo p0 μ = some (r, F)) : dtMet yX12_undo cX12_undo 1 (some .int) 2 [.ref p0] μ (some (.int r)) F := by
  refine dtMet.of (by decide +kernel) (Nat.le_of_ble_eq_true rfl) (show dtW yX12_undo cX12_undo 1 (some .int) 2 (some (.int r)) F 0 [some (.ref p0)] [] μ from ?_)
  rw [f_X12_undo] at h
  refine dr_aload_n p0 dX12_undo_0 rfl ?_
  obtain ⟨x1, e2, h⟩ := dtBind h
  refine dr_getI x1 dX12_undo_1 fl_RX12_479 e2 ?_
  obtain ⟨ht4, hf5⟩ := dtIte h
  refine dr_if_ne 14 dX12_undo_4 (by decide) (fun hc3 => ?_) (fun hc3 => ?_)
  · have h := hf5 hc3
    refine dr_aload_n p0 dX12_undo_14 rfl ?_
    refine dr_aload_n p0 dX12_undo_15 rfl ?_
    obtain ⟨x6, e7, h⟩ := dtBind h
    refine dr_getI x6 dX12_undo_16 fl_RX12_479 e7 ?_
    refine dr_iconst (0 : Int32) dX12_undo_19 (by decide) ?_
    obtain ⟨_, hb8, h⟩ := dtBind h
    obtain ⟨μ9, e10, h⟩ := dtBind h
    refine dr_callV_v (S0 := []) [.int x6, .int (0 : Int32)] μ9 dX12_undo_20 (c_X12_copies p0 x6 (0 : Int32) μ e10) mf_X12_copies wt_2078 ws_137 wt_2076 rfl (dtRv hb8) (by decide) rfl (Nat.le_of_ble_eq_true rfl) (Nat.le_of_ble_eq_true rfl) rfl ?_
    refine dr_aload_n p0 dX12_undo_23 rfl ?_
    refine dr_dup dX12_undo_24 rfl ?_
    obtain ⟨x11, e12, h⟩ := dtBind h
    refine dr_getI x11 dX12_undo_25 fl_RX12_479 e12 ?_
    refine dr_iconst (1 : Int32) dX12_undo_28 (by decide) ?_
    refine dr_isub dX12_undo_29 ?_
    obtain ⟨μ13, e14, h⟩ := dtBind h
    refine dr_putI μ13 dX12_undo_30 fl_RX12_479 rfl e14 ?_
    refine dr_aload_n p0 dX12_undo_33 rfl ?_
    refine dr_aload_n p0 dX12_undo_34 rfl ?_
    obtain ⟨x15, e16, h⟩ := dtBind h
    refine dr_getI x15 dX12_undo_35 fl_RX12_479 e16 ?_
    obtain ⟨_, hb17, h⟩ := dtBind h
    obtain ⟨x20, μ18, e19, h⟩ := dtCall h
    refine dr_callV_i (S0 := []) [.int x15] x20 μ18 dX12_undo_38 (c_X12_gives p0 x15 μ13 e19) mf_X12_gives wt_1668 ws_85 wt_1666 rfl (dtRv hb17) (by decide) rfl (Nat.le_of_ble_eq_true rfl) (Nat.le_of_ble_eq_true rfl) rfl ?_
    cases h
    exact dr_ireturn dX12_undo_41 rfl
  · have h := ht4 hc3
    refine dr_aload_n p0 dX12_undo_7 rfl ?_
    refine dr_bipush (6 : Int32) dX12_undo_8 (by decide) ?_
    obtain ⟨_, hb21, h⟩ := dtBind h
    obtain ⟨x24, μ22, e23, h⟩ := dtCall h
    refine dr_callV_i (S0 := []) [.int (6 : Int32)] x24 μ22 dX12_undo_10 (c_X12_refuse p0 (6 : Int32) μ e23) mf_X12_refuse wt_1552 ws_59 wt_1550 rfl (dtRv hb21) (by decide) rfl (Nat.le_of_ble_eq_true rfl) (Nat.le_of_ble_eq_true rfl) rfl ?_
    cases h
    exact dr_ireturn dX12_undo_13 rfl
