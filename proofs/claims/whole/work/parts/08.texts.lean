theorem dJ0_length_8abf5_0 : decode cJ0_length_8abf5 0 = .ok (.aload_n 0, 1) := by decide +kernel
theorem dJ0_length_8abf5_1 : decode cJ0_length_8abf5 1 = .ok (.getfield 9, 3) := by decide +kernel
theorem dJ0_length_8abf5_4 : decode cJ0_length_8abf5 4 = .ok (.arraylength, 1) := by decide +kernel
theorem dJ0_length_8abf5_5 : decode cJ0_length_8abf5 5 = .ok (.aload_n 0, 1) := by decide +kernel
theorem dJ0_length_8abf5_6 : decode cJ0_length_8abf5 6 = .ok (.invokevirtual 335, 3) := by decide +kernel
theorem dJ0_length_8abf5_9 : decode cJ0_length_8abf5 9 = .ok (.ishr, 1) := by decide +kernel
theorem dJ0_length_8abf5_10 : decode cJ0_length_8abf5 10 = .ok (.ireturn, 1) := by decide +kernel
theorem dJ0_charAt_5068e_0 : decode cJ0_charAt_5068e 0 = .ok (.aload_n 0, 1) := by decide +kernel
theorem dJ0_charAt_5068e_1 : decode cJ0_charAt_5068e 1 = .ok (.invokevirtual 492, 3) := by decide +kernel
theorem dJ0_charAt_5068e_4 : decode cJ0_charAt_5068e 4 = .ok (.ifCond .eq 12, 3) := by decide +kernel
theorem dJ0_charAt_5068e_7 : decode cJ0_charAt_5068e 7 = .ok (.aload_n 0, 1) := by decide +kernel
theorem dJ0_charAt_5068e_8 : decode cJ0_charAt_5068e 8 = .ok (.getfield 9, 3) := by decide +kernel
theorem dJ0_charAt_5068e_11 : decode cJ0_charAt_5068e 11 = .ok (.iload_n 1, 1) := by decide +kernel
theorem dJ0_charAt_5068e_12 : decode cJ0_charAt_5068e 12 = .ok (.invokestatic 495, 3) := by decide +kernel
theorem dJ0_charAt_5068e_15 : decode cJ0_charAt_5068e 15 = .ok (.ireturn, 1) := by decide +kernel
theorem dJ0_charAt_5068e_16 : decode cJ0_charAt_5068e 16 = .ok (.aload_n 0, 1) := by decide +kernel
theorem dJ0_charAt_5068e_17 : decode cJ0_charAt_5068e 17 = .ok (.getfield 9, 3) := by decide +kernel
theorem dJ0_charAt_5068e_20 : decode cJ0_charAt_5068e 20 = .ok (.iload_n 1, 1) := by decide +kernel
theorem dJ0_charAt_5068e_21 : decode cJ0_charAt_5068e 21 = .ok (.invokestatic 498, 3) := by decide +kernel
theorem dJ0_charAt_5068e_24 : decode cJ0_charAt_5068e 24 = .ok (.ireturn, 1) := by decide +kernel
theorem dJ0_coder_7d493_0 : decode cJ0_coder_7d493 0 = .ok (.getstatic 38, 3) := by decide +kernel
theorem dJ0_coder_7d493_3 : decode cJ0_coder_7d493 3 = .ok (.ifCond .eq 10, 3) := by decide +kernel
theorem dJ0_coder_7d493_6 : decode cJ0_coder_7d493 6 = .ok (.aload_n 0, 1) := by decide +kernel
theorem dJ0_coder_7d493_7 : decode cJ0_coder_7d493 7 = .ok (.getfield 15, 3) := by decide +kernel
theorem dJ0_coder_7d493_10 : decode cJ0_coder_7d493 10 = .ok (.goto 4, 3) := by decide +kernel
theorem dJ0_coder_7d493_13 : decode cJ0_coder_7d493 13 = .ok (.iconst 1, 1) := by decide +kernel
theorem dJ0_coder_7d493_14 : decode cJ0_coder_7d493 14 = .ok (.ireturn, 1) := by decide +kernel
theorem dJ0_isLatin1_aae02_0 : decode cJ0_isLatin1_aae02 0 = .ok (.getstatic 38, 3) := by decide +kernel
theorem dJ0_isLatin1_aae02_3 : decode cJ0_isLatin1_aae02 3 = .ok (.ifCond .eq 14, 3) := by decide +kernel
theorem dJ0_isLatin1_aae02_6 : decode cJ0_isLatin1_aae02 6 = .ok (.aload_n 0, 1) := by decide +kernel
theorem dJ0_isLatin1_aae02_7 : decode cJ0_isLatin1_aae02 7 = .ok (.getfield 15, 3) := by decide +kernel
theorem dJ0_isLatin1_aae02_10 : decode cJ0_isLatin1_aae02 10 = .ok (.ifCond .ne 7, 3) := by decide +kernel
theorem dJ0_isLatin1_aae02_13 : decode cJ0_isLatin1_aae02 13 = .ok (.iconst 1, 1) := by decide +kernel
theorem dJ0_isLatin1_aae02_14 : decode cJ0_isLatin1_aae02 14 = .ok (.goto 4, 3) := by decide +kernel
theorem dJ0_isLatin1_aae02_17 : decode cJ0_isLatin1_aae02 17 = .ok (.iconst 0, 1) := by decide +kernel
theorem dJ0_isLatin1_aae02_18 : decode cJ0_isLatin1_aae02 18 = .ok (.ireturn, 1) := by decide +kernel
theorem dJ0_checkIndex_df160_0 : decode cJ0_checkIndex_df160 0 = .ok (.iload_n 0, 1) := by decide +kernel
theorem dJ0_checkIndex_df160_1 : decode cJ0_checkIndex_df160 1 = .ok (.iload_n 1, 1) := by decide +kernel
theorem dJ0_checkIndex_df160_2 : decode cJ0_checkIndex_df160 2 = .ok (.getstatic 1053, 3) := by decide +kernel
theorem dJ0_checkIndex_df160_5 : decode cJ0_checkIndex_df160 5 = .ok (.invokestatic 1059, 3) := by decide +kernel
theorem dJ0_checkIndex_df160_8 : decode cJ0_checkIndex_df160 8 = .ok (.pop, 1) := by decide +kernel
theorem dJ0_checkIndex_df160_9 : decode cJ0_checkIndex_df160 9 = .ok (.return_, 1) := by decide +kernel
theorem dJ1_charAt_3b067_0 : decode cJ1_charAt_3b067 0 = .ok (.iload_n 1, 1) := by decide +kernel
theorem dJ1_charAt_3b067_1 : decode cJ1_charAt_3b067 1 = .ok (.aload_n 0, 1) := by decide +kernel
theorem dJ1_charAt_3b067_2 : decode cJ1_charAt_3b067 2 = .ok (.arraylength, 1) := by decide +kernel
theorem dJ1_charAt_3b067_3 : decode cJ1_charAt_3b067 3 = .ok (.invokestatic 9, 3) := by decide +kernel
theorem dJ1_charAt_3b067_6 : decode cJ1_charAt_3b067 6 = .ok (.aload_n 0, 1) := by decide +kernel
theorem dJ1_charAt_3b067_7 : decode cJ1_charAt_3b067 7 = .ok (.iload_n 1, 1) := by decide +kernel
theorem dJ1_charAt_3b067_8 : decode cJ1_charAt_3b067 8 = .ok (.baload, 1) := by decide +kernel
theorem dJ1_charAt_3b067_9 : decode cJ1_charAt_3b067 9 = .ok (.sipush 255, 3) := by decide +kernel
theorem dJ1_charAt_3b067_12 : decode cJ1_charAt_3b067 12 = .ok (.iand, 1) := by decide +kernel
theorem dJ1_charAt_3b067_13 : decode cJ1_charAt_3b067 13 = .ok (.i2c, 1) := by decide +kernel
theorem dJ1_charAt_3b067_14 : decode cJ1_charAt_3b067 14 = .ok (.ireturn, 1) := by decide +kernel
theorem dJ3_checkIndex_8e157_0 : decode cJ3_checkIndex_8e157 0 = .ok (.iload_n 0, 1) := by decide +kernel
theorem dJ3_checkIndex_8e157_1 : decode cJ3_checkIndex_8e157 1 = .ok (.ifCond .lt 8, 3) := by decide +kernel
theorem dJ3_checkIndex_8e157_4 : decode cJ3_checkIndex_8e157 4 = .ok (.iload_n 0, 1) := by decide +kernel
theorem dJ3_checkIndex_8e157_5 : decode cJ3_checkIndex_8e157 5 = .ok (.iload_n 1, 1) := by decide +kernel
theorem dJ3_checkIndex_8e157_6 : decode cJ3_checkIndex_8e157 6 = .ok (.if_icmp .lt 10, 3) := by decide +kernel
theorem dJ3_checkIndex_8e157_9 : decode cJ3_checkIndex_8e157 9 = .ok (.aload_n 2, 1) := by decide +kernel
theorem dJ3_checkIndex_8e157_10 : decode cJ3_checkIndex_8e157 10 = .ok (.iload_n 0, 1) := by decide +kernel
theorem dJ3_checkIndex_8e157_11 : decode cJ3_checkIndex_8e157 11 = .ok (.iload_n 1, 1) := by decide +kernel
theorem dJ3_checkIndex_8e157_12 : decode cJ3_checkIndex_8e157 12 = .ok (.invokestatic 95, 3) := by decide +kernel
theorem dJ3_checkIndex_8e157_15 : decode cJ3_checkIndex_8e157 15 = .ok (.athrow, 1) := by decide +kernel
theorem dJ3_checkIndex_8e157_16 : decode cJ3_checkIndex_8e157 16 = .ok (.iload_n 0, 1) := by decide +kernel
theorem dJ3_checkIndex_8e157_17 : decode cJ3_checkIndex_8e157 17 = .ok (.ireturn, 1) := by decide +kernel
theorem mf_J0_length : dtMF yJ0_length_8abf5 cJ0_length_8abf5 1 (some .int) 0 := ⟨wt_566, wt_16, ⟨by decide +kernel, by decide +kernel⟩, by decide +kernel⟩
theorem mf_J0_coder : dtMF yJ0_coder_7d493 cJ0_coder_7d493 1 (some .byte) 0 := ⟨wt_570, wt_16, ⟨by decide +kernel, by decide +kernel⟩, by decide +kernel⟩
theorem mf_J0_charAt : dtMF yJ0_charAt_5068e cJ0_charAt_5068e 2 (some .char) 1 := ⟨wt_576, wt_16, ⟨by decide +kernel, by decide +kernel⟩, by decide +kernel⟩
theorem mf_J0_isLatin1 : dtMF yJ0_isLatin1_aae02 cJ0_isLatin1_aae02 1 (some .boolean) 0 := ⟨wt_580, wt_16, ⟨by decide +kernel, by decide +kernel⟩, by decide +kernel⟩
theorem mf_J1_charAt : dtMF yJ1_charAt_3b067 cJ1_charAt_3b067 2 (some .char) 2 := ⟨wt_583, wt_17, ⟨by decide +kernel, by decide +kernel⟩, by decide +kernel⟩
theorem mf_J0_checkIndex : dtMF yJ0_checkIndex_df160 cJ0_checkIndex_df160 2 none 2 := ⟨wt_586, wt_16, ⟨by decide +kernel, by decide +kernel⟩, by decide +kernel⟩
theorem mf_J3_checkIndex : dtMF yJ3_checkIndex_8e157 cJ3_checkIndex_8e157 3 (some .int) 3 := ⟨wt_591, wt_18, ⟨by decide +kernel, by decide +kernel⟩, by decide +kernel⟩
theorem cj_coder {i : Nat} (hi : i < 2) (μ : dtM) : dtMet yJ0_coder_7d493 cJ0_coder_7d493 1 (some .byte) 1 [.ref (1000002 + i)] μ (some (.int 0)) μ := by
  refine dtMet.of (by decide +kernel) (Nat.le_of_ble_eq_true rfl) (show dtW yJ0_coder_7d493 cJ0_coder_7d493 1 (some .byte) 1 (some (.int 0)) μ 0 [some (.ref (1000002 + i))] [] μ from ?_)
  refine dr_xcs dJ0_coder_7d493_0 wt_571 ?_
  refine dr_if_eq 13 dJ0_coder_7d493_3 (by decide) (fun hc => absurd hc (by decide)) (fun _ => ?_)
  refine dr_aload_n (1000002 + i) dJ0_coder_7d493_6 rfl ?_
  refine dr_xcod hi dJ0_coder_7d493_7 wt_2086 ?_
  refine dr_goto 14 dJ0_coder_7d493_10 (by decide) ?_
  exact dr_ireturn dJ0_coder_7d493_14 rfl
theorem cj_isLatin1 {i : Nat} (hi : i < 2) (μ : dtM) : dtMet yJ0_isLatin1_aae02 cJ0_isLatin1_aae02 1 (some .boolean) 1 [.ref (1000002 + i)] μ (some (.int 1)) μ := by
  refine dtMet.of (by decide +kernel) (Nat.le_of_ble_eq_true rfl) (show dtW yJ0_isLatin1_aae02 cJ0_isLatin1_aae02 1 (some .boolean) 1 (some (.int 1)) μ 0 [some (.ref (1000002 + i))] [] μ from ?_)
  refine dr_xcs dJ0_isLatin1_aae02_0 wt_571 ?_
  refine dr_if_eq 17 dJ0_isLatin1_aae02_3 (by decide) (fun hc => absurd hc (by decide)) (fun _ => ?_)
  refine dr_aload_n (1000002 + i) dJ0_isLatin1_aae02_6 rfl ?_
  refine dr_xcod hi dJ0_isLatin1_aae02_7 wt_2086 ?_
  refine dr_if_ne 17 dJ0_isLatin1_aae02_10 (by decide) (fun hc => absurd rfl hc) (fun _ => ?_)
  refine dr_iconst 1 dJ0_isLatin1_aae02_13 (by decide) ?_
  refine dr_goto 18 dJ0_isLatin1_aae02_14 (by decide) ?_
  exact dr_ireturn dJ0_isLatin1_aae02_18 rfl
theorem cj_length {i : Nat} (hi : i < 2) (μ : dtM) : dtMet yJ0_length_8abf5 cJ0_length_8abf5 1 (some .int) 2 [.ref (1000002 + i)] μ (some (.int (Int32.ofNat (123 + i)))) μ := by
  refine dtMet.of (by decide +kernel) (Nat.le_of_ble_eq_true rfl) (show dtW yJ0_length_8abf5 cJ0_length_8abf5 1 (some .int) 2 (some (.int (Int32.ofNat (123 + i)))) μ 0 [some (.ref (1000002 + i))] [] μ from ?_)
  refine dr_aload_n (1000002 + i) dJ0_length_8abf5_0 rfl ?_
  refine dr_xval hi dJ0_length_8abf5_1 wt_2085 ?_
  refine dr_xlen hi dJ0_length_8abf5_4 ?_
  refine dr_aload_n (1000002 + i) dJ0_length_8abf5_5 rfl ?_
  refine dr_callX (S0 := [.int (Int32.ofNat (123 + i))]) [] hi dJ0_length_8abf5_6 (cj_coder hi μ) mf_J0_coder wt_568 wt_569 wt_567 rfl rfl (Nat.le_of_ble_eq_true rfl) rfl rfl ?_
  refine dr_ishr dJ0_length_8abf5_9 ?_
  rw [sb_shr0]
  exact dr_ireturn dJ0_length_8abf5_10 rfl
theorem cj_check {j n : Int32} (h0 : ¬ j < 0) (h1 : j < n) (μ : dtM) : dtMet yJ3_checkIndex_8e157 cJ3_checkIndex_8e157 3 (some .int) 1 [.int j, .int n, .ref 1000004] μ (some (.int j)) μ := by
  refine dtMet.of (by decide +kernel) (Nat.le_of_ble_eq_true rfl) (show dtW yJ3_checkIndex_8e157 cJ3_checkIndex_8e157 3 (some .int) 1 (some (.int j)) μ 0 [some (.int j), some (.int n), some (.ref 1000004)] [] μ from ?_)
  refine dr_iload_n j dJ3_checkIndex_8e157_0 rfl ?_
  refine dr_if_lt 9 dJ3_checkIndex_8e157_1 (by decide) (fun hc => absurd hc h0) (fun _ => ?_)
  refine dr_iload_n j dJ3_checkIndex_8e157_4 rfl ?_
  refine dr_iload_n n dJ3_checkIndex_8e157_5 rfl ?_
  refine dr_icmp_lt 16 dJ3_checkIndex_8e157_6 (by decide) (fun _ => ?_) (fun hc => absurd h1 hc)
  refine dr_iload_n j dJ3_checkIndex_8e157_16 rfl ?_
  exact dr_ireturn dJ3_checkIndex_8e157_17 rfl
theorem cj_check2 {j n : Int32} (h0 : ¬ j < 0) (h1 : j < n) (μ : dtM) : dtMet yJ0_checkIndex_df160 cJ0_checkIndex_df160 2 none 2 [.int j, .int n] μ none μ := by
  refine dtMet.of (by decide +kernel) (Nat.le_of_ble_eq_true rfl) (show dtW yJ0_checkIndex_df160 cJ0_checkIndex_df160 2 none 2 none μ 0 [some (.int j), some (.int n)] [] μ from ?_)
  refine dr_iload_n j dJ0_checkIndex_df160_0 rfl ?_
  refine dr_iload_n n dJ0_checkIndex_df160_1 rfl ?_
  refine dr_xfm dJ0_checkIndex_df160_2 wt_587 ?_
  refine dr_callS_i (S0 := []) [.int j, .int n, .ref 1000004] j μ dJ0_checkIndex_df160_5 (cj_check h0 h1 μ) mf_J3_checkIndex wt_590 wt_589 rfl (Nat.le_of_ble_eq_true rfl) (Nat.le_of_ble_eq_true rfl) rfl ?_
  refine dr_pop dJ0_checkIndex_df160_8 rfl ?_
  exact dr_return dJ0_checkIndex_df160_9
theorem dtTxt_b : ∀ i, i < 2 → ∀ b ∈ dtTxt i, (((b &&& 255).toUInt32 % 65536).toInt32) = b := by decide +kernel
theorem dtTxt_c {i : Nat} (hi : i < 2) (k : Nat) : ((((dtTxt i).getD k 0 &&& 255).toUInt32 % 65536).toInt32) = (dtTxt i).getD k 0 := by
  rw [List.getD_eq_getElem?_getD]
  cases h : (dtTxt i)[k]? with
  | none => decide
  | some b => exact dtTxt_b i hi b (List.mem_of_getElem? h)
theorem dtLtI {i : Nat} {j : Int32} (hi : i < 2) (hj : ¬ (j < 0 ∨ 123 + i ≤ j.toNatClampNeg)) : ¬ j < 0 ∧ j < Int32.ofNat (123 + i) := by
  obtain ⟨h0, h1⟩ := not_or.mp hj
  obtain ⟨k, hk, rfl⟩ := nI_of h0
  rw [nI_clamp hk] at h1
  exact ⟨h0, nI_lt (by omega) (by omega)⟩
theorem cj_latin {i : Nat} {j : Int32} (hi : i < 2) (hj : ¬ (j < 0 ∨ 123 + i ≤ j.toNatClampNeg)) (μ : dtM) : dtMet yJ1_charAt_3b067 cJ1_charAt_3b067 2 (some .char) 3 [.ref (1000012 + i), .int j] μ (some (.int ((dtTxt i).getD j.toNatClampNeg 0))) μ := by
  refine dtMet.of (by decide +kernel) (Nat.le_of_ble_eq_true rfl) (show dtW yJ1_charAt_3b067 cJ1_charAt_3b067 2 (some .char) 3 (some (.int ((dtTxt i).getD j.toNatClampNeg 0))) μ 0 [some (.ref (1000012 + i)), some (.int j)] [] μ from ?_)
  refine dr_iload_n j dJ1_charAt_3b067_0 rfl ?_
  refine dr_aload_n (1000012 + i) dJ1_charAt_3b067_1 rfl ?_
  refine dr_xlen hi dJ1_charAt_3b067_2 ?_
  refine dr_callS_v (S0 := []) [.int j, .int (Int32.ofNat (123 + i))] μ dJ1_charAt_3b067_3 (cj_check2 (dtLtI hi hj).1 (dtLtI hi hj).2 μ) mf_J0_checkIndex wt_585 wt_584 rfl (Nat.le_of_ble_eq_true rfl) (Nat.le_of_ble_eq_true rfl) rfl ?_
  refine dr_aload_n (1000012 + i) dJ1_charAt_3b067_6 rfl ?_
  refine dr_iload_n j dJ1_charAt_3b067_7 rfl ?_
  refine dr_xbld hi hj dJ1_charAt_3b067_8 ?_
  refine dr_sipush 255 dJ1_charAt_3b067_9 (by decide) ?_
  refine dr_iand dJ1_charAt_3b067_12 ?_
  refine dr_i2c dJ1_charAt_3b067_13 ?_
  have hn := pk_nc ((dtTxt i).getD j.toNatClampNeg 0 &&& 255)
  rw [dtTxt_c hi] at hn ⊢
  exact dr_ireturn dJ1_charAt_3b067_14 hn
theorem cj_charAt {i : Nat} {j : Int32} (hi : i < 2) (hj : ¬ (j < 0 ∨ 123 + i ≤ j.toNatClampNeg)) (μ : dtM) : dtMet yJ0_charAt_5068e cJ0_charAt_5068e 2 (some .char) 4 [.ref (1000002 + i), .int j] μ (some (.int ((dtTxt i).getD j.toNatClampNeg 0))) μ := by
  refine dtMet.of (by decide +kernel) (Nat.le_of_ble_eq_true rfl) (show dtW yJ0_charAt_5068e cJ0_charAt_5068e 2 (some .char) 4 (some (.int ((dtTxt i).getD j.toNatClampNeg 0))) μ 0 [some (.ref (1000002 + i)), some (.int j)] [] μ from ?_)
  refine dr_aload_n (1000002 + i) dJ0_charAt_5068e_0 rfl ?_
  refine dr_callX (S0 := []) [] hi dJ0_charAt_5068e_1 (cj_isLatin1 hi μ) mf_J0_isLatin1 wt_578 wt_579 wt_577 rfl rfl (Nat.le_of_ble_eq_true rfl) rfl rfl ?_
  refine dr_if_eq 16 dJ0_charAt_5068e_4 (by decide) (fun hc => absurd hc (by decide)) (fun _ => ?_)
  refine dr_aload_n (1000002 + i) dJ0_charAt_5068e_7 rfl ?_
  refine dr_xval hi dJ0_charAt_5068e_8 wt_2085 ?_
  refine dr_iload_n j dJ0_charAt_5068e_11 rfl ?_
  refine dr_callS_i (S0 := []) [.ref (1000012 + i), .int j] _ μ dJ0_charAt_5068e_12 (cj_latin hi hj μ) mf_J1_charAt wt_582 wt_581 rfl (Nat.le_of_ble_eq_true rfl) (Nat.le_of_ble_eq_true rfl) rfl ?_
  have hn := pk_nc ((dtTxt i).getD j.toNatClampNeg 0 &&& 255)
  rw [dtTxt_c hi] at hn
  exact dr_ireturn dJ0_charAt_5068e_15 hn
theorem dr_strlength {y : MethodName} {cc : ByteArray} {nL : Nat} {ret : Option FieldType} {d : Nat} {r : Option Value} {F : dtM} {pc : Nat} {L : List (Option Value)} {S0 : List Value} {μ : dtM} {idx k0 : Nat} (v : Int32) (hd : decode cc pc = .ok (.invokevirtual idx, 3)) (hlk : Cond.methodLink y.cls idx yJ0_length_8abf5 ∈ dtWT) (hv : opLen k0 = some v) (hdx : 3 ≤ d) (hsum : Nat.ble ((S0.map fun v => v.category).sum) 8 = true) (k : dtW y cc nL ret d r F (pc + 3) L (.int v :: S0) μ) : dtW y cc nL ret d r F pc L (.ref k0 :: S0) μ := by
  obtain ⟨h, rfl⟩ := dtIf hv
  obtain ⟨i, hi, rfl⟩ : ∃ i, i < 2 ∧ k0 = 1000002 + i := by
    rcases h with rfl | rfl
    · exact ⟨0, by omega, rfl⟩
    · exact ⟨1, by omega, rfl⟩
  rw [show 1000002 + i - 1000002 = i by omega] at k
  exact dr_callX (S0 := S0) [] hi hd (cj_length hi μ) mf_J0_length wt_564 wt_565 hlk rfl rfl hdx rfl hsum k
theorem dr_strcharAt {y : MethodName} {cc : ByteArray} {nL : Nat} {ret : Option FieldType} {d : Nat} {r : Option Value} {F : dtM} {pc : Nat} {L : List (Option Value)} {S0 : List Value} {μ : dtM} {idx k0 : Nat} {j : Int32} (v : Int32) (hd : decode cc pc = .ok (.invokevirtual idx, 3)) (hlk : Cond.methodLink y.cls idx yJ0_charAt_5068e ∈ dtWT) (hv : opChar k0 j = some v) (hdx : 5 ≤ d) (hsum : Nat.ble ((S0.map fun v => v.category).sum) 8 = true) (k : dtW y cc nL ret d r F (pc + 3) L (.int v :: S0) μ) : dtW y cc nL ret d r F pc L (.int j :: .ref k0 :: S0) μ := by
  unfold opChar at hv
  obtain ⟨⟨h, hj⟩, e⟩ := dtIf hv
  obtain ⟨i, hi, rfl⟩ : ∃ i, i < 2 ∧ k0 = 1000002 + i := by
    rcases h with rfl | rfl
    · exact ⟨0, by omega, rfl⟩
    · exact ⟨1, by omega, rfl⟩
  rw [show 1000002 + i - 1000002 = i by omega] at e hj
  rw [e] at k
  exact dr_callX (S0 := S0) [.int j] hi hd (cj_charAt hi hj μ) mf_J0_charAt wt_574 wt_575 hlk rfl rfl hdx rfl hsum k
