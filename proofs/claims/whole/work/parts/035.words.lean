theorem dtTb_1 {w : Cond} (h : w ∈ tables_1_1) : w ∈ tables_1 := by
  unfold tables_1
  simp only [List.mem_append]
  exact Or.inl h
theorem dtWT_1 {w : Cond} (i : Nat) (h : tables_1_1[i]? = some w) (hg : goodWord w = true) : w ∈ dtWT := List.mem_filter.mpr ⟨List.mem_append_right _ (dtTb_1 (List.mem_of_getElem? h)), hg⟩
theorem dtWN_1 {w : Cond} (i : Nat) (h : tables_1_1[i]? = some w) (hg : dtIsN w = true) : w ∈ dtNest := List.mem_filter.mpr ⟨List.mem_append_right _ (dtTb_1 (List.mem_of_getElem? h)), hg⟩
theorem dtPv_1 {q : MethodName × Nat} (h : q ∈ lw_privs_1) : q ∈ lw_privs := by
  unfold lw_privs
  simp only [List.mem_append]
  exact Or.inl h
theorem dtWS_1 {w : Cond} (i : Nat) (h : (k2_sels lw_privs_1)[i]? = some w) (hg : goodWord w = true) : w ∈ dtWT := by
  refine List.mem_filter.mpr ⟨List.mem_append_left _ ?_, hg⟩
  obtain ⟨q, hq, rfl⟩ := List.mem_map.mp (List.mem_of_getElem? h)
  exact List.mem_map.mpr ⟨q, dtPv_1 hq, rfl⟩
theorem dtTb_2 {w : Cond} (h : w ∈ tables_1_2) : w ∈ tables_1 := by
  unfold tables_1
  simp only [List.mem_append]
  exact Or.inr (Or.inl h)
theorem dtWT_2 {w : Cond} (i : Nat) (h : tables_1_2[i]? = some w) (hg : goodWord w = true) : w ∈ dtWT := List.mem_filter.mpr ⟨List.mem_append_right _ (dtTb_2 (List.mem_of_getElem? h)), hg⟩
theorem dtWN_2 {w : Cond} (i : Nat) (h : tables_1_2[i]? = some w) (hg : dtIsN w = true) : w ∈ dtNest := List.mem_filter.mpr ⟨List.mem_append_right _ (dtTb_2 (List.mem_of_getElem? h)), hg⟩
theorem dtPv_2 {q : MethodName × Nat} (h : q ∈ lw_privs_2) : q ∈ lw_privs := by
  unfold lw_privs
  simp only [List.mem_append]
  exact Or.inr (Or.inl h)
theorem dtWS_2 {w : Cond} (i : Nat) (h : (k2_sels lw_privs_2)[i]? = some w) (hg : goodWord w = true) : w ∈ dtWT := by
  refine List.mem_filter.mpr ⟨List.mem_append_left _ ?_, hg⟩
  obtain ⟨q, hq, rfl⟩ := List.mem_map.mp (List.mem_of_getElem? h)
  exact List.mem_map.mpr ⟨q, dtPv_2 hq, rfl⟩
theorem dtTb_3 {w : Cond} (h : w ∈ tables_1_3) : w ∈ tables_1 := by
  unfold tables_1
  simp only [List.mem_append]
  exact Or.inr (Or.inr (Or.inl h))
theorem dtWT_3 {w : Cond} (i : Nat) (h : tables_1_3[i]? = some w) (hg : goodWord w = true) : w ∈ dtWT := List.mem_filter.mpr ⟨List.mem_append_right _ (dtTb_3 (List.mem_of_getElem? h)), hg⟩
theorem dtWN_3 {w : Cond} (i : Nat) (h : tables_1_3[i]? = some w) (hg : dtIsN w = true) : w ∈ dtNest := List.mem_filter.mpr ⟨List.mem_append_right _ (dtTb_3 (List.mem_of_getElem? h)), hg⟩
theorem dtPv_3 {q : MethodName × Nat} (h : q ∈ lw_privs_3) : q ∈ lw_privs := by
  unfold lw_privs
  simp only [List.mem_append]
  exact Or.inr (Or.inr (Or.inl h))
theorem dtWS_3 {w : Cond} (i : Nat) (h : (k2_sels lw_privs_3)[i]? = some w) (hg : goodWord w = true) : w ∈ dtWT := by
  refine List.mem_filter.mpr ⟨List.mem_append_left _ ?_, hg⟩
  obtain ⟨q, hq, rfl⟩ := List.mem_map.mp (List.mem_of_getElem? h)
  exact List.mem_map.mpr ⟨q, dtPv_3 hq, rfl⟩
theorem dtTb_4 {w : Cond} (h : w ∈ tables_1_4) : w ∈ tables_1 := by
  unfold tables_1
  simp only [List.mem_append]
  exact Or.inr (Or.inr (Or.inr (Or.inl h)))
theorem dtWT_4 {w : Cond} (i : Nat) (h : tables_1_4[i]? = some w) (hg : goodWord w = true) : w ∈ dtWT := List.mem_filter.mpr ⟨List.mem_append_right _ (dtTb_4 (List.mem_of_getElem? h)), hg⟩
theorem dtWN_4 {w : Cond} (i : Nat) (h : tables_1_4[i]? = some w) (hg : dtIsN w = true) : w ∈ dtNest := List.mem_filter.mpr ⟨List.mem_append_right _ (dtTb_4 (List.mem_of_getElem? h)), hg⟩
theorem dtPv_4 {q : MethodName × Nat} (h : q ∈ lw_privs_4) : q ∈ lw_privs := by
  unfold lw_privs
  simp only [List.mem_append]
  exact Or.inr (Or.inr (Or.inr (Or.inl h)))
theorem dtWS_4 {w : Cond} (i : Nat) (h : (k2_sels lw_privs_4)[i]? = some w) (hg : goodWord w = true) : w ∈ dtWT := by
  refine List.mem_filter.mpr ⟨List.mem_append_left _ ?_, hg⟩
  obtain ⟨q, hq, rfl⟩ := List.mem_map.mp (List.mem_of_getElem? h)
  exact List.mem_map.mpr ⟨q, dtPv_4 hq, rfl⟩
theorem dtTb_5 {w : Cond} (h : w ∈ tables_1_5) : w ∈ tables_1 := by
  unfold tables_1
  simp only [List.mem_append]
  exact Or.inr (Or.inr (Or.inr (Or.inr (Or.inl h))))
theorem dtWT_5 {w : Cond} (i : Nat) (h : tables_1_5[i]? = some w) (hg : goodWord w = true) : w ∈ dtWT := List.mem_filter.mpr ⟨List.mem_append_right _ (dtTb_5 (List.mem_of_getElem? h)), hg⟩
theorem dtWN_5 {w : Cond} (i : Nat) (h : tables_1_5[i]? = some w) (hg : dtIsN w = true) : w ∈ dtNest := List.mem_filter.mpr ⟨List.mem_append_right _ (dtTb_5 (List.mem_of_getElem? h)), hg⟩
theorem dtPv_5 {q : MethodName × Nat} (h : q ∈ lw_privs_5) : q ∈ lw_privs := by
  unfold lw_privs
  simp only [List.mem_append]
  exact Or.inr (Or.inr (Or.inr (Or.inr (Or.inl h))))
theorem dtWS_5 {w : Cond} (i : Nat) (h : (k2_sels lw_privs_5)[i]? = some w) (hg : goodWord w = true) : w ∈ dtWT := by
  refine List.mem_filter.mpr ⟨List.mem_append_left _ ?_, hg⟩
  obtain ⟨q, hq, rfl⟩ := List.mem_map.mp (List.mem_of_getElem? h)
  exact List.mem_map.mpr ⟨q, dtPv_5 hq, rfl⟩
theorem dtTb_6 {w : Cond} (h : w ∈ tables_1_6) : w ∈ tables_1 := by
  unfold tables_1
  simp only [List.mem_append]
  exact Or.inr (Or.inr (Or.inr (Or.inr (Or.inr (Or.inl h)))))
theorem dtWT_6 {w : Cond} (i : Nat) (h : tables_1_6[i]? = some w) (hg : goodWord w = true) : w ∈ dtWT := List.mem_filter.mpr ⟨List.mem_append_right _ (dtTb_6 (List.mem_of_getElem? h)), hg⟩
theorem dtWN_6 {w : Cond} (i : Nat) (h : tables_1_6[i]? = some w) (hg : dtIsN w = true) : w ∈ dtNest := List.mem_filter.mpr ⟨List.mem_append_right _ (dtTb_6 (List.mem_of_getElem? h)), hg⟩
theorem dtPv_6 {q : MethodName × Nat} (h : q ∈ lw_privs_6) : q ∈ lw_privs := by
  unfold lw_privs
  simp only [List.mem_append]
  exact Or.inr (Or.inr (Or.inr (Or.inr (Or.inr (Or.inl h)))))
theorem dtWS_6 {w : Cond} (i : Nat) (h : (k2_sels lw_privs_6)[i]? = some w) (hg : goodWord w = true) : w ∈ dtWT := by
  refine List.mem_filter.mpr ⟨List.mem_append_left _ ?_, hg⟩
  obtain ⟨q, hq, rfl⟩ := List.mem_map.mp (List.mem_of_getElem? h)
  exact List.mem_map.mpr ⟨q, dtPv_6 hq, rfl⟩
theorem dtTb_7 {w : Cond} (h : w ∈ tables_1_7) : w ∈ tables_1 := by
  unfold tables_1
  simp only [List.mem_append]
  exact Or.inr (Or.inr (Or.inr (Or.inr (Or.inr (Or.inr (Or.inl h))))))
theorem dtWT_7 {w : Cond} (i : Nat) (h : tables_1_7[i]? = some w) (hg : goodWord w = true) : w ∈ dtWT := List.mem_filter.mpr ⟨List.mem_append_right _ (dtTb_7 (List.mem_of_getElem? h)), hg⟩
theorem dtWN_7 {w : Cond} (i : Nat) (h : tables_1_7[i]? = some w) (hg : dtIsN w = true) : w ∈ dtNest := List.mem_filter.mpr ⟨List.mem_append_right _ (dtTb_7 (List.mem_of_getElem? h)), hg⟩
theorem dtPv_7 {q : MethodName × Nat} (h : q ∈ lw_privs_7) : q ∈ lw_privs := by
  unfold lw_privs
  simp only [List.mem_append]
  exact Or.inr (Or.inr (Or.inr (Or.inr (Or.inr (Or.inr (Or.inl h))))))
theorem dtWS_7 {w : Cond} (i : Nat) (h : (k2_sels lw_privs_7)[i]? = some w) (hg : goodWord w = true) : w ∈ dtWT := by
  refine List.mem_filter.mpr ⟨List.mem_append_left _ ?_, hg⟩
  obtain ⟨q, hq, rfl⟩ := List.mem_map.mp (List.mem_of_getElem? h)
  exact List.mem_map.mpr ⟨q, dtPv_7 hq, rfl⟩
theorem dtTb_8 {w : Cond} (h : w ∈ tables_1_8) : w ∈ tables_1 := by
  unfold tables_1
  simp only [List.mem_append]
  exact Or.inr (Or.inr (Or.inr (Or.inr (Or.inr (Or.inr (Or.inr (Or.inl h)))))))
theorem dtWT_8 {w : Cond} (i : Nat) (h : tables_1_8[i]? = some w) (hg : goodWord w = true) : w ∈ dtWT := List.mem_filter.mpr ⟨List.mem_append_right _ (dtTb_8 (List.mem_of_getElem? h)), hg⟩
theorem dtWN_8 {w : Cond} (i : Nat) (h : tables_1_8[i]? = some w) (hg : dtIsN w = true) : w ∈ dtNest := List.mem_filter.mpr ⟨List.mem_append_right _ (dtTb_8 (List.mem_of_getElem? h)), hg⟩
theorem dtPv_8 {q : MethodName × Nat} (h : q ∈ lw_privs_8) : q ∈ lw_privs := by
  unfold lw_privs
  simp only [List.mem_append]
  exact Or.inr (Or.inr (Or.inr (Or.inr (Or.inr (Or.inr (Or.inr (Or.inl h)))))))
theorem dtWS_8 {w : Cond} (i : Nat) (h : (k2_sels lw_privs_8)[i]? = some w) (hg : goodWord w = true) : w ∈ dtWT := by
  refine List.mem_filter.mpr ⟨List.mem_append_left _ ?_, hg⟩
  obtain ⟨q, hq, rfl⟩ := List.mem_map.mp (List.mem_of_getElem? h)
  exact List.mem_map.mpr ⟨q, dtPv_8 hq, rfl⟩
theorem dtTb_9 {w : Cond} (h : w ∈ tables_1_9) : w ∈ tables_1 := by
  unfold tables_1
  simp only [List.mem_append]
  exact Or.inr (Or.inr (Or.inr (Or.inr (Or.inr (Or.inr (Or.inr (Or.inr (h))))))))
theorem dtWT_9 {w : Cond} (i : Nat) (h : tables_1_9[i]? = some w) (hg : goodWord w = true) : w ∈ dtWT := List.mem_filter.mpr ⟨List.mem_append_right _ (dtTb_9 (List.mem_of_getElem? h)), hg⟩
theorem dtWN_9 {w : Cond} (i : Nat) (h : tables_1_9[i]? = some w) (hg : dtIsN w = true) : w ∈ dtNest := List.mem_filter.mpr ⟨List.mem_append_right _ (dtTb_9 (List.mem_of_getElem? h)), hg⟩
theorem dtPv_9 {q : MethodName × Nat} (h : q ∈ lw_privs_9) : q ∈ lw_privs := by
  unfold lw_privs
  simp only [List.mem_append]
  exact Or.inr (Or.inr (Or.inr (Or.inr (Or.inr (Or.inr (Or.inr (Or.inr (h))))))))
theorem dtWS_9 {w : Cond} (i : Nat) (h : (k2_sels lw_privs_9)[i]? = some w) (hg : goodWord w = true) : w ∈ dtWT := by
  refine List.mem_filter.mpr ⟨List.mem_append_left _ ?_, hg⟩
  obtain ⟨q, hq, rfl⟩ := List.mem_map.mp (List.mem_of_getElem? h)
  exact List.mem_map.mpr ⟨q, dtPv_9 hq, rfl⟩
theorem wt_0 : Cond.initialized RL ∈ dtWT := dtWT_1 0 (by decide +kernel) rfl
theorem wt_1 : Cond.initialized RX11 ∈ dtWT := dtWT_1 1 (by decide +kernel) rfl
theorem wt_2 : Cond.initialized RX9 ∈ dtWT := dtWT_1 2 (by decide +kernel) rfl
theorem wt_3 : Cond.initialized RX7 ∈ dtWT := dtWT_1 3 (by decide +kernel) rfl
theorem wt_4 : Cond.initialized RX3 ∈ dtWT := dtWT_1 4 (by decide +kernel) rfl
theorem wt_5 : Cond.initialized RX0 ∈ dtWT := dtWT_1 5 (by decide +kernel) rfl
theorem wt_6 : Cond.initialized RX4 ∈ dtWT := dtWT_1 6 (by decide +kernel) rfl
theorem wt_7 : Cond.initialized RX8 ∈ dtWT := dtWT_1 7 (by decide +kernel) rfl
theorem wt_8 : Cond.initialized RX1 ∈ dtWT := dtWT_1 8 (by decide +kernel) rfl
theorem wt_9 : Cond.initialized RX2 ∈ dtWT := dtWT_1 9 (by decide +kernel) rfl
theorem wt_10 : Cond.initialized RX5 ∈ dtWT := dtWT_1 10 (by decide +kernel) rfl
theorem wt_11 : Cond.initialized RX10 ∈ dtWT := dtWT_1 11 (by decide +kernel) rfl
theorem wt_12 : Cond.initialized RX6 ∈ dtWT := dtWT_1 12 (by decide +kernel) rfl
theorem wt_13 : Cond.initialized RX12 ∈ dtWT := dtWT_1 13 (by decide +kernel) rfl
theorem wt_14 : Cond.initialized RJ10 ∈ dtWT := dtWT_1 14 (by decide +kernel) rfl
theorem wt_15 : Cond.initialized RJ9 ∈ dtWT := dtWT_1 15 (by decide +kernel) rfl
theorem wt_16 : Cond.initialized RJ0 ∈ dtWT := dtWT_1 16 (by decide +kernel) rfl
theorem wt_17 : Cond.initialized RJ1 ∈ dtWT := dtWT_1 17 (by decide +kernel) rfl
theorem wt_18 : Cond.initialized RJ3 ∈ dtWT := dtWT_1 18 (by decide +kernel) rfl
theorem wt_19 : Cond.initialized RJ2 ∈ dtWT := dtWT_1 19 (by decide +kernel) rfl
theorem wt_20 : Cond.initialized RJ6 ∈ dtWT := dtWT_1 20 (by decide +kernel) rfl
theorem wt_21 : Cond.classLink RL 7 RX11 ∈ dtWT := dtWT_1 21 (by decide +kernel) rfl
theorem wt_22 : Cond.instantiable RX11 19 ∈ dtWT := dtWT_1 22 (by decide +kernel) rfl
theorem wt_23 : Cond.methodLink RL 9 yX11_init ∈ dtWT := dtWT_1 23 (by decide +kernel) rfl
theorem wt_24 : Cond.instanceMethod yX11_init ∈ dtWT := dtWT_1 24 (by decide +kernel) rfl
theorem wt_25 : Cond.code yX11_init cX11_init 2 none ∈ dtWT := dtWT_1 25 (by decide +kernel) rfl
theorem wt_26 : Cond.methodLink RX11 1 Lib.objectInit ∈ dtWT := dtWT_1 26 (by decide +kernel) rfl
theorem wt_27 : Cond.instanceMethod Lib.objectInit ∈ dtWT := dtWT_1 27 (by decide +kernel) rfl
theorem wt_28 : Cond.code Lib.objectInit ⟨#[0xb1]⟩ 1 none ∈ dtWT := dtWT_1 28 (by decide +kernel) rfl
theorem wt_29 : Cond.classLink RX11 20 RX9 ∈ dtWT := dtWT_1 29 (by decide +kernel) rfl
theorem wt_31 : Cond.instantiable RX9 4 ∈ dtWT := dtWT_1 31 (by decide +kernel) rfl
theorem wt_33 : Cond.instanceMethod yX9_init ∈ dtWT := dtWT_1 33 (by decide +kernel) rfl
theorem wt_34 : Cond.code yX9_init cX9_init 1 none ∈ dtWT := dtWT_1 34 (by decide +kernel) rfl
theorem wt_35 : Cond.methodLink RX9 3 Lib.objectInit ∈ dtWT := dtWT_1 35 (by decide +kernel) rfl
theorem wt_36 : Cond.fieldLink RX9 15 "DoorTongue$Tray" "there" "Z" ∈ dtWT := dtWT_1 36 (by decide +kernel) rfl
theorem wt_37 : Cond.fieldLink RX11 146 "DoorTongue$Tray" "there" "Z" ∈ dtWT := dtWT_1 37 (by decide +kernel) rfl
theorem wt_38 : Cond.fieldLink RX9 19 "DoorTongue$Tray" "sort" "I" ∈ dtWT := dtWT_1 38 (by decide +kernel) rfl
theorem wt_39 : Cond.fieldLink RX11 150 "DoorTongue$Tray" "sort" "I" ∈ dtWT := dtWT_1 39 (by decide +kernel) rfl
theorem wt_40 : Cond.fieldLink RX9 23 "DoorTongue$Tray" "many" "I" ∈ dtWT := dtWT_1 40 (by decide +kernel) rfl
theorem wt_41 : Cond.fieldLink RX11 435 "DoorTongue$Tray" "many" "I" ∈ dtWT := dtWT_1 41 (by decide +kernel) rfl
theorem wt_42 : Cond.fieldLink RX9 9 "DoorTongue$Tray" "numbers" "[J" ∈ dtWT := dtWT_1 42 (by decide +kernel) rfl
theorem wt_43 : Cond.fieldLink RX11 142 "DoorTongue$Tray" "numbers" "[J" ∈ dtWT := dtWT_1 43 (by decide +kernel) rfl
theorem wt_53 : Cond.arrayClass .long ∈ dtWT := dtWT_1 53 (by decide +kernel) rfl
theorem wt_54 : Cond.classLink RX11 27 RX7 ∈ dtWT := dtWT_1 54 (by decide +kernel) rfl
theorem wt_55 : Cond.instantiable RX7 4 ∈ dtWT := dtWT_1 55 (by decide +kernel) rfl
theorem wt_57 : Cond.instanceMethod yX7_init ∈ dtWT := dtWT_1 57 (by decide +kernel) rfl
theorem wt_58 : Cond.code yX7_init cX7_init 1 none ∈ dtWT := dtWT_1 58 (by decide +kernel) rfl
theorem wt_59 : Cond.methodLink RX7 3 Lib.objectInit ∈ dtWT := dtWT_1 59 (by decide +kernel) rfl
theorem wt_60 : Cond.fieldLink RX7 9 "DoorTongue$Tape" "bytes" "[B" ∈ dtWT := dtWT_1 60 (by decide +kernel) rfl
theorem wt_61 : Cond.fieldLink RX11 170 "DoorTongue$Tape" "bytes" "[B" ∈ dtWT := dtWT_1 61 (by decide +kernel) rfl
theorem wt_62 : Cond.fieldLink RX7 22 "DoorTongue$Tape" "many" "I" ∈ dtWT := dtWT_1 62 (by decide +kernel) rfl
theorem wt_63 : Cond.fieldLink RX11 163 "DoorTongue$Tape" "many" "I" ∈ dtWT := dtWT_1 63 (by decide +kernel) rfl
theorem wt_64 : Cond.fieldLink RX7 15 "DoorTongue$Tape" "faultKind" "I" ∈ dtWT := dtWT_1 64 (by decide +kernel) rfl
theorem wt_65 : Cond.fieldLink RX11 202 "DoorTongue$Tape" "faultKind" "I" ∈ dtWT := dtWT_1 65 (by decide +kernel) rfl
theorem wt_66 : Cond.fieldLink RX7 19 "DoorTongue$Tape" "faultPlace" "I" ∈ dtWT := dtWT_1 66 (by decide +kernel) rfl
theorem wt_67 : Cond.fieldLink RX11 205 "DoorTongue$Tape" "faultPlace" "I" ∈ dtWT := dtWT_1 67 (by decide +kernel) rfl
theorem wt_77 : Cond.arrayClass .byte ∈ dtWT := dtWT_1 77 (by decide +kernel) rfl
theorem wt_78 : Cond.classLink RX11 34 RX3 ∈ dtWT := dtWT_1 78 (by decide +kernel) rfl
theorem wt_79 : Cond.instantiable RX3 19 ∈ dtWT := dtWT_1 79 (by decide +kernel) rfl
theorem wt_81 : Cond.instanceMethod yX3_init ∈ dtWT := dtWT_1 81 (by decide +kernel) rfl
theorem wt_82 : Cond.code yX3_init cX3_init 1 none ∈ dtWT := dtWT_1 82 (by decide +kernel) rfl
theorem wt_83 : Cond.methodLink RX3 3 Lib.objectInit ∈ dtWT := dtWT_1 83 (by decide +kernel) rfl
theorem wt_84 : Cond.fieldLink RX3 53 "DoorTongue$House" "rooms" "I" ∈ dtWT := dtWT_1 84 (by decide +kernel) rfl
theorem wt_85 : Cond.fieldLink RX4 77 "DoorTongue$House" "rooms" "I" ∈ dtWT := dtWT_1 85 (by decide +kernel) rfl
theorem wt_86 : Cond.fieldLink RX10 43 "DoorTongue$House" "rooms" "I" ∈ dtWT := dtWT_1 86 (by decide +kernel) rfl
theorem wt_87 : Cond.fieldLink RX1 137 "DoorTongue$House" "rooms" "I" ∈ dtWT := dtWT_1 87 (by decide +kernel) rfl
theorem wt_88 : Cond.fieldLink RX11 208 "DoorTongue$House" "rooms" "I" ∈ dtWT := dtWT_1 88 (by decide +kernel) rfl
theorem wt_89 : Cond.fieldLink RX3 56 "DoorTongue$House" "doors" "I" ∈ dtWT := dtWT_1 89 (by decide +kernel) rfl
theorem wt_90 : Cond.fieldLink RX10 15 "DoorTongue$House" "doors" "I" ∈ dtWT := dtWT_1 90 (by decide +kernel) rfl
theorem wt_91 : Cond.fieldLink RX2 20 "DoorTongue$House" "doors" "I" ∈ dtWT := dtWT_1 91 (by decide +kernel) rfl
theorem wt_92 : Cond.fieldLink RX4 88 "DoorTongue$House" "doors" "I" ∈ dtWT := dtWT_1 92 (by decide +kernel) rfl
theorem wt_93 : Cond.fieldLink RX1 95 "DoorTongue$House" "doors" "I" ∈ dtWT := dtWT_1 93 (by decide +kernel) rfl
theorem wt_94 : Cond.fieldLink RX6 116 "DoorTongue$House" "doors" "I" ∈ dtWT := dtWT_1 94 (by decide +kernel) rfl
theorem wt_95 : Cond.fieldLink RX11 211 "DoorTongue$House" "doors" "I" ∈ dtWT := dtWT_1 95 (by decide +kernel) rfl
theorem wt_96 : Cond.fieldLink RX3 59 "DoorTongue$House" "words" "I" ∈ dtWT := dtWT_1 96 (by decide +kernel) rfl
theorem wt_97 : Cond.fieldLink RX4 108 "DoorTongue$House" "words" "I" ∈ dtWT := dtWT_1 97 (by decide +kernel) rfl
theorem wt_98 : Cond.fieldLink RX5 47 "DoorTongue$House" "words" "I" ∈ dtWT := dtWT_1 98 (by decide +kernel) rfl
theorem wt_99 : Cond.fieldLink RX11 214 "DoorTongue$House" "words" "I" ∈ dtWT := dtWT_1 99 (by decide +kernel) rfl
theorem wt_100 : Cond.fieldLink RX3 62 "DoorTongue$House" "people" "I" ∈ dtWT := dtWT_1 100 (by decide +kernel) rfl
theorem wt_101 : Cond.fieldLink RX2 60 "DoorTongue$House" "people" "I" ∈ dtWT := dtWT_1 101 (by decide +kernel) rfl
theorem wt_102 : Cond.fieldLink RX4 137 "DoorTongue$House" "people" "I" ∈ dtWT := dtWT_1 102 (by decide +kernel) rfl
theorem wt_103 : Cond.fieldLink RX1 124 "DoorTongue$House" "people" "I" ∈ dtWT := dtWT_1 103 (by decide +kernel) rfl
theorem wt_104 : Cond.fieldLink RX11 189 "DoorTongue$House" "people" "I" ∈ dtWT := dtWT_1 104 (by decide +kernel) rfl
theorem wt_105 : Cond.fieldLink RX3 9 "DoorTongue$House" "odds" "I" ∈ dtWT := dtWT_1 105 (by decide +kernel) rfl
theorem wt_106 : Cond.fieldLink RX4 70 "DoorTongue$House" "odds" "I" ∈ dtWT := dtWT_1 106 (by decide +kernel) rfl
theorem wt_107 : Cond.fieldLink RX11 217 "DoorTongue$House" "odds" "I" ∈ dtWT := dtWT_1 107 (by decide +kernel) rfl
theorem wt_108 : Cond.fieldLink RX3 65 "DoorTongue$House" "openSet" "I" ∈ dtWT := dtWT_1 108 (by decide +kernel) rfl
theorem wt_109 : Cond.fieldLink RX2 26 "DoorTongue$House" "openSet" "I" ∈ dtWT := dtWT_1 109 (by decide +kernel) rfl
theorem wt_110 : Cond.fieldLink RX10 33 "DoorTongue$House" "openSet" "I" ∈ dtWT := dtWT_1 110 (by decide +kernel) rfl
theorem wt_111 : Cond.fieldLink RX11 220 "DoorTongue$House" "openSet" "I" ∈ dtWT := dtWT_1 111 (by decide +kernel) rfl
theorem wt_112 : Cond.fieldLink RX6 15 "DoorTongue$House" "made" "I" ∈ dtWT := dtWT_1 112 (by decide +kernel) rfl
theorem wt_113 : Cond.fieldLink RX3 68 "DoorTongue$House" "made" "I" ∈ dtWT := dtWT_1 113 (by decide +kernel) rfl
theorem wt_114 : Cond.fieldLink RX2 89 "DoorTongue$House" "made" "I" ∈ dtWT := dtWT_1 114 (by decide +kernel) rfl
theorem wt_115 : Cond.fieldLink RX11 223 "DoorTongue$House" "made" "I" ∈ dtWT := dtWT_1 115 (by decide +kernel) rfl
theorem wt_116 : Cond.fieldLink RX3 15 "DoorTongue$House" "roomNames" "[J" ∈ dtWT := dtWT_1 116 (by decide +kernel) rfl
theorem wt_117 : Cond.fieldLink RX4 91 "DoorTongue$House" "roomNames" "[J" ∈ dtWT := dtWT_1 117 (by decide +kernel) rfl
theorem wt_118 : Cond.fieldLink RX1 134 "DoorTongue$House" "roomNames" "[J" ∈ dtWT := dtWT_1 118 (by decide +kernel) rfl
theorem wt_119 : Cond.fieldLink RX3 19 "DoorTongue$House" "personNames" "[J" ∈ dtWT := dtWT_1 119 (by decide +kernel) rfl
theorem wt_120 : Cond.fieldLink RX1 120 "DoorTongue$House" "personNames" "[J" ∈ dtWT := dtWT_1 120 (by decide +kernel) rfl
theorem wt_121 : Cond.fieldLink RX4 172 "DoorTongue$House" "personNames" "[J" ∈ dtWT := dtWT_1 121 (by decide +kernel) rfl
theorem wt_122 : Cond.fieldLink RX3 22 "DoorTongue$House" "oneRoom" "[I" ∈ dtWT := dtWT_1 122 (by decide +kernel) rfl
theorem wt_123 : Cond.fieldLink RX2 38 "DoorTongue$House" "oneRoom" "[I" ∈ dtWT := dtWT_1 123 (by decide +kernel) rfl
theorem wt_124 : Cond.fieldLink RX11 229 "DoorTongue$House" "oneRoom" "[I" ∈ dtWT := dtWT_1 124 (by decide +kernel) rfl
theorem wt_125 : Cond.fieldLink RX3 26 "DoorTongue$House" "otherRoom" "[I" ∈ dtWT := dtWT_1 125 (by decide +kernel) rfl
theorem wt_126 : Cond.fieldLink RX2 41 "DoorTongue$House" "otherRoom" "[I" ∈ dtWT := dtWT_1 126 (by decide +kernel) rfl
theorem wt_127 : Cond.fieldLink RX11 232 "DoorTongue$House" "otherRoom" "[I" ∈ dtWT := dtWT_1 127 (by decide +kernel) rfl
theorem wt_128 : Cond.fieldLink RX3 29 "DoorTongue$House" "baize" "[I" ∈ dtWT := dtWT_1 128 (by decide +kernel) rfl
theorem wt_129 : Cond.fieldLink RX2 29 "DoorTongue$House" "baize" "[I" ∈ dtWT := dtWT_1 129 (by decide +kernel) rfl
theorem wt_130 : Cond.fieldLink RX11 235 "DoorTongue$House" "baize" "[I" ∈ dtWT := dtWT_1 130 (by decide +kernel) rfl
theorem wt_131 : Cond.fieldLink RX3 32 "DoorTongue$House" "wordLength" "[I" ∈ dtWT := dtWT_1 131 (by decide +kernel) rfl
theorem wt_132 : Cond.fieldLink RX5 25 "DoorTongue$House" "wordLength" "[I" ∈ dtWT := dtWT_1 132 (by decide +kernel) rfl
theorem wt_133 : Cond.fieldLink RX11 244 "DoorTongue$House" "wordLength" "[I" ∈ dtWT := dtWT_1 133 (by decide +kernel) rfl
theorem wt_134 : Cond.fieldLink RX3 35 "DoorTongue$House" "wordSounds" "[I" ∈ dtWT := dtWT_1 134 (by decide +kernel) rfl
theorem wt_135 : Cond.fieldLink RX3 38 "DoorTongue$House" "roomOf" "[I" ∈ dtWT := dtWT_1 135 (by decide +kernel) rfl
theorem wt_136 : Cond.fieldLink RX2 51 "DoorTongue$House" "roomOf" "[I" ∈ dtWT := dtWT_1 136 (by decide +kernel) rfl
theorem wt_137 : Cond.fieldLink RX6 75 "DoorTongue$House" "roomOf" "[I" ∈ dtWT := dtWT_1 137 (by decide +kernel) rfl
theorem wt_138 : Cond.fieldLink RX11 253 "DoorTongue$House" "roomOf" "[I" ∈ dtWT := dtWT_1 138 (by decide +kernel) rfl
theorem wt_139 : Cond.fieldLink RX3 41 "DoorTongue$House" "deafness" "[I" ∈ dtWT := dtWT_1 139 (by decide +kernel) rfl
theorem wt_140 : Cond.fieldLink RX2 54 "DoorTongue$House" "deafness" "[I" ∈ dtWT := dtWT_1 140 (by decide +kernel) rfl
theorem wt_141 : Cond.fieldLink RX4 148 "DoorTongue$House" "deafness" "[I" ∈ dtWT := dtWT_1 141 (by decide +kernel) rfl
theorem wt_142 : Cond.fieldLink RX11 256 "DoorTongue$House" "deafness" "[I" ∈ dtWT := dtWT_1 142 (by decide +kernel) rfl
theorem wt_143 : Cond.fieldLink RX3 44 "DoorTongue$House" "knownBy" "[I" ∈ dtWT := dtWT_1 143 (by decide +kernel) rfl
theorem wt_144 : Cond.fieldLink RX4 152 "DoorTongue$House" "knownBy" "[I" ∈ dtWT := dtWT_1 144 (by decide +kernel) rfl
theorem wt_145 : Cond.fieldLink RX11 259 "DoorTongue$House" "knownBy" "[I" ∈ dtWT := dtWT_1 145 (by decide +kernel) rfl
theorem wt_146 : Cond.fieldLink RX3 47 "DoorTongue$House" "heardMany" "[I" ∈ dtWT := dtWT_1 146 (by decide +kernel) rfl
theorem wt_147 : Cond.fieldLink RX5 41 "DoorTongue$House" "heardMany" "[I" ∈ dtWT := dtWT_1 147 (by decide +kernel) rfl
theorem wt_148 : Cond.fieldLink RX6 85 "DoorTongue$House" "heardMany" "[I" ∈ dtWT := dtWT_1 148 (by decide +kernel) rfl
theorem wt_149 : Cond.fieldLink RX11 262 "DoorTongue$House" "heardMany" "[I" ∈ dtWT := dtWT_1 149 (by decide +kernel) rfl
theorem wt_150 : Cond.fieldLink RX3 50 "DoorTongue$House" "heardRow" "[I" ∈ dtWT := dtWT_1 150 (by decide +kernel) rfl
theorem wt_151 : Cond.fieldLink RX5 44 "DoorTongue$House" "heardRow" "[I" ∈ dtWT := dtWT_1 151 (by decide +kernel) rfl
theorem wt_152 : Cond.fieldLink RX11 265 "DoorTongue$House" "heardRow" "[I" ∈ dtWT := dtWT_1 152 (by decide +kernel) rfl
theorem wt_192 : Cond.arrayClass .int ∈ dtWT := dtWT_1 192 (by decide +kernel) rfl
theorem wt_193 : Cond.classLink RX11 44 RX0 ∈ dtWT := dtWT_1 193 (by decide +kernel) rfl
theorem wt_194 : Cond.instantiable RX0 9 ∈ dtWT := dtWT_1 194 (by decide +kernel) rfl
theorem wt_196 : Cond.instanceMethod yX0_init ∈ dtWT := dtWT_1 196 (by decide +kernel) rfl
theorem wt_197 : Cond.code yX0_init cX0_init 1 none ∈ dtWT := dtWT_1 197 (by decide +kernel) rfl
theorem wt_198 : Cond.methodLink RX0 3 Lib.objectInit ∈ dtWT := dtWT_1 198 (by decide +kernel) rfl
theorem wt_199 : Cond.fieldLink RX0 30 "DoorTongue$Days" "there" "Z" ∈ dtWT := dtWT_1 199 (by decide +kernel) rfl
theorem wt_200 : Cond.fieldLink RX1 61 "DoorTongue$Days" "there" "Z" ∈ dtWT := dtWT_1 200 (by decide +kernel) rfl
theorem wt_201 : Cond.fieldLink RX11 407 "DoorTongue$Days" "there" "Z" ∈ dtWT := dtWT_1 201 (by decide +kernel) rfl
theorem wt_202 : Cond.fieldLink RX0 34 "DoorTongue$Days" "steps" "I" ∈ dtWT := dtWT_1 202 (by decide +kernel) rfl
theorem wt_203 : Cond.fieldLink RX1 82 "DoorTongue$Days" "steps" "I" ∈ dtWT := dtWT_1 203 (by decide +kernel) rfl
theorem wt_204 : Cond.fieldLink RX11 199 "DoorTongue$Days" "steps" "I" ∈ dtWT := dtWT_1 204 (by decide +kernel) rfl
theorem wt_205 : Cond.fieldLink RX0 38 "DoorTongue$Days" "length" "I" ∈ dtWT := dtWT_1 205 (by decide +kernel) rfl
theorem wt_206 : Cond.fieldLink RX6 41 "DoorTongue$Days" "length" "I" ∈ dtWT := dtWT_1 206 (by decide +kernel) rfl
theorem wt_207 : Cond.fieldLink RX0 9 "DoorTongue$Days" "kinds" "[I" ∈ dtWT := dtWT_1 207 (by decide +kernel) rfl
theorem wt_208 : Cond.fieldLink RX6 46 "DoorTongue$Days" "kinds" "[I" ∈ dtWT := dtWT_1 208 (by decide +kernel) rfl
theorem wt_209 : Cond.fieldLink RX1 89 "DoorTongue$Days" "kinds" "[I" ∈ dtWT := dtWT_1 209 (by decide +kernel) rfl
theorem wt_210 : Cond.fieldLink RX0 15 "DoorTongue$Days" "tests" "[I" ∈ dtWT := dtWT_1 210 (by decide +kernel) rfl
theorem wt_211 : Cond.fieldLink RX6 72 "DoorTongue$Days" "tests" "[I" ∈ dtWT := dtWT_1 211 (by decide +kernel) rfl
theorem wt_212 : Cond.fieldLink RX1 108 "DoorTongue$Days" "tests" "[I" ∈ dtWT := dtWT_1 212 (by decide +kernel) rfl
theorem wt_213 : Cond.fieldLink RX0 18 "DoorTongue$Days" "who" "[I" ∈ dtWT := dtWT_1 213 (by decide +kernel) rfl
theorem wt_214 : Cond.fieldLink RX6 78 "DoorTongue$Days" "who" "[I" ∈ dtWT := dtWT_1 214 (by decide +kernel) rfl
theorem wt_215 : Cond.fieldLink RX1 117 "DoorTongue$Days" "who" "[I" ∈ dtWT := dtWT_1 215 (by decide +kernel) rfl
theorem wt_216 : Cond.fieldLink RX0 21 "DoorTongue$Days" "what" "[I" ∈ dtWT := dtWT_1 216 (by decide +kernel) rfl
theorem wt_217 : Cond.fieldLink RX6 69 "DoorTongue$Days" "what" "[I" ∈ dtWT := dtWT_1 217 (by decide +kernel) rfl
theorem wt_218 : Cond.fieldLink RX1 131 "DoorTongue$Days" "what" "[I" ∈ dtWT := dtWT_1 218 (by decide +kernel) rfl
theorem wt_219 : Cond.fieldLink RX0 24 "DoorTongue$Days" "how" "[I" ∈ dtWT := dtWT_1 219 (by decide +kernel) rfl
theorem wt_220 : Cond.fieldLink RX6 94 "DoorTongue$Days" "how" "[I" ∈ dtWT := dtWT_1 220 (by decide +kernel) rfl
theorem wt_221 : Cond.fieldLink RX1 144 "DoorTongue$Days" "how" "[I" ∈ dtWT := dtWT_1 221 (by decide +kernel) rfl
theorem wt_222 : Cond.fieldLink RX0 27 "DoorTongue$Days" "partner" "[I" ∈ dtWT := dtWT_1 222 (by decide +kernel) rfl
theorem wt_223 : Cond.fieldLink RX6 62 "DoorTongue$Days" "partner" "[I" ∈ dtWT := dtWT_1 223 (by decide +kernel) rfl
theorem wt_224 : Cond.fieldLink RX1 73 "DoorTongue$Days" "partner" "[I" ∈ dtWT := dtWT_1 224 (by decide +kernel) rfl
theorem wt_246 : Cond.classLink RX11 65 RX4 ∈ dtWT := dtWT_2 6 (by decide +kernel) rfl
theorem wt_247 : Cond.instantiable RX4 3 ∈ dtWT := dtWT_2 7 (by decide +kernel) rfl
theorem wt_249 : Cond.instanceMethod yX4_init ∈ dtWT := dtWT_2 9 (by decide +kernel) rfl
theorem wt_250 : Cond.code yX4_init cX4_init 1 none ∈ dtWT := dtWT_2 10 (by decide +kernel) rfl
theorem wt_251 : Cond.methodLink RX4 3 Lib.objectInit ∈ dtWT := dtWT_2 11 (by decide +kernel) rfl
theorem wt_252 : Cond.classLink RX4 9 RX8 ∈ dtWT := dtWT_2 12 (by decide +kernel) rfl
theorem wt_253 : Cond.instantiable RX8 10 ∈ dtWT := dtWT_2 13 (by decide +kernel) rfl
theorem wt_255 : Cond.instanceMethod yX8_init ∈ dtWT := dtWT_2 15 (by decide +kernel) rfl
theorem wt_256 : Cond.code yX8_init cX8_init 1 none ∈ dtWT := dtWT_2 16 (by decide +kernel) rfl
theorem wt_257 : Cond.methodLink RX8 3 Lib.objectInit ∈ dtWT := dtWT_2 17 (by decide +kernel) rfl
theorem wt_258 : Cond.fieldLink RX8 9 "DoorTongue$Tokens" "text" "[B" ∈ dtWT := dtWT_2 18 (by decide +kernel) rfl
theorem wt_259 : Cond.fieldLink RX8 21 "DoorTongue$Tokens" "length" "I" ∈ dtWT := dtWT_2 19 (by decide +kernel) rfl
theorem wt_260 : Cond.fieldLink RX8 37 "DoorTongue$Tokens" "start" "I" ∈ dtWT := dtWT_2 20 (by decide +kernel) rfl
theorem wt_261 : Cond.fieldLink RX8 25 "DoorTongue$Tokens" "end" "I" ∈ dtWT := dtWT_2 21 (by decide +kernel) rfl
theorem wt_262 : Cond.fieldLink RX8 40 "DoorTongue$Tokens" "kind" "I" ∈ dtWT := dtWT_2 22 (by decide +kernel) rfl
theorem wt_263 : Cond.fieldLink RX8 43 "DoorTongue$Tokens" "value" "I" ∈ dtWT := dtWT_2 23 (by decide +kernel) rfl
theorem wt_264 : Cond.fieldLink RX4 39 "DoorTongue$Tokens" "keyword" "I" ∈ dtWT := dtWT_2 24 (by decide +kernel) rfl
theorem wt_265 : Cond.fieldLink RX1 39 "DoorTongue$Tokens" "keyword" "I" ∈ dtWT := dtWT_2 25 (by decide +kernel) rfl
theorem wt_266 : Cond.fieldLink RX8 46 "DoorTongue$Tokens" "keyword" "I" ∈ dtWT := dtWT_2 26 (by decide +kernel) rfl
theorem wt_267 : Cond.fieldLink RX8 49 "DoorTongue$Tokens" "name" "J" ∈ dtWT := dtWT_2 27 (by decide +kernel) rfl
theorem wt_268 : Cond.fieldLink RX4 165 "DoorTongue$Tokens" "name" "J" ∈ dtWT := dtWT_2 28 (by decide +kernel) rfl
theorem wt_269 : Cond.fieldLink RX8 28 "DoorTongue$Tokens" "flawKind" "I" ∈ dtWT := dtWT_2 29 (by decide +kernel) rfl
theorem wt_270 : Cond.fieldLink RX7 25 "DoorTongue$Tokens" "flawKind" "I" ∈ dtWT := dtWT_2 30 (by decide +kernel) rfl
theorem wt_271 : Cond.fieldLink RX8 31 "DoorTongue$Tokens" "flawPlace" "I" ∈ dtWT := dtWT_2 31 (by decide +kernel) rfl
theorem wt_272 : Cond.fieldLink RX7 30 "DoorTongue$Tokens" "flawPlace" "I" ∈ dtWT := dtWT_2 32 (by decide +kernel) rfl
theorem wt_294 : Cond.fieldLink RX4 12 "DoorTongue$HouseReader" "tokens" "LDoorTongue$Tokens;" ∈ dtWT := dtWT_2 54 (by decide +kernel) rfl
theorem wt_295 : Cond.fieldLink RX11 178 "DoorTongue$HouseReader" "tokens" "LDoorTongue$Tokens;" ∈ dtWT := dtWT_2 55 (by decide +kernel) rfl
theorem wt_296 : Cond.fieldLink RX4 18 "DoorTongue$HouseReader" "wordNames" "[J" ∈ dtWT := dtWT_2 56 (by decide +kernel) rfl
theorem wt_297 : Cond.fieldLink RX4 27 "DoorTongue$HouseReader" "oddsTold" "Z" ∈ dtWT := dtWT_2 57 (by decide +kernel) rfl
theorem wt_305 : Cond.classLink RX11 72 RX1 ∈ dtWT := dtWT_2 65 (by decide +kernel) rfl
theorem wt_306 : Cond.instantiable RX1 3 ∈ dtWT := dtWT_2 66 (by decide +kernel) rfl
theorem wt_308 : Cond.instanceMethod yX1_init ∈ dtWT := dtWT_2 68 (by decide +kernel) rfl
theorem wt_309 : Cond.code yX1_init cX1_init 1 none ∈ dtWT := dtWT_2 69 (by decide +kernel) rfl
theorem wt_310 : Cond.methodLink RX1 3 Lib.objectInit ∈ dtWT := dtWT_2 70 (by decide +kernel) rfl
theorem wt_311 : Cond.classLink RX1 9 RX8 ∈ dtWT := dtWT_2 71 (by decide +kernel) rfl
theorem wt_313 : Cond.fieldLink RX1 12 "DoorTongue$DaysReader" "tokens" "LDoorTongue$Tokens;" ∈ dtWT := dtWT_2 73 (by decide +kernel) rfl
theorem wt_314 : Cond.fieldLink RX11 198 "DoorTongue$DaysReader" "tokens" "LDoorTongue$Tokens;" ∈ dtWT := dtWT_2 74 (by decide +kernel) rfl
theorem wt_315 : Cond.fieldLink RX1 18 "DoorTongue$DaysReader" "begun" "[I" ∈ dtWT := dtWT_2 75 (by decide +kernel) rfl
theorem wt_316 : Cond.fieldLink RX1 27 "DoorTongue$DaysReader" "nested" "I" ∈ dtWT := dtWT_2 76 (by decide +kernel) rfl
theorem wt_324 : Cond.classLink RX11 79 RX2 ∈ dtWT := dtWT_2 84 (by decide +kernel) rfl
theorem wt_325 : Cond.instantiable RX2 1 ∈ dtWT := dtWT_2 85 (by decide +kernel) rfl
theorem wt_327 : Cond.instanceMethod yX2_init ∈ dtWT := dtWT_2 87 (by decide +kernel) rfl
theorem wt_328 : Cond.code yX2_init cX2_init 1 none ∈ dtWT := dtWT_2 88 (by decide +kernel) rfl
theorem wt_329 : Cond.methodLink RX2 3 Lib.objectInit ∈ dtWT := dtWT_2 89 (by decide +kernel) rfl
theorem wt_330 : Cond.fieldLink RX2 9 "DoorTongue$Hearing" "lost" "[I" ∈ dtWT := dtWT_2 90 (by decide +kernel) rfl
theorem wt_334 : Cond.classLink RX11 86 RX5 ∈ dtWT := dtWT_2 94 (by decide +kernel) rfl
theorem wt_335 : Cond.instantiable RX5 4 ∈ dtWT := dtWT_2 95 (by decide +kernel) rfl
theorem wt_337 : Cond.instanceMethod yX5_init ∈ dtWT := dtWT_2 97 (by decide +kernel) rfl
theorem wt_338 : Cond.code yX5_init cX5_init 1 none ∈ dtWT := dtWT_2 98 (by decide +kernel) rfl
theorem wt_339 : Cond.methodLink RX5 3 Lib.objectInit ∈ dtWT := dtWT_2 99 (by decide +kernel) rfl
theorem wt_340 : Cond.fieldLink RX5 9 "DoorTongue$Meaning" "row" "[I" ∈ dtWT := dtWT_2 100 (by decide +kernel) rfl
theorem wt_341 : Cond.fieldLink RX5 21 "DoorTongue$Meaning" "many" "I" ∈ dtWT := dtWT_2 101 (by decide +kernel) rfl
theorem wt_342 : Cond.fieldLink RX5 15 "DoorTongue$Meaning" "after" "[I" ∈ dtWT := dtWT_2 102 (by decide +kernel) rfl
theorem wt_343 : Cond.fieldLink RX5 18 "DoorTongue$Meaning" "before" "[I" ∈ dtWT := dtWT_2 103 (by decide +kernel) rfl
theorem wt_353 : Cond.classLink RX11 93 RX10 ∈ dtWT := dtWT_2 113 (by decide +kernel) rfl
theorem wt_354 : Cond.instantiable RX10 1 ∈ dtWT := dtWT_2 114 (by decide +kernel) rfl
theorem wt_356 : Cond.instanceMethod yX10_init ∈ dtWT := dtWT_2 116 (by decide +kernel) rfl
theorem wt_357 : Cond.code yX10_init cX10_init 1 none ∈ dtWT := dtWT_2 117 (by decide +kernel) rfl
theorem wt_358 : Cond.methodLink RX10 3 Lib.objectInit ∈ dtWT := dtWT_2 118 (by decide +kernel) rfl
theorem wt_359 : Cond.fieldLink RX10 9 "DoorTongue$Ways" "worth" "[I" ∈ dtWT := dtWT_2 119 (by decide +kernel) rfl
theorem wt_363 : Cond.classLink RX11 100 RX6 ∈ dtWT := dtWT_2 123 (by decide +kernel) rfl
theorem wt_364 : Cond.instantiable RX6 8 ∈ dtWT := dtWT_2 124 (by decide +kernel) rfl
theorem wt_366 : Cond.instanceMethod yX6_init ∈ dtWT := dtWT_2 126 (by decide +kernel) rfl
theorem wt_367 : Cond.code yX6_init cX6_init 1 none ∈ dtWT := dtWT_2 127 (by decide +kernel) rfl
theorem wt_368 : Cond.methodLink RX6 3 Lib.objectInit ∈ dtWT := dtWT_2 128 (by decide +kernel) rfl
theorem wt_369 : Cond.fieldLink RX6 9 "DoorTongue$Runner" "left" "[I" ∈ dtWT := dtWT_2 129 (by decide +kernel) rfl
theorem wt_370 : Cond.fieldLink RX6 21 "DoorTongue$Runner" "draws" "I" ∈ dtWT := dtWT_2 130 (by decide +kernel) rfl
theorem wt_371 : Cond.fieldLink RX6 24 "DoorTongue$Runner" "done" "I" ∈ dtWT := dtWT_2 131 (by decide +kernel) rfl
theorem wt_372 : Cond.fieldLink RX11 425 "DoorTongue$Runner" "done" "I" ∈ dtWT := dtWT_2 132 (by decide +kernel) rfl
theorem wt_373 : Cond.fieldLink RX6 27 "DoorTongue$Runner" "missed" "I" ∈ dtWT := dtWT_2 133 (by decide +kernel) rfl
theorem wt_374 : Cond.fieldLink RX11 412 "DoorTongue$Runner" "missed" "I" ∈ dtWT := dtWT_2 134 (by decide +kernel) rfl
theorem wt_375 : Cond.fieldLink RX6 61 "DoorTongue$Runner" "made" "I" ∈ dtWT := dtWT_2 135 (by decide +kernel) rfl
theorem wt_376 : Cond.fieldLink RX11 415 "DoorTongue$Runner" "made" "I" ∈ dtWT := dtWT_2 136 (by decide +kernel) rfl
theorem wt_377 : Cond.fieldLink RX6 30 "DoorTongue$Runner" "caught" "I" ∈ dtWT := dtWT_2 137 (by decide +kernel) rfl
theorem wt_378 : Cond.fieldLink RX11 416 "DoorTongue$Runner" "caught" "I" ∈ dtWT := dtWT_2 138 (by decide +kernel) rfl
theorem wt_379 : Cond.fieldLink RX6 33 "DoorTongue$Runner" "passed" "I" ∈ dtWT := dtWT_2 139 (by decide +kernel) rfl
theorem wt_380 : Cond.fieldLink RX11 419 "DoorTongue$Runner" "passed" "I" ∈ dtWT := dtWT_2 140 (by decide +kernel) rfl
theorem wt_381 : Cond.fieldLink RX6 36 "DoorTongue$Runner" "cut" "Z" ∈ dtWT := dtWT_2 141 (by decide +kernel) rfl
theorem wt_382 : Cond.fieldLink RX11 422 "DoorTongue$Runner" "cut" "Z" ∈ dtWT := dtWT_2 142 (by decide +kernel) rfl
theorem wt_400 : Cond.fieldLink RX11 7 "DoorTongue" "status" "I" ∈ dtWT := dtWT_2 160 (by decide +kernel) rfl
theorem wt_401 : Cond.fieldLink RX11 13 "DoorTongue" "top" "J" ∈ dtWT := dtWT_2 161 (by decide +kernel) rfl
theorem wt_402 : Cond.fieldLink RX11 17 "DoorTongue" "bottom" "J" ∈ dtWT := dtWT_2 162 (by decide +kernel) rfl
theorem wt_403 : Cond.fieldLink RX11 22 "DoorTongue" "trays" "[LDoorTongue$Tray;" ∈ dtWT := dtWT_2 163 (by decide +kernel) rfl
theorem wt_404 : Cond.fieldLink RX11 30 "DoorTongue" "tape" "LDoorTongue$Tape;" ∈ dtWT := dtWT_2 164 (by decide +kernel) rfl
theorem wt_405 : Cond.fieldLink RX11 37 "DoorTongue" "house" "LDoorTongue$House;" ∈ dtWT := dtWT_2 165 (by decide +kernel) rfl
theorem wt_406 : Cond.fieldLink RX11 41 "DoorTongue" "draftHouse" "LDoorTongue$House;" ∈ dtWT := dtWT_2 166 (by decide +kernel) rfl
theorem wt_407 : Cond.fieldLink RX11 47 "DoorTongue" "days" "LDoorTongue$Days;" ∈ dtWT := dtWT_2 167 (by decide +kernel) rfl
theorem wt_408 : Cond.fieldLink RX11 51 "DoorTongue" "draftDays" "LDoorTongue$Days;" ∈ dtWT := dtWT_2 168 (by decide +kernel) rfl
theorem wt_409 : Cond.fieldLink RX11 54 "DoorTongue" "markedHouses" "[LDoorTongue$House;" ∈ dtWT := dtWT_2 169 (by decide +kernel) rfl
theorem wt_410 : Cond.fieldLink RX11 58 "DoorTongue" "markedDays" "[LDoorTongue$Days;" ∈ dtWT := dtWT_2 170 (by decide +kernel) rfl
theorem wt_411 : Cond.fieldLink RX11 62 "DoorTongue" "marks" "I" ∈ dtWT := dtWT_2 171 (by decide +kernel) rfl
theorem wt_412 : Cond.fieldLink RX11 68 "DoorTongue" "houseReader" "LDoorTongue$HouseReader;" ∈ dtWT := dtWT_2 172 (by decide +kernel) rfl
theorem wt_413 : Cond.fieldLink RX11 75 "DoorTongue" "daysReader" "LDoorTongue$DaysReader;" ∈ dtWT := dtWT_2 173 (by decide +kernel) rfl
theorem wt_414 : Cond.fieldLink RX11 82 "DoorTongue" "hearing" "LDoorTongue$Hearing;" ∈ dtWT := dtWT_2 174 (by decide +kernel) rfl
theorem wt_415 : Cond.fieldLink RX11 89 "DoorTongue" "meaning" "LDoorTongue$Meaning;" ∈ dtWT := dtWT_2 175 (by decide +kernel) rfl
theorem wt_416 : Cond.fieldLink RX11 96 "DoorTongue" "ways" "LDoorTongue$Ways;" ∈ dtWT := dtWT_2 176 (by decide +kernel) rfl
theorem wt_417 : Cond.fieldLink RX11 103 "DoorTongue" "runner" "LDoorTongue$Runner;" ∈ dtWT := dtWT_2 177 (by decide +kernel) rfl
theorem wt_418 : Cond.fieldLink RX11 107 "DoorTongue" "livedLatest" "[I" ∈ dtWT := dtWT_2 178 (by decide +kernel) rfl
theorem wt_458 : Cond.methodLink RL 13 yX11_status ∈ dtWT := dtWT_2 218 (by decide +kernel) rfl
theorem wt_459 : Cond.instanceMethod yX11_status ∈ dtWT := dtWT_2 219 (by decide +kernel) rfl
theorem wt_460 : Cond.selects RX11 yX11_status yX11_status ∈ dtWT := dtWT_2 220 (by decide +kernel) rfl
theorem wt_461 : Cond.code yX11_status cX11_status 1 (some .int) ∈ dtWT := dtWT_2 221 (by decide +kernel) rfl
theorem wt_462 : Cond.methodLink RL 18 yX11_top ∈ dtWT := dtWT_2 222 (by decide +kernel) rfl
theorem wt_463 : Cond.instanceMethod yX11_top ∈ dtWT := dtWT_2 223 (by decide +kernel) rfl
theorem wt_464 : Cond.selects RX11 yX11_top yX11_top ∈ dtWT := dtWT_2 224 (by decide +kernel) rfl
theorem wt_465 : Cond.code yX11_top cX11_top 1 (some .long) ∈ dtWT := dtWT_2 225 (by decide +kernel) rfl
theorem wt_466 : Cond.methodLink RL 23 yX11_bottom ∈ dtWT := dtWT_2 226 (by decide +kernel) rfl
theorem wt_467 : Cond.instanceMethod yX11_bottom ∈ dtWT := dtWT_2 227 (by decide +kernel) rfl
theorem wt_468 : Cond.selects RX11 yX11_bottom yX11_bottom ∈ dtWT := dtWT_2 228 (by decide +kernel) rfl
theorem wt_469 : Cond.code yX11_bottom cX11_bottom 1 (some .long) ∈ dtWT := dtWT_2 229 (by decide +kernel) rfl
theorem wt_470 : Cond.methodLink RL 27 yX11_tray ∈ dtWT := dtWT_2 230 (by decide +kernel) rfl
theorem wt_471 : Cond.instanceMethod yX11_tray ∈ dtWT := dtWT_2 231 (by decide +kernel) rfl
theorem wt_472 : Cond.selects RX11 yX11_tray yX11_tray ∈ dtWT := dtWT_2 232 (by decide +kernel) rfl
theorem wt_473 : Cond.code yX11_tray cX11_tray 4 (some .boolean) ∈ dtWT := dtWT_2 233 (by decide +kernel) rfl
theorem wt_474 : Cond.methodLink RX11 111 yX11_isTray ∈ dtWT := dtWT_2 234 (by decide +kernel) rfl
theorem wt_475 : Cond.static yX11_isTray ∈ dtWT := dtWT_2 235 (by decide +kernel) rfl
theorem wt_476 : Cond.code yX11_isTray cX11_isTray 1 (some .boolean) ∈ dtWT := dtWT_2 236 (by decide +kernel) rfl
theorem wt_477 : Cond.methodLink RX11 115 yX11_within ∈ dtWT := dtWT_2 237 (by decide +kernel) rfl
theorem wt_478 : Cond.static yX11_within ∈ dtWT := dtWT_2 238 (by decide +kernel) rfl
theorem wt_479 : Cond.code yX11_within cX11_within 3 (some .boolean) ∈ dtWT := dtWT_2 239 (by decide +kernel) rfl
theorem wt_480 : Cond.methodLink RX11 119 yX11_refuse ∈ dtWT := dtWT_3 0 (by decide +kernel) rfl
theorem wt_482 : Cond.instanceMethod yX11_refuse ∈ dtWT := dtWT_3 2 (by decide +kernel) rfl
theorem wt_483 : Cond.code yX11_refuse cX11_refuse 2 (some .boolean) ∈ dtWT := dtWT_3 3 (by decide +kernel) rfl
theorem wt_484 : Cond.methodLink RX11 122 yX9_layOut ∈ dtWT := dtWT_3 4 (by decide +kernel) rfl
theorem wt_485 : Cond.instanceMethod yX9_layOut ∈ dtWT := dtWT_3 5 (by decide +kernel) rfl
theorem wt_486 : Cond.selects RX9 yX9_layOut yX9_layOut ∈ dtWT := dtWT_3 6 (by decide +kernel) rfl
theorem wt_487 : Cond.code yX9_layOut cX9_layOut 4 none ∈ dtWT := dtWT_3 7 (by decide +kernel) rfl
theorem wt_488 : Cond.methodLink RX11 126 yX11_agree ∈ dtWT := dtWT_3 8 (by decide +kernel) rfl
theorem wt_490 : Cond.instanceMethod yX11_agree ∈ dtWT := dtWT_3 10 (by decide +kernel) rfl
theorem wt_491 : Cond.code yX11_agree cX11_agree 1 (some .boolean) ∈ dtWT := dtWT_3 11 (by decide +kernel) rfl
theorem wt_492 : Cond.methodLink RL 34 yX11_write ∈ dtWT := dtWT_3 12 (by decide +kernel) rfl
theorem wt_493 : Cond.instanceMethod yX11_write ∈ dtWT := dtWT_3 13 (by decide +kernel) rfl
theorem wt_494 : Cond.selects RX11 yX11_write yX11_write ∈ dtWT := dtWT_3 14 (by decide +kernel) rfl
theorem wt_495 : Cond.code yX11_write cX11_write 6 (some .boolean) ∈ dtWT := dtWT_3 15 (by decide +kernel) rfl
theorem wt_496 : Cond.methodLink RX11 130 yX11_placeStatus ∈ dtWT := dtWT_3 16 (by decide +kernel) rfl
theorem wt_498 : Cond.instanceMethod yX11_placeStatus ∈ dtWT := dtWT_3 18 (by decide +kernel) rfl
theorem wt_499 : Cond.code yX11_placeStatus cX11_placeStatus 3 (some .int) ∈ dtWT := dtWT_3 19 (by decide +kernel) rfl
theorem wt_500 : Cond.methodLink RX11 134 yX9_put ∈ dtWT := dtWT_3 20 (by decide +kernel) rfl
theorem wt_501 : Cond.instanceMethod yX9_put ∈ dtWT := dtWT_3 21 (by decide +kernel) rfl
theorem wt_502 : Cond.selects RX9 yX9_put yX9_put ∈ dtWT := dtWT_3 22 (by decide +kernel) rfl
theorem wt_503 : Cond.code yX9_put cX9_put 4 none ∈ dtWT := dtWT_3 23 (by decide +kernel) rfl
theorem wt_504 : Cond.methodLink RL 39 yX11_read ∈ dtWT := dtWT_3 24 (by decide +kernel) rfl
theorem wt_505 : Cond.instanceMethod yX11_read ∈ dtWT := dtWT_3 25 (by decide +kernel) rfl
theorem wt_506 : Cond.selects RX11 yX11_read yX11_read ∈ dtWT := dtWT_3 26 (by decide +kernel) rfl
theorem wt_507 : Cond.code yX11_read cX11_read 4 (some .long) ∈ dtWT := dtWT_3 27 (by decide +kernel) rfl
theorem wt_508 : Cond.methodLink RX11 138 yX11_fail ∈ dtWT := dtWT_3 28 (by decide +kernel) rfl
theorem wt_510 : Cond.instanceMethod yX11_fail ∈ dtWT := dtWT_3 30 (by decide +kernel) rfl
theorem wt_511 : Cond.code yX11_fail cX11_fail 2 (some .int) ∈ dtWT := dtWT_3 31 (by decide +kernel) rfl
theorem wt_512 : Cond.methodLink RL 44 yX11_pour ∈ dtWT := dtWT_3 32 (by decide +kernel) rfl
theorem wt_513 : Cond.instanceMethod yX11_pour ∈ dtWT := dtWT_3 33 (by decide +kernel) rfl
theorem wt_514 : Cond.selects RX11 yX11_pour yX11_pour ∈ dtWT := dtWT_3 34 (by decide +kernel) rfl
theorem wt_515 : Cond.code yX11_pour cX11_pour 8 (some .boolean) ∈ dtWT := dtWT_3 35 (by decide +kernel) rfl
theorem wt_516 : Cond.methodLink RX11 153 yX9_hasRun ∈ dtWT := dtWT_3 36 (by decide +kernel) rfl
theorem wt_517 : Cond.instanceMethod yX9_hasRun ∈ dtWT := dtWT_3 37 (by decide +kernel) rfl
theorem wt_518 : Cond.selects RX9 yX9_hasRun yX9_hasRun ∈ dtWT := dtWT_3 38 (by decide +kernel) rfl
theorem wt_519 : Cond.code yX9_hasRun cX9_hasRun 3 (some .boolean) ∈ dtWT := dtWT_3 39 (by decide +kernel) rfl
theorem wt_520 : Cond.methodLink RX11 157 arraycopyName ∈ dtWT := dtWT_3 40 (by decide +kernel) rfl
theorem wt_521 : Cond.static arraycopyName ∈ dtWT := dtWT_3 41 (by decide +kernel) rfl
theorem wt_522 : Cond.native arraycopyName ∈ dtWT := dtWT_3 42 (by decide +kernel) rfl
theorem wt_523 : Cond.methodLink RL 49 yX11_feed ∈ dtWT := dtWT_3 43 (by decide +kernel) rfl
theorem wt_524 : Cond.instanceMethod yX11_feed ∈ dtWT := dtWT_3 44 (by decide +kernel) rfl
theorem wt_525 : Cond.selects RX11 yX11_feed yX11_feed ∈ dtWT := dtWT_3 45 (by decide +kernel) rfl
theorem wt_526 : Cond.code yX11_feed cX11_feed 6 (some .int) ∈ dtWT := dtWT_3 46 (by decide +kernel) rfl
theorem wt_527 : Cond.methodLink RX11 166 yX7_append ∈ dtWT := dtWT_3 47 (by decide +kernel) rfl
theorem wt_528 : Cond.instanceMethod yX7_append ∈ dtWT := dtWT_3 48 (by decide +kernel) rfl
theorem wt_529 : Cond.selects RX7 yX7_append yX7_append ∈ dtWT := dtWT_3 49 (by decide +kernel) rfl
theorem wt_530 : Cond.code yX7_append cX7_append 3 none ∈ dtWT := dtWT_3 50 (by decide +kernel) rfl
theorem wt_531 : Cond.methodLink RL 54 yX11_house ∈ dtWT := dtWT_3 51 (by decide +kernel) rfl
theorem wt_532 : Cond.instanceMethod yX11_house ∈ dtWT := dtWT_3 52 (by decide +kernel) rfl
theorem wt_533 : Cond.selects RX11 yX11_house yX11_house ∈ dtWT := dtWT_3 53 (by decide +kernel) rfl
theorem wt_534 : Cond.code yX11_house cX11_house 4 (some .int) ∈ dtWT := dtWT_3 54 (by decide +kernel) rfl
theorem wt_535 : Cond.methodLink RX11 174 yX4_readInto ∈ dtWT := dtWT_3 55 (by decide +kernel) rfl
theorem wt_536 : Cond.instanceMethod yX4_readInto ∈ dtWT := dtWT_3 56 (by decide +kernel) rfl
theorem wt_537 : Cond.selects RX4 yX4_readInto yX4_readInto ∈ dtWT := dtWT_3 57 (by decide +kernel) rfl
theorem wt_538 : Cond.code yX4_readInto cX4_readInto 6 (some .boolean) ∈ dtWT := dtWT_3 58 (by decide +kernel) rfl
theorem wt_539 : Cond.methodLink RX4 22 yX3_clear ∈ dtWT := dtWT_3 59 (by decide +kernel) rfl
theorem wt_540 : Cond.instanceMethod yX3_clear ∈ dtWT := dtWT_3 60 (by decide +kernel) rfl
theorem wt_541 : Cond.selects RX3 yX3_clear yX3_clear ∈ dtWT := dtWT_3 61 (by decide +kernel) rfl
theorem wt_542 : Cond.code yX3_clear cX3_clear 1 none ∈ dtWT := dtWT_3 62 (by decide +kernel) rfl
theorem wt_543 : Cond.methodLink RX4 31 yX8_begin ∈ dtWT := dtWT_3 63 (by decide +kernel) rfl
theorem wt_544 : Cond.instanceMethod yX8_begin ∈ dtWT := dtWT_3 64 (by decide +kernel) rfl
theorem wt_545 : Cond.selects RX8 yX8_begin yX8_begin ∈ dtWT := dtWT_3 65 (by decide +kernel) rfl
theorem wt_546 : Cond.code yX8_begin cX8_begin 3 none ∈ dtWT := dtWT_3 66 (by decide +kernel) rfl
theorem wt_547 : Cond.methodLink RX8 15 Lib.Math.min.name ∈ dtWT := dtWT_3 67 (by decide +kernel) rfl
theorem wt_548 : Cond.static Lib.Math.min.name ∈ dtWT := dtWT_3 68 (by decide +kernel) rfl
theorem wt_549 : Cond.code Lib.Math.min.name Lib.Math.min.code 2 (some .int) ∈ dtWT := dtWT_3 69 (by decide +kernel) rfl
theorem wt_550 : Cond.methodLink RX8 34 yX8_advance ∈ dtWT := dtWT_3 70 (by decide +kernel) rfl
theorem wt_551 : Cond.instanceMethod yX8_advance ∈ dtWT := dtWT_3 71 (by decide +kernel) rfl
theorem wt_552 : Cond.selects RX8 yX8_advance yX8_advance ∈ dtWT := dtWT_3 72 (by decide +kernel) rfl
theorem wt_553 : Cond.code yX8_advance cX8_advance 1 none ∈ dtWT := dtWT_3 73 (by decide +kernel) rfl
theorem wt_554 : Cond.methodLink RX8 53 yX8_isRunOf ∈ dtWT := dtWT_3 74 (by decide +kernel) rfl
theorem wt_556 : Cond.instanceMethod yX8_isRunOf ∈ dtWT := dtWT_3 76 (by decide +kernel) rfl
theorem wt_557 : Cond.code yX8_isRunOf cX8_isRunOf 3 (some .boolean) ∈ dtWT := dtWT_3 77 (by decide +kernel) rfl
theorem wt_558 : Cond.methodLink RX8 57 yX8_findKeyword ∈ dtWT := dtWT_3 78 (by decide +kernel) rfl
theorem wt_560 : Cond.instanceMethod yX8_findKeyword ∈ dtWT := dtWT_3 80 (by decide +kernel) rfl
theorem wt_561 : Cond.code yX8_findKeyword cX8_findKeyword 6 (some .int) ∈ dtWT := dtWT_3 81 (by decide +kernel) rfl
theorem wt_563 : Cond.methodLink RX8 72 yJ0_length_8abf5 ∈ dtWT := dtWT_3 83 (by decide +kernel) rfl
theorem wt_564 : Cond.instanceMethod yJ0_length_8abf5 ∈ dtWT := dtWT_3 84 (by decide +kernel) rfl
theorem wt_565 : Cond.selects RJ0 yJ0_length_8abf5 yJ0_length_8abf5 ∈ dtWT := dtWT_3 85 (by decide +kernel) rfl
theorem wt_566 : Cond.code yJ0_length_8abf5 cJ0_length_8abf5 1 (some .int) ∈ dtWT := dtWT_3 86 (by decide +kernel) rfl
theorem wt_567 : Cond.methodLink RJ0 335 yJ0_coder_7d493 ∈ dtWT := dtWT_3 87 (by decide +kernel) rfl
theorem wt_568 : Cond.instanceMethod yJ0_coder_7d493 ∈ dtWT := dtWT_3 88 (by decide +kernel) rfl
theorem wt_569 : Cond.selects RJ0 yJ0_coder_7d493 yJ0_coder_7d493 ∈ dtWT := dtWT_3 89 (by decide +kernel) rfl
theorem wt_570 : Cond.code yJ0_coder_7d493 cJ0_coder_7d493 1 (some .byte) ∈ dtWT := dtWT_3 90 (by decide +kernel) rfl
theorem wt_571 : Cond.fieldLink RJ0 38 "java/lang/String" "COMPACT_STRINGS" "Z" ∈ dtWT := dtWT_3 91 (by decide +kernel) rfl
theorem wt_573 : Cond.methodLink RX8 76 yJ0_charAt_5068e ∈ dtWT := dtWT_3 93 (by decide +kernel) rfl
theorem wt_574 : Cond.instanceMethod yJ0_charAt_5068e ∈ dtWT := dtWT_3 94 (by decide +kernel) rfl
theorem wt_575 : Cond.selects RJ0 yJ0_charAt_5068e yJ0_charAt_5068e ∈ dtWT := dtWT_3 95 (by decide +kernel) rfl
theorem wt_576 : Cond.code yJ0_charAt_5068e cJ0_charAt_5068e 2 (some .char) ∈ dtWT := dtWT_3 96 (by decide +kernel) rfl
theorem wt_577 : Cond.methodLink RJ0 492 yJ0_isLatin1_aae02 ∈ dtWT := dtWT_3 97 (by decide +kernel) rfl
theorem wt_578 : Cond.instanceMethod yJ0_isLatin1_aae02 ∈ dtWT := dtWT_3 98 (by decide +kernel) rfl
theorem wt_579 : Cond.selects RJ0 yJ0_isLatin1_aae02 yJ0_isLatin1_aae02 ∈ dtWT := dtWT_3 99 (by decide +kernel) rfl
theorem wt_580 : Cond.code yJ0_isLatin1_aae02 cJ0_isLatin1_aae02 1 (some .boolean) ∈ dtWT := dtWT_3 100 (by decide +kernel) rfl
theorem wt_581 : Cond.methodLink RJ0 495 yJ1_charAt_3b067 ∈ dtWT := dtWT_3 101 (by decide +kernel) rfl
theorem wt_582 : Cond.static yJ1_charAt_3b067 ∈ dtWT := dtWT_3 102 (by decide +kernel) rfl
theorem wt_583 : Cond.code yJ1_charAt_3b067 cJ1_charAt_3b067 2 (some .char) ∈ dtWT := dtWT_3 103 (by decide +kernel) rfl
theorem wt_584 : Cond.methodLink RJ1 9 yJ0_checkIndex_df160 ∈ dtWT := dtWT_3 104 (by decide +kernel) rfl
theorem wt_585 : Cond.static yJ0_checkIndex_df160 ∈ dtWT := dtWT_3 105 (by decide +kernel) rfl
theorem wt_586 : Cond.code yJ0_checkIndex_df160 cJ0_checkIndex_df160 2 none ∈ dtWT := dtWT_3 106 (by decide +kernel) rfl
theorem wt_587 : Cond.fieldLink RJ0 1053 "jdk/internal/util/Preconditions" "SIOOBE_FORMATTER" "Ljava/util/function/BiFunction;" ∈ dtWT := dtWT_3 107 (by decide +kernel) rfl
theorem wt_589 : Cond.methodLink RJ0 1059 yJ3_checkIndex_8e157 ∈ dtWT := dtWT_3 109 (by decide +kernel) rfl
theorem wt_590 : Cond.static yJ3_checkIndex_8e157 ∈ dtWT := dtWT_3 110 (by decide +kernel) rfl
theorem wt_591 : Cond.code yJ3_checkIndex_8e157 cJ3_checkIndex_8e157 3 (some .int) ∈ dtWT := dtWT_3 111 (by decide +kernel) rfl
theorem wt_611 : Cond.methodLink RX8 61 yX8_nameCode ∈ dtWT := dtWT_3 131 (by decide +kernel) rfl
theorem wt_613 : Cond.instanceMethod yX8_nameCode ∈ dtWT := dtWT_3 133 (by decide +kernel) rfl
theorem wt_614 : Cond.code yX8_nameCode cX8_nameCode 4 (some .long) ∈ dtWT := dtWT_3 134 (by decide +kernel) rfl
theorem wt_615 : Cond.constantLong RX8 68 (32) ∈ dtWT := dtWT_3 135 (by decide +kernel) rfl
theorem wt_616 : Cond.methodLink RX8 65 yX8_numberValue ∈ dtWT := dtWT_3 136 (by decide +kernel) rfl
theorem wt_618 : Cond.instanceMethod yX8_numberValue ∈ dtWT := dtWT_3 138 (by decide +kernel) rfl
theorem wt_619 : Cond.code yX8_numberValue cX8_numberValue 3 (some .int) ∈ dtWT := dtWT_3 139 (by decide +kernel) rfl
theorem wt_620 : Cond.methodLink RX4 35 yX8_isOver ∈ dtWT := dtWT_3 140 (by decide +kernel) rfl
theorem wt_621 : Cond.instanceMethod yX8_isOver ∈ dtWT := dtWT_3 141 (by decide +kernel) rfl
theorem wt_622 : Cond.selects RX8 yX8_isOver yX8_isOver ∈ dtWT := dtWT_3 142 (by decide +kernel) rfl
theorem wt_623 : Cond.code yX8_isOver cX8_isOver 1 (some .boolean) ∈ dtWT := dtWT_3 143 (by decide +kernel) rfl
theorem wt_624 : Cond.methodLink RX4 43 yX4_readOdds ∈ dtWT := dtWT_3 144 (by decide +kernel) rfl
theorem wt_626 : Cond.instanceMethod yX4_readOdds ∈ dtWT := dtWT_3 146 (by decide +kernel) rfl
theorem wt_627 : Cond.code yX4_readOdds cX4_readOdds 3 (some .boolean) ∈ dtWT := dtWT_3 147 (by decide +kernel) rfl
theorem wt_628 : Cond.methodLink RX4 59 yX8_flaw ∈ dtWT := dtWT_3 148 (by decide +kernel) rfl
theorem wt_629 : Cond.instanceMethod yX8_flaw ∈ dtWT := dtWT_3 149 (by decide +kernel) rfl
theorem wt_630 : Cond.selects RX8 yX8_flaw yX8_flaw ∈ dtWT := dtWT_3 150 (by decide +kernel) rfl
theorem wt_631 : Cond.code yX8_flaw cX8_flaw 2 (some .boolean) ∈ dtWT := dtWT_3 151 (by decide +kernel) rfl
theorem wt_632 : Cond.methodLink RX4 63 yX8_advance ∈ dtWT := dtWT_3 152 (by decide +kernel) rfl
theorem wt_633 : Cond.methodLink RX4 66 yX8_passNumber ∈ dtWT := dtWT_3 153 (by decide +kernel) rfl
theorem wt_634 : Cond.instanceMethod yX8_passNumber ∈ dtWT := dtWT_3 154 (by decide +kernel) rfl
theorem wt_635 : Cond.selects RX8 yX8_passNumber yX8_passNumber ∈ dtWT := dtWT_3 155 (by decide +kernel) rfl
theorem wt_636 : Cond.code yX8_passNumber cX8_passNumber 4 (some .int) ∈ dtWT := dtWT_3 156 (by decide +kernel) rfl
theorem wt_637 : Cond.methodLink RX8 84 yX8_flaw ∈ dtWT := dtWT_3 157 (by decide +kernel) rfl
theorem wt_638 : Cond.methodLink RX4 73 yX8_passSign ∈ dtWT := dtWT_3 158 (by decide +kernel) rfl
theorem wt_639 : Cond.instanceMethod yX8_passSign ∈ dtWT := dtWT_3 159 (by decide +kernel) rfl
theorem wt_640 : Cond.selects RX8 yX8_passSign yX8_passSign ∈ dtWT := dtWT_3 160 (by decide +kernel) rfl
theorem wt_641 : Cond.code yX8_passSign cX8_passSign 2 (some .boolean) ∈ dtWT := dtWT_3 161 (by decide +kernel) rfl
theorem wt_642 : Cond.methodLink RX8 80 yX8_isSign ∈ dtWT := dtWT_3 162 (by decide +kernel) rfl
theorem wt_643 : Cond.instanceMethod yX8_isSign ∈ dtWT := dtWT_3 163 (by decide +kernel) rfl
theorem wt_644 : Cond.selects RX8 yX8_isSign yX8_isSign ∈ dtWT := dtWT_3 164 (by decide +kernel) rfl
theorem wt_645 : Cond.code yX8_isSign cX8_isSign 2 (some .boolean) ∈ dtWT := dtWT_3 165 (by decide +kernel) rfl
theorem wt_646 : Cond.methodLink RX4 47 yX4_readRoom ∈ dtWT := dtWT_3 166 (by decide +kernel) rfl
theorem wt_648 : Cond.instanceMethod yX4_readRoom ∈ dtWT := dtWT_3 168 (by decide +kernel) rfl
theorem wt_649 : Cond.code yX4_readRoom cX4_readRoom 4 (some .boolean) ∈ dtWT := dtWT_3 169 (by decide +kernel) rfl
theorem wt_650 : Cond.methodLink RX4 80 yX4_passNewName ∈ dtWT := dtWT_3 170 (by decide +kernel) rfl
theorem wt_652 : Cond.instanceMethod yX4_passNewName ∈ dtWT := dtWT_3 172 (by decide +kernel) rfl
theorem wt_653 : Cond.code yX4_passNewName cX4_passNewName 4 (some .long) ∈ dtWT := dtWT_3 173 (by decide +kernel) rfl
theorem wt_654 : Cond.methodLink RX4 155 yX8_isName ∈ dtWT := dtWT_3 174 (by decide +kernel) rfl
theorem wt_655 : Cond.instanceMethod yX8_isName ∈ dtWT := dtWT_3 175 (by decide +kernel) rfl
theorem wt_656 : Cond.selects RX8 yX8_isName yX8_isName ∈ dtWT := dtWT_3 176 (by decide +kernel) rfl
theorem wt_657 : Cond.code yX8_isName cX8_isName 1 (some .boolean) ∈ dtWT := dtWT_3 177 (by decide +kernel) rfl
theorem wt_658 : Cond.methodLink RX4 162 yX4_isTaken ∈ dtWT := dtWT_3 178 (by decide +kernel) rfl
theorem wt_660 : Cond.instanceMethod yX4_isTaken ∈ dtWT := dtWT_3 180 (by decide +kernel) rfl
theorem wt_661 : Cond.code yX4_isTaken cX4_isTaken 2 (some .boolean) ∈ dtWT := dtWT_3 181 (by decide +kernel) rfl
theorem wt_662 : Cond.methodLink RX4 169 yX8_numberOf ∈ dtWT := dtWT_3 182 (by decide +kernel) rfl
theorem wt_663 : Cond.instanceMethod yX8_numberOf ∈ dtWT := dtWT_3 183 (by decide +kernel) rfl
theorem wt_664 : Cond.selects RX8 yX8_numberOf yX8_numberOf ∈ dtWT := dtWT_3 184 (by decide +kernel) rfl
theorem wt_665 : Cond.code yX8_numberOf cX8_numberOf 4 (some .int) ∈ dtWT := dtWT_3 185 (by decide +kernel) rfl
theorem wt_666 : Cond.methodLink RX4 84 yX3_addRoom ∈ dtWT := dtWT_3 186 (by decide +kernel) rfl
theorem wt_667 : Cond.instanceMethod yX3_addRoom ∈ dtWT := dtWT_3 187 (by decide +kernel) rfl
theorem wt_668 : Cond.selects RX3 yX3_addRoom yX3_addRoom ∈ dtWT := dtWT_3 188 (by decide +kernel) rfl
theorem wt_669 : Cond.code yX3_addRoom cX3_addRoom 3 none ∈ dtWT := dtWT_3 189 (by decide +kernel) rfl
theorem wt_670 : Cond.methodLink RX4 50 yX4_readDoor ∈ dtWT := dtWT_3 190 (by decide +kernel) rfl
theorem wt_672 : Cond.instanceMethod yX4_readDoor ∈ dtWT := dtWT_3 192 (by decide +kernel) rfl
theorem wt_673 : Cond.code yX4_readDoor cX4_readDoor 6 (some .boolean) ∈ dtWT := dtWT_3 193 (by decide +kernel) rfl
theorem wt_674 : Cond.methodLink RX4 94 yX8_passAmong ∈ dtWT := dtWT_3 194 (by decide +kernel) rfl
theorem wt_675 : Cond.instanceMethod yX8_passAmong ∈ dtWT := dtWT_3 195 (by decide +kernel) rfl
theorem wt_676 : Cond.selects RX8 yX8_passAmong yX8_passAmong ∈ dtWT := dtWT_3 196 (by decide +kernel) rfl
theorem wt_677 : Cond.code yX8_passAmong cX8_passAmong 4 (some .int) ∈ dtWT := dtWT_3 197 (by decide +kernel) rfl
theorem wt_678 : Cond.methodLink RX8 99 yX8_findAmong ∈ dtWT := dtWT_3 198 (by decide +kernel) rfl
theorem wt_679 : Cond.instanceMethod yX8_findAmong ∈ dtWT := dtWT_3 199 (by decide +kernel) rfl
theorem wt_680 : Cond.selects RX8 yX8_findAmong yX8_findAmong ∈ dtWT := dtWT_3 200 (by decide +kernel) rfl
theorem wt_681 : Cond.code yX8_findAmong cX8_findAmong 4 (some .int) ∈ dtWT := dtWT_3 201 (by decide +kernel) rfl
theorem wt_682 : Cond.methodLink RX8 92 yX8_isName ∈ dtWT := dtWT_3 202 (by decide +kernel) rfl
theorem wt_683 : Cond.methodLink RX8 95 yX8_numberOf ∈ dtWT := dtWT_3 203 (by decide +kernel) rfl
theorem wt_684 : Cond.methodLink RX4 98 yX8_findAmong ∈ dtWT := dtWT_3 204 (by decide +kernel) rfl
theorem wt_685 : Cond.methodLink RX4 101 yX4_readChoice ∈ dtWT := dtWT_3 205 (by decide +kernel) rfl
theorem wt_687 : Cond.instanceMethod yX4_readChoice ∈ dtWT := dtWT_3 207 (by decide +kernel) rfl
theorem wt_688 : Cond.code yX4_readChoice cX4_readChoice 3 (some .int) ∈ dtWT := dtWT_3 208 (by decide +kernel) rfl
theorem wt_689 : Cond.methodLink RX4 104 yX3_addDoor ∈ dtWT := dtWT_3 209 (by decide +kernel) rfl
theorem wt_690 : Cond.instanceMethod yX3_addDoor ∈ dtWT := dtWT_3 210 (by decide +kernel) rfl
theorem wt_691 : Cond.selects RX3 yX3_addDoor yX3_addDoor ∈ dtWT := dtWT_3 211 (by decide +kernel) rfl
theorem wt_692 : Cond.code yX3_addDoor cX3_addDoor 5 none ∈ dtWT := dtWT_3 212 (by decide +kernel) rfl
theorem wt_693 : Cond.methodLink RX3 88 yX3_unshut ∈ dtWT := dtWT_3 213 (by decide +kernel) rfl
theorem wt_694 : Cond.instanceMethod yX3_unshut ∈ dtWT := dtWT_3 214 (by decide +kernel) rfl
theorem wt_695 : Cond.selects RX3 yX3_unshut yX3_unshut ∈ dtWT := dtWT_3 215 (by decide +kernel) rfl
theorem wt_696 : Cond.code yX3_unshut cX3_unshut 2 none ∈ dtWT := dtWT_3 216 (by decide +kernel) rfl
theorem wt_697 : Cond.methodLink RX4 53 yX4_readWord ∈ dtWT := dtWT_3 217 (by decide +kernel) rfl
theorem wt_699 : Cond.instanceMethod yX4_readWord ∈ dtWT := dtWT_3 219 (by decide +kernel) rfl
theorem wt_700 : Cond.code yX4_readWord cX4_readWord 4 (some .boolean) ∈ dtWT := dtWT_3 220 (by decide +kernel) rfl
theorem wt_701 : Cond.methodLink RX4 111 yX8_passKeyword ∈ dtWT := dtWT_3 221 (by decide +kernel) rfl
theorem wt_702 : Cond.instanceMethod yX8_passKeyword ∈ dtWT := dtWT_3 222 (by decide +kernel) rfl
theorem wt_703 : Cond.selects RX8 yX8_passKeyword yX8_passKeyword ∈ dtWT := dtWT_3 223 (by decide +kernel) rfl
theorem wt_704 : Cond.code yX8_passKeyword cX8_passKeyword 2 (some .boolean) ∈ dtWT := dtWT_3 224 (by decide +kernel) rfl
theorem wt_705 : Cond.methodLink RX4 114 yX4_readSounds ∈ dtWT := dtWT_3 225 (by decide +kernel) rfl
theorem wt_707 : Cond.instanceMethod yX4_readSounds ∈ dtWT := dtWT_3 227 (by decide +kernel) rfl
theorem wt_708 : Cond.code yX4_readSounds cX4_readSounds 4 (some .boolean) ∈ dtWT := dtWT_3 228 (by decide +kernel) rfl
theorem wt_709 : Cond.methodLink RX4 123 yX3_beginWord ∈ dtWT := dtWT_3 229 (by decide +kernel) rfl
theorem wt_710 : Cond.instanceMethod yX3_beginWord ∈ dtWT := dtWT_3 230 (by decide +kernel) rfl
theorem wt_711 : Cond.selects RX3 yX3_beginWord yX3_beginWord ∈ dtWT := dtWT_3 231 (by decide +kernel) rfl
theorem wt_712 : Cond.code yX3_beginWord cX3_beginWord 1 none ∈ dtWT := dtWT_3 232 (by decide +kernel) rfl
theorem wt_713 : Cond.methodLink RX4 126 yX8_isSoundWord ∈ dtWT := dtWT_3 233 (by decide +kernel) rfl
theorem wt_714 : Cond.instanceMethod yX8_isSoundWord ∈ dtWT := dtWT_3 234 (by decide +kernel) rfl
theorem wt_715 : Cond.selects RX8 yX8_isSoundWord yX8_isSoundWord ∈ dtWT := dtWT_3 235 (by decide +kernel) rfl
theorem wt_716 : Cond.code yX8_isSoundWord cX8_isSoundWord 1 (some .boolean) ∈ dtWT := dtWT_3 236 (by decide +kernel) rfl
theorem wt_717 : Cond.methodLink RX4 129 yX8_passSound ∈ dtWT := dtWT_3 237 (by decide +kernel) rfl
theorem wt_718 : Cond.instanceMethod yX8_passSound ∈ dtWT := dtWT_3 238 (by decide +kernel) rfl
theorem wt_719 : Cond.selects RX8 yX8_passSound yX8_passSound ∈ dtWT := dtWT_3 239 (by decide +kernel) rfl
theorem wt_720 : Cond.code yX8_passSound cX8_passSound 2 (some .int) ∈ dtWT := dtWT_4 0 (by decide +kernel) rfl
theorem wt_721 : Cond.methodLink RX8 88 yX8_isSoundWord ∈ dtWT := dtWT_4 1 (by decide +kernel) rfl
theorem wt_722 : Cond.methodLink RX4 133 yX3_addSound ∈ dtWT := dtWT_4 2 (by decide +kernel) rfl
theorem wt_723 : Cond.instanceMethod yX3_addSound ∈ dtWT := dtWT_4 3 (by decide +kernel) rfl
theorem wt_724 : Cond.selects RX3 yX3_addSound yX3_addSound ∈ dtWT := dtWT_4 4 (by decide +kernel) rfl
theorem wt_725 : Cond.code yX3_addSound cX3_addSound 2 none ∈ dtWT := dtWT_4 5 (by decide +kernel) rfl
theorem wt_726 : Cond.methodLink RX4 117 yX8_isSign ∈ dtWT := dtWT_4 6 (by decide +kernel) rfl
theorem wt_727 : Cond.methodLink RX4 120 yX3_isNewWordSaid ∈ dtWT := dtWT_4 7 (by decide +kernel) rfl
theorem wt_728 : Cond.instanceMethod yX3_isNewWordSaid ∈ dtWT := dtWT_4 8 (by decide +kernel) rfl
theorem wt_729 : Cond.selects RX3 yX3_isNewWordSaid yX3_isNewWordSaid ∈ dtWT := dtWT_4 9 (by decide +kernel) rfl
theorem wt_730 : Cond.code yX3_isNewWordSaid cX3_isNewWordSaid 2 (some .boolean) ∈ dtWT := dtWT_4 10 (by decide +kernel) rfl
theorem wt_731 : Cond.methodLink RX3 92 yX3_saysTheNew ∈ dtWT := dtWT_4 11 (by decide +kernel) rfl
theorem wt_733 : Cond.instanceMethod yX3_saysTheNew ∈ dtWT := dtWT_4 13 (by decide +kernel) rfl
theorem wt_734 : Cond.code yX3_saysTheNew cX3_saysTheNew 3 (some .boolean) ∈ dtWT := dtWT_4 14 (by decide +kernel) rfl
theorem wt_735 : Cond.methodLink RX3 95 yX3_soundOfWord ∈ dtWT := dtWT_4 15 (by decide +kernel) rfl
theorem wt_736 : Cond.instanceMethod yX3_soundOfWord ∈ dtWT := dtWT_4 16 (by decide +kernel) rfl
theorem wt_737 : Cond.selects RX3 yX3_soundOfWord yX3_soundOfWord ∈ dtWT := dtWT_4 17 (by decide +kernel) rfl
theorem wt_738 : Cond.code yX3_soundOfWord cX3_soundOfWord 3 (some .int) ∈ dtWT := dtWT_4 18 (by decide +kernel) rfl
theorem wt_739 : Cond.methodLink RX4 56 yX4_readPerson ∈ dtWT := dtWT_4 19 (by decide +kernel) rfl
theorem wt_741 : Cond.instanceMethod yX4_readPerson ∈ dtWT := dtWT_4 21 (by decide +kernel) rfl
theorem wt_742 : Cond.code yX4_readPerson cX4_readPerson 7 (some .boolean) ∈ dtWT := dtWT_4 22 (by decide +kernel) rfl
theorem wt_743 : Cond.methodLink RX4 140 yX4_readKnown ∈ dtWT := dtWT_4 23 (by decide +kernel) rfl
theorem wt_745 : Cond.instanceMethod yX4_readKnown ∈ dtWT := dtWT_4 25 (by decide +kernel) rfl
theorem wt_746 : Cond.code yX4_readKnown cX4_readKnown 5 (some .int) ∈ dtWT := dtWT_4 26 (by decide +kernel) rfl
theorem wt_748 : Cond.static yX11_contains ∈ dtWT := dtWT_4 28 (by decide +kernel) rfl
theorem wt_749 : Cond.code yX11_contains cX11_contains 2 (some .boolean) ∈ dtWT := dtWT_4 29 (by decide +kernel) rfl
theorem wt_750 : Cond.methodLink RX4 144 yX3_addPerson ∈ dtWT := dtWT_4 30 (by decide +kernel) rfl
theorem wt_751 : Cond.instanceMethod yX3_addPerson ∈ dtWT := dtWT_4 31 (by decide +kernel) rfl
theorem wt_752 : Cond.selects RX3 yX3_addPerson yX3_addPerson ∈ dtWT := dtWT_4 32 (by decide +kernel) rfl
theorem wt_753 : Cond.code yX3_addPerson cX3_addPerson 4 none ∈ dtWT := dtWT_4 33 (by decide +kernel) rfl
theorem wt_754 : Cond.methodLink RX11 182 yX7_tellFault ∈ dtWT := dtWT_4 34 (by decide +kernel) rfl
theorem wt_755 : Cond.instanceMethod yX7_tellFault ∈ dtWT := dtWT_4 35 (by decide +kernel) rfl
theorem wt_756 : Cond.selects RX7 yX7_tellFault yX7_tellFault ∈ dtWT := dtWT_4 36 (by decide +kernel) rfl
theorem wt_757 : Cond.code yX7_tellFault cX7_tellFault 2 none ∈ dtWT := dtWT_4 37 (by decide +kernel) rfl
theorem wt_758 : Cond.methodLink RX11 186 yX0_clear ∈ dtWT := dtWT_4 38 (by decide +kernel) rfl
theorem wt_759 : Cond.instanceMethod yX0_clear ∈ dtWT := dtWT_4 39 (by decide +kernel) rfl
theorem wt_760 : Cond.selects RX0 yX0_clear yX0_clear ∈ dtWT := dtWT_4 40 (by decide +kernel) rfl
theorem wt_761 : Cond.code yX0_clear cX0_clear 1 none ∈ dtWT := dtWT_4 41 (by decide +kernel) rfl
theorem wt_762 : Cond.methodLink RX11 192 yX11_answer ∈ dtWT := dtWT_4 42 (by decide +kernel) rfl
theorem wt_764 : Cond.instanceMethod yX11_answer ∈ dtWT := dtWT_4 44 (by decide +kernel) rfl
theorem wt_765 : Cond.code yX11_answer cX11_answer 2 (some .int) ∈ dtWT := dtWT_4 45 (by decide +kernel) rfl
theorem wt_766 : Cond.methodLink RL 59 yX11_days ∈ dtWT := dtWT_4 46 (by decide +kernel) rfl
theorem wt_767 : Cond.instanceMethod yX11_days ∈ dtWT := dtWT_4 47 (by decide +kernel) rfl
theorem wt_768 : Cond.selects RX11 yX11_days yX11_days ∈ dtWT := dtWT_4 48 (by decide +kernel) rfl
theorem wt_769 : Cond.code yX11_days cX11_days 4 (some .int) ∈ dtWT := dtWT_4 49 (by decide +kernel) rfl
theorem wt_770 : Cond.methodLink RX11 195 yX1_readInto ∈ dtWT := dtWT_4 50 (by decide +kernel) rfl
theorem wt_771 : Cond.instanceMethod yX1_readInto ∈ dtWT := dtWT_4 51 (by decide +kernel) rfl
theorem wt_772 : Cond.selects RX1 yX1_readInto yX1_readInto ∈ dtWT := dtWT_4 52 (by decide +kernel) rfl
theorem wt_773 : Cond.code yX1_readInto cX1_readInto 8 (some .boolean) ∈ dtWT := dtWT_4 53 (by decide +kernel) rfl
theorem wt_774 : Cond.methodLink RX1 22 yX0_clear ∈ dtWT := dtWT_4 54 (by decide +kernel) rfl
theorem wt_775 : Cond.methodLink RX1 31 yX8_begin ∈ dtWT := dtWT_4 55 (by decide +kernel) rfl
theorem wt_776 : Cond.methodLink RX1 35 yX8_isOver ∈ dtWT := dtWT_4 56 (by decide +kernel) rfl
theorem wt_777 : Cond.methodLink RX1 42 yX1_readEnd ∈ dtWT := dtWT_4 57 (by decide +kernel) rfl
theorem wt_779 : Cond.instanceMethod yX1_readEnd ∈ dtWT := dtWT_4 59 (by decide +kernel) rfl
theorem wt_780 : Cond.code yX1_readEnd cX1_readEnd 3 (some .boolean) ∈ dtWT := dtWT_4 60 (by decide +kernel) rfl
theorem wt_781 : Cond.methodLink RX1 65 yX8_flaw ∈ dtWT := dtWT_4 61 (by decide +kernel) rfl
theorem wt_782 : Cond.methodLink RX1 69 yX0_append ∈ dtWT := dtWT_4 62 (by decide +kernel) rfl
theorem wt_783 : Cond.instanceMethod yX0_append ∈ dtWT := dtWT_4 63 (by decide +kernel) rfl
theorem wt_784 : Cond.selects RX0 yX0_append yX0_append ∈ dtWT := dtWT_4 64 (by decide +kernel) rfl
theorem wt_785 : Cond.code yX0_append cX0_append 2 (some .int) ∈ dtWT := dtWT_4 65 (by decide +kernel) rfl
theorem wt_786 : Cond.methodLink RX1 76 yX8_advance ∈ dtWT := dtWT_4 66 (by decide +kernel) rfl
theorem wt_787 : Cond.methodLink RX1 57 yX8_passSign ∈ dtWT := dtWT_4 67 (by decide +kernel) rfl
theorem wt_788 : Cond.methodLink RX1 46 yX1_beginStep ∈ dtWT := dtWT_4 68 (by decide +kernel) rfl
theorem wt_790 : Cond.instanceMethod yX1_beginStep ∈ dtWT := dtWT_4 70 (by decide +kernel) rfl
theorem wt_791 : Cond.code yX1_beginStep cX1_beginStep 6 (some .int) ∈ dtWT := dtWT_4 71 (by decide +kernel) rfl
theorem wt_792 : Cond.methodLink RX1 79 yX1_isStepWord ∈ dtWT := dtWT_4 72 (by decide +kernel) rfl
theorem wt_793 : Cond.static yX1_isStepWord ∈ dtWT := dtWT_4 73 (by decide +kernel) rfl
theorem wt_794 : Cond.code yX1_isStepWord cX1_isStepWord 1 (some .boolean) ∈ dtWT := dtWT_4 74 (by decide +kernel) rfl
theorem wt_796 : Cond.methodLink RX1 50 yX1_readTest ∈ dtWT := dtWT_4 76 (by decide +kernel) rfl
theorem wt_798 : Cond.instanceMethod yX1_readTest ∈ dtWT := dtWT_4 78 (by decide +kernel) rfl
theorem wt_799 : Cond.code yX1_readTest cX1_readTest 5 (some .boolean) ∈ dtWT := dtWT_4 79 (by decide +kernel) rfl
theorem wt_800 : Cond.methodLink RX1 92 yX1_readWho ∈ dtWT := dtWT_4 80 (by decide +kernel) rfl
theorem wt_802 : Cond.instanceMethod yX1_readWho ∈ dtWT := dtWT_4 82 (by decide +kernel) rfl
theorem wt_803 : Cond.code yX1_readWho cX1_readWho 4 (some .boolean) ∈ dtWT := dtWT_4 83 (by decide +kernel) rfl
theorem wt_804 : Cond.methodLink RX1 127 yX8_passAmong ∈ dtWT := dtWT_4 84 (by decide +kernel) rfl
theorem wt_805 : Cond.methodLink RX1 111 yX1_readRoomName ∈ dtWT := dtWT_4 85 (by decide +kernel) rfl
theorem wt_807 : Cond.instanceMethod yX1_readRoomName ∈ dtWT := dtWT_4 87 (by decide +kernel) rfl
theorem wt_808 : Cond.code yX1_readRoomName cX1_readRoomName 4 (some .boolean) ∈ dtWT := dtWT_4 88 (by decide +kernel) rfl
theorem wt_809 : Cond.methodLink RX1 100 yX1_readWhat ∈ dtWT := dtWT_4 89 (by decide +kernel) rfl
theorem wt_811 : Cond.instanceMethod yX1_readWhat ∈ dtWT := dtWT_4 91 (by decide +kernel) rfl
theorem wt_812 : Cond.code yX1_readWhat cX1_readWhat 5 (some .boolean) ∈ dtWT := dtWT_4 92 (by decide +kernel) rfl
theorem wt_813 : Cond.methodLink RX1 140 yX8_passNumber ∈ dtWT := dtWT_4 93 (by decide +kernel) rfl
theorem wt_814 : Cond.methodLink RX1 114 yX1_readCompares ∈ dtWT := dtWT_4 94 (by decide +kernel) rfl
theorem wt_816 : Cond.instanceMethod yX1_readCompares ∈ dtWT := dtWT_4 96 (by decide +kernel) rfl
theorem wt_817 : Cond.code yX1_readCompares cX1_readCompares 3 (some .boolean) ∈ dtWT := dtWT_4 97 (by decide +kernel) rfl
theorem wt_818 : Cond.methodLink RX1 151 yX8_isSign ∈ dtWT := dtWT_4 98 (by decide +kernel) rfl
theorem wt_819 : Cond.methodLink RX1 54 yX1_readRest ∈ dtWT := dtWT_4 99 (by decide +kernel) rfl
theorem wt_821 : Cond.instanceMethod yX1_readRest ∈ dtWT := dtWT_4 101 (by decide +kernel) rfl
theorem wt_822 : Cond.code yX1_readRest cX1_readRest 4 (some .boolean) ∈ dtWT := dtWT_4 102 (by decide +kernel) rfl
theorem wt_823 : Cond.methodLink RX1 104 yX1_readSound ∈ dtWT := dtWT_4 103 (by decide +kernel) rfl
theorem wt_825 : Cond.instanceMethod yX1_readSound ∈ dtWT := dtWT_4 105 (by decide +kernel) rfl
theorem wt_826 : Cond.code yX1_readSound cX1_readSound 3 (some .boolean) ∈ dtWT := dtWT_4 106 (by decide +kernel) rfl
theorem wt_827 : Cond.methodLink RX1 147 yX8_passSound ∈ dtWT := dtWT_4 107 (by decide +kernel) rfl
theorem wt_828 : Cond.methodLink RL 63 yX11_fault ∈ dtWT := dtWT_4 108 (by decide +kernel) rfl
theorem wt_829 : Cond.instanceMethod yX11_fault ∈ dtWT := dtWT_4 109 (by decide +kernel) rfl
theorem wt_830 : Cond.selects RX11 yX11_fault yX11_fault ∈ dtWT := dtWT_4 110 (by decide +kernel) rfl
theorem wt_831 : Cond.code yX11_fault cX11_fault 2 (some .int) ∈ dtWT := dtWT_4 111 (by decide +kernel) rfl
theorem wt_832 : Cond.methodLink RL 67 yX11_told ∈ dtWT := dtWT_4 112 (by decide +kernel) rfl
theorem wt_833 : Cond.instanceMethod yX11_told ∈ dtWT := dtWT_4 113 (by decide +kernel) rfl
theorem wt_834 : Cond.selects RX11 yX11_told yX11_told ∈ dtWT := dtWT_4 114 (by decide +kernel) rfl
theorem wt_835 : Cond.code yX11_told cX11_told 2 (some .int) ∈ dtWT := dtWT_4 115 (by decide +kernel) rfl
theorem wt_836 : Cond.methodLink RL 71 yX11_door ∈ dtWT := dtWT_4 116 (by decide +kernel) rfl
theorem wt_837 : Cond.instanceMethod yX11_door ∈ dtWT := dtWT_4 117 (by decide +kernel) rfl
theorem wt_838 : Cond.selects RX11 yX11_door yX11_door ∈ dtWT := dtWT_4 118 (by decide +kernel) rfl
theorem wt_839 : Cond.code yX11_door cX11_door 3 (some .int) ∈ dtWT := dtWT_4 119 (by decide +kernel) rfl
theorem wt_840 : Cond.methodLink RX11 226 yX3_hasDoor ∈ dtWT := dtWT_4 120 (by decide +kernel) rfl
theorem wt_841 : Cond.instanceMethod yX3_hasDoor ∈ dtWT := dtWT_4 121 (by decide +kernel) rfl
theorem wt_842 : Cond.selects RX3 yX3_hasDoor yX3_hasDoor ∈ dtWT := dtWT_4 122 (by decide +kernel) rfl
theorem wt_843 : Cond.code yX3_hasDoor cX3_hasDoor 2 (some .boolean) ∈ dtWT := dtWT_4 123 (by decide +kernel) rfl
theorem wt_844 : Cond.methodLink RX11 238 yX3_isOpen ∈ dtWT := dtWT_4 124 (by decide +kernel) rfl
theorem wt_845 : Cond.instanceMethod yX3_isOpen ∈ dtWT := dtWT_4 125 (by decide +kernel) rfl
theorem wt_846 : Cond.selects RX3 yX3_isOpen yX3_isOpen ∈ dtWT := dtWT_4 126 (by decide +kernel) rfl
theorem wt_847 : Cond.code yX3_isOpen cX3_isOpen 2 (some .boolean) ∈ dtWT := dtWT_4 127 (by decide +kernel) rfl
theorem wt_849 : Cond.methodLink RL 76 yX11_says ∈ dtWT := dtWT_4 129 (by decide +kernel) rfl
theorem wt_850 : Cond.instanceMethod yX11_says ∈ dtWT := dtWT_4 130 (by decide +kernel) rfl
theorem wt_851 : Cond.selects RX11 yX11_says yX11_says ∈ dtWT := dtWT_4 131 (by decide +kernel) rfl
theorem wt_852 : Cond.code yX11_says cX11_says 2 (some .int) ∈ dtWT := dtWT_4 132 (by decide +kernel) rfl
theorem wt_853 : Cond.methodLink RX11 241 yX3_hasWord ∈ dtWT := dtWT_4 133 (by decide +kernel) rfl
theorem wt_854 : Cond.instanceMethod yX3_hasWord ∈ dtWT := dtWT_4 134 (by decide +kernel) rfl
theorem wt_855 : Cond.selects RX3 yX3_hasWord yX3_hasWord ∈ dtWT := dtWT_4 135 (by decide +kernel) rfl
theorem wt_856 : Cond.code yX3_hasWord cX3_hasWord 2 (some .boolean) ∈ dtWT := dtWT_4 136 (by decide +kernel) rfl
theorem wt_857 : Cond.methodLink RL 80 yX11_saysAt ∈ dtWT := dtWT_4 137 (by decide +kernel) rfl
theorem wt_858 : Cond.instanceMethod yX11_saysAt ∈ dtWT := dtWT_4 138 (by decide +kernel) rfl
theorem wt_859 : Cond.selects RX11 yX11_saysAt yX11_saysAt ∈ dtWT := dtWT_4 139 (by decide +kernel) rfl
theorem wt_860 : Cond.code yX11_saysAt cX11_saysAt 3 (some .int) ∈ dtWT := dtWT_4 140 (by decide +kernel) rfl
theorem wt_861 : Cond.methodLink RX11 247 yX3_soundOfWord ∈ dtWT := dtWT_4 141 (by decide +kernel) rfl
theorem wt_862 : Cond.methodLink RL 84 yX11_person ∈ dtWT := dtWT_4 142 (by decide +kernel) rfl
theorem wt_863 : Cond.instanceMethod yX11_person ∈ dtWT := dtWT_4 143 (by decide +kernel) rfl
theorem wt_864 : Cond.selects RX11 yX11_person yX11_person ∈ dtWT := dtWT_4 144 (by decide +kernel) rfl
theorem wt_865 : Cond.code yX11_person cX11_person 3 (some .int) ∈ dtWT := dtWT_4 145 (by decide +kernel) rfl
theorem wt_866 : Cond.methodLink RX11 250 yX3_hasPerson ∈ dtWT := dtWT_4 146 (by decide +kernel) rfl
theorem wt_867 : Cond.instanceMethod yX3_hasPerson ∈ dtWT := dtWT_4 147 (by decide +kernel) rfl
theorem wt_868 : Cond.selects RX3 yX3_hasPerson yX3_hasPerson ∈ dtWT := dtWT_4 148 (by decide +kernel) rfl
theorem wt_869 : Cond.code yX3_hasPerson cX3_hasPerson 2 (some .boolean) ∈ dtWT := dtWT_4 149 (by decide +kernel) rfl
theorem wt_870 : Cond.methodLink RL 88 yX11_heardAt ∈ dtWT := dtWT_4 150 (by decide +kernel) rfl
theorem wt_871 : Cond.instanceMethod yX11_heardAt ∈ dtWT := dtWT_4 151 (by decide +kernel) rfl
theorem wt_872 : Cond.selects RX11 yX11_heardAt yX11_heardAt ∈ dtWT := dtWT_4 152 (by decide +kernel) rfl
theorem wt_873 : Cond.code yX11_heardAt cX11_heardAt 3 (some .int) ∈ dtWT := dtWT_4 153 (by decide +kernel) rfl
theorem wt_874 : Cond.methodLink RL 92 yX11_close ∈ dtWT := dtWT_4 154 (by decide +kernel) rfl
theorem wt_875 : Cond.instanceMethod yX11_close ∈ dtWT := dtWT_4 155 (by decide +kernel) rfl
theorem wt_876 : Cond.selects RX11 yX11_close yX11_close ∈ dtWT := dtWT_4 156 (by decide +kernel) rfl
theorem wt_877 : Cond.code yX11_close cX11_close 4 (some .int) ∈ dtWT := dtWT_4 157 (by decide +kernel) rfl
theorem wt_878 : Cond.methodLink RX11 268 yX11_isSound ∈ dtWT := dtWT_4 158 (by decide +kernel) rfl
theorem wt_879 : Cond.static yX11_isSound ∈ dtWT := dtWT_4 159 (by decide +kernel) rfl
theorem wt_880 : Cond.code yX11_isSound cX11_isSound 1 (some .boolean) ∈ dtWT := dtWT_4 160 (by decide +kernel) rfl
theorem wt_881 : Cond.methodLink RX11 271 yX3_isAt ∈ dtWT := dtWT_4 161 (by decide +kernel) rfl
theorem wt_882 : Cond.instanceMethod yX3_isAt ∈ dtWT := dtWT_4 162 (by decide +kernel) rfl
theorem wt_883 : Cond.selects RX3 yX3_isAt yX3_isAt ∈ dtWT := dtWT_4 163 (by decide +kernel) rfl
theorem wt_884 : Cond.code yX3_isAt cX3_isAt 4 (some .boolean) ∈ dtWT := dtWT_4 164 (by decide +kernel) rfl
theorem wt_885 : Cond.methodLink RX3 81 yX3_hasPerson ∈ dtWT := dtWT_4 165 (by decide +kernel) rfl
theorem wt_886 : Cond.methodLink RX3 85 yX3_hasDoor ∈ dtWT := dtWT_4 166 (by decide +kernel) rfl
theorem wt_887 : Cond.methodLink RX11 274 yX2_shutWith ∈ dtWT := dtWT_4 167 (by decide +kernel) rfl
theorem wt_888 : Cond.instanceMethod yX2_shutWith ∈ dtWT := dtWT_4 168 (by decide +kernel) rfl
theorem wt_889 : Cond.selects RX2 yX2_shutWith yX2_shutWith ∈ dtWT := dtWT_4 169 (by decide +kernel) rfl
theorem wt_890 : Cond.code yX2_shutWith cX2_shutWith 7 (some .int) ∈ dtWT := dtWT_4 170 (by decide +kernel) rfl
theorem wt_891 : Cond.methodLink RX2 77 yX2_hearersOf ∈ dtWT := dtWT_4 171 (by decide +kernel) rfl
theorem wt_892 : Cond.instanceMethod yX2_hearersOf ∈ dtWT := dtWT_4 172 (by decide +kernel) rfl
theorem wt_893 : Cond.selects RX2 yX2_hearersOf yX2_hearersOf ∈ dtWT := dtWT_4 173 (by decide +kernel) rfl
theorem wt_894 : Cond.code yX2_hearersOf cX2_hearersOf 7 (some .int) ∈ dtWT := dtWT_4 174 (by decide +kernel) rfl
theorem wt_895 : Cond.methodLink RX2 57 yX3_roomsOfDoor ∈ dtWT := dtWT_4 175 (by decide +kernel) rfl
theorem wt_896 : Cond.instanceMethod yX3_roomsOfDoor ∈ dtWT := dtWT_4 176 (by decide +kernel) rfl
theorem wt_897 : Cond.selects RX3 yX3_roomsOfDoor yX3_roomsOfDoor ∈ dtWT := dtWT_4 177 (by decide +kernel) rfl
theorem wt_898 : Cond.code yX3_roomsOfDoor cX3_roomsOfDoor 2 (some .int) ∈ dtWT := dtWT_4 178 (by decide +kernel) rfl
theorem wt_899 : Cond.methodLink RX2 15 yX2_spread ∈ dtWT := dtWT_4 179 (by decide +kernel) rfl
theorem wt_901 : Cond.instanceMethod yX2_spread ∈ dtWT := dtWT_4 181 (by decide +kernel) rfl
theorem wt_902 : Cond.code yX2_spread cX2_spread 12 none ∈ dtWT := dtWT_4 182 (by decide +kernel) rfl
theorem wt_903 : Cond.constant RX2 19 (1000000) ∈ dtWT := dtWT_4 183 (by decide +kernel) rfl
theorem wt_904 : Cond.methodLink RX2 32 Lib.Math.min.name ∈ dtWT := dtWT_4 184 (by decide +kernel) rfl
theorem wt_905 : Cond.methodLink RX2 44 Lib.Math.abs.name ∈ dtWT := dtWT_4 185 (by decide +kernel) rfl
theorem wt_906 : Cond.static Lib.Math.abs.name ∈ dtWT := dtWT_4 186 (by decide +kernel) rfl
theorem wt_907 : Cond.code Lib.Math.abs.name Lib.Math.abs.code 1 (some .int) ∈ dtWT := dtWT_4 187 (by decide +kernel) rfl
theorem wt_908 : Cond.methodLink RX2 63 yX2_comesTo ∈ dtWT := dtWT_4 188 (by decide +kernel) rfl
theorem wt_910 : Cond.instanceMethod yX2_comesTo ∈ dtWT := dtWT_4 190 (by decide +kernel) rfl
theorem wt_911 : Cond.code yX2_comesTo cX2_comesTo 4 (some .boolean) ∈ dtWT := dtWT_4 191 (by decide +kernel) rfl
theorem wt_912 : Cond.fieldLink RX2 48 "DoorTongue$Hearing" "LOUD" "[I" ∈ dtWT := dtWT_4 192 (by decide +kernel) rfl
theorem wt_915 : Cond.methodLink RX2 85 yX3_catchSound ∈ dtWT := dtWT_4 195 (by decide +kernel) rfl
theorem wt_916 : Cond.instanceMethod yX3_catchSound ∈ dtWT := dtWT_4 196 (by decide +kernel) rfl
theorem wt_917 : Cond.selects RX3 yX3_catchSound yX3_catchSound ∈ dtWT := dtWT_4 197 (by decide +kernel) rfl
theorem wt_918 : Cond.code yX3_catchSound cX3_catchSound 5 none ∈ dtWT := dtWT_4 198 (by decide +kernel) rfl
theorem wt_919 : Cond.methodLink RX2 92 yX3_shutDoor ∈ dtWT := dtWT_4 199 (by decide +kernel) rfl
theorem wt_920 : Cond.instanceMethod yX3_shutDoor ∈ dtWT := dtWT_4 200 (by decide +kernel) rfl
theorem wt_921 : Cond.selects RX3 yX3_shutDoor yX3_shutDoor ∈ dtWT := dtWT_4 201 (by decide +kernel) rfl
theorem wt_922 : Cond.code yX3_shutDoor cX3_shutDoor 2 none ∈ dtWT := dtWT_4 202 (by decide +kernel) rfl
theorem wt_923 : Cond.methodLink RL 97 yX11_open ∈ dtWT := dtWT_4 203 (by decide +kernel) rfl
theorem wt_924 : Cond.instanceMethod yX11_open ∈ dtWT := dtWT_4 204 (by decide +kernel) rfl
theorem wt_925 : Cond.selects RX11 yX11_open yX11_open ∈ dtWT := dtWT_4 205 (by decide +kernel) rfl
theorem wt_926 : Cond.code yX11_open cX11_open 3 (some .int) ∈ dtWT := dtWT_4 206 (by decide +kernel) rfl
theorem wt_927 : Cond.methodLink RX11 278 yX3_unshut ∈ dtWT := dtWT_4 207 (by decide +kernel) rfl
theorem wt_928 : Cond.methodLink RX11 281 yJ6_bitCount_0f7a4 ∈ dtWT := dtWT_4 208 (by decide +kernel) rfl
theorem wt_929 : Cond.static yJ6_bitCount_0f7a4 ∈ dtWT := dtWT_4 209 (by decide +kernel) rfl
theorem wt_930 : Cond.code yJ6_bitCount_0f7a4 cJ6_bitCount_0f7a4 1 (some .int) ∈ dtWT := dtWT_4 210 (by decide +kernel) rfl
theorem wt_931 : Cond.constant RJ6 265 (1431655765) ∈ dtWT := dtWT_4 211 (by decide +kernel) rfl
theorem wt_932 : Cond.constant RJ6 266 (858993459) ∈ dtWT := dtWT_4 212 (by decide +kernel) rfl
theorem wt_933 : Cond.constant RJ6 267 (252645135) ∈ dtWT := dtWT_4 213 (by decide +kernel) rfl
theorem wt_934 : Cond.methodLink RL 101 yX11_go ∈ dtWT := dtWT_4 214 (by decide +kernel) rfl
theorem wt_935 : Cond.instanceMethod yX11_go ∈ dtWT := dtWT_4 215 (by decide +kernel) rfl
theorem wt_936 : Cond.selects RX11 yX11_go yX11_go ∈ dtWT := dtWT_4 216 (by decide +kernel) rfl
theorem wt_937 : Cond.code yX11_go cX11_go 3 (some .int) ∈ dtWT := dtWT_4 217 (by decide +kernel) rfl
theorem wt_938 : Cond.methodLink RX11 286 yX3_passThrough ∈ dtWT := dtWT_4 218 (by decide +kernel) rfl
theorem wt_939 : Cond.instanceMethod yX3_passThrough ∈ dtWT := dtWT_4 219 (by decide +kernel) rfl
theorem wt_940 : Cond.selects RX3 yX3_passThrough yX3_passThrough ∈ dtWT := dtWT_4 220 (by decide +kernel) rfl
theorem wt_941 : Cond.code yX3_passThrough cX3_passThrough 3 none ∈ dtWT := dtWT_4 221 (by decide +kernel) rfl
theorem wt_942 : Cond.methodLink RL 105 yX11_forget ∈ dtWT := dtWT_4 222 (by decide +kernel) rfl
theorem wt_943 : Cond.instanceMethod yX11_forget ∈ dtWT := dtWT_4 223 (by decide +kernel) rfl
theorem wt_944 : Cond.selects RX11 yX11_forget yX11_forget ∈ dtWT := dtWT_4 224 (by decide +kernel) rfl
theorem wt_945 : Cond.code yX11_forget cX11_forget 3 (some .int) ∈ dtWT := dtWT_4 225 (by decide +kernel) rfl
theorem wt_946 : Cond.methodLink RL 109 yX11_teach ∈ dtWT := dtWT_4 226 (by decide +kernel) rfl
theorem wt_947 : Cond.instanceMethod yX11_teach ∈ dtWT := dtWT_4 227 (by decide +kernel) rfl
theorem wt_948 : Cond.selects RX11 yX11_teach yX11_teach ∈ dtWT := dtWT_4 228 (by decide +kernel) rfl
theorem wt_949 : Cond.code yX11_teach cX11_teach 4 (some .boolean) ∈ dtWT := dtWT_4 229 (by decide +kernel) rfl
theorem wt_950 : Cond.methodLink RX11 289 yX11_contains ∈ dtWT := dtWT_4 230 (by decide +kernel) rfl
theorem wt_951 : Cond.methodLink RL 114 yX11_coin ∈ dtWT := dtWT_4 231 (by decide +kernel) rfl
theorem wt_952 : Cond.instanceMethod yX11_coin ∈ dtWT := dtWT_4 232 (by decide +kernel) rfl
theorem wt_953 : Cond.selects RX11 yX11_coin yX11_coin ∈ dtWT := dtWT_4 233 (by decide +kernel) rfl
theorem wt_954 : Cond.code yX11_coin cX11_coin 5 (some .int) ∈ dtWT := dtWT_4 234 (by decide +kernel) rfl
theorem wt_955 : Cond.methodLink RX11 292 yX11_runStatus ∈ dtWT := dtWT_4 235 (by decide +kernel) rfl
theorem wt_957 : Cond.instanceMethod yX11_runStatus ∈ dtWT := dtWT_4 237 (by decide +kernel) rfl
theorem wt_958 : Cond.code yX11_runStatus cX11_runStatus 3 (some .int) ∈ dtWT := dtWT_4 238 (by decide +kernel) rfl
theorem wt_959 : Cond.methodLink RX11 295 yX9_allBelow ∈ dtWT := dtWT_4 239 (by decide +kernel) rfl
theorem wt_960 : Cond.instanceMethod yX9_allBelow ∈ dtWT := dtWT_5 0 (by decide +kernel) rfl
theorem wt_961 : Cond.selects RX9 yX9_allBelow yX9_allBelow ∈ dtWT := dtWT_5 1 (by decide +kernel) rfl
theorem wt_962 : Cond.code yX9_allBelow cX9_allBelow 4 (some .boolean) ∈ dtWT := dtWT_5 2 (by decide +kernel) rfl
theorem wt_963 : Cond.methodLink RX11 298 yX3_beginWord ∈ dtWT := dtWT_5 3 (by decide +kernel) rfl
theorem wt_964 : Cond.methodLink RX11 301 yX9_smallNumber ∈ dtWT := dtWT_5 4 (by decide +kernel) rfl
theorem wt_965 : Cond.instanceMethod yX9_smallNumber ∈ dtWT := dtWT_5 5 (by decide +kernel) rfl
theorem wt_966 : Cond.selects RX9 yX9_smallNumber yX9_smallNumber ∈ dtWT := dtWT_5 6 (by decide +kernel) rfl
theorem wt_967 : Cond.code yX9_smallNumber cX9_smallNumber 2 (some .int) ∈ dtWT := dtWT_5 7 (by decide +kernel) rfl
theorem wt_968 : Cond.methodLink RX11 304 yX3_addSound ∈ dtWT := dtWT_5 8 (by decide +kernel) rfl
theorem wt_969 : Cond.methodLink RX11 307 yX3_isNewWordSaid ∈ dtWT := dtWT_5 9 (by decide +kernel) rfl
theorem wt_970 : Cond.methodLink RL 118 yX11_come ∈ dtWT := dtWT_5 10 (by decide +kernel) rfl
theorem wt_971 : Cond.instanceMethod yX11_come ∈ dtWT := dtWT_5 11 (by decide +kernel) rfl
theorem wt_972 : Cond.selects RX11 yX11_come yX11_come ∈ dtWT := dtWT_5 12 (by decide +kernel) rfl
theorem wt_973 : Cond.code yX11_come cX11_come 2 (some .int) ∈ dtWT := dtWT_5 13 (by decide +kernel) rfl
theorem wt_974 : Cond.methodLink RX11 310 yX3_hasRoom ∈ dtWT := dtWT_5 14 (by decide +kernel) rfl
theorem wt_975 : Cond.instanceMethod yX3_hasRoom ∈ dtWT := dtWT_5 15 (by decide +kernel) rfl
theorem wt_976 : Cond.selects RX3 yX3_hasRoom yX3_hasRoom ∈ dtWT := dtWT_5 16 (by decide +kernel) rfl
theorem wt_977 : Cond.code yX3_hasRoom cX3_hasRoom 2 (some .boolean) ∈ dtWT := dtWT_5 17 (by decide +kernel) rfl
theorem wt_978 : Cond.methodLink RX11 313 yX3_addPerson ∈ dtWT := dtWT_5 18 (by decide +kernel) rfl
theorem wt_979 : Cond.methodLink RL 122 yX11_line ∈ dtWT := dtWT_5 19 (by decide +kernel) rfl
theorem wt_980 : Cond.instanceMethod yX11_line ∈ dtWT := dtWT_5 20 (by decide +kernel) rfl
theorem wt_981 : Cond.selects RX11 yX11_line yX11_line ∈ dtWT := dtWT_5 21 (by decide +kernel) rfl
theorem wt_982 : Cond.code yX11_line cX11_line 4 (some .int) ∈ dtWT := dtWT_5 22 (by decide +kernel) rfl
theorem wt_983 : Cond.methodLink RL 126 yX11_deafen ∈ dtWT := dtWT_5 23 (by decide +kernel) rfl
theorem wt_984 : Cond.instanceMethod yX11_deafen ∈ dtWT := dtWT_5 24 (by decide +kernel) rfl
theorem wt_985 : Cond.selects RX11 yX11_deafen yX11_deafen ∈ dtWT := dtWT_5 25 (by decide +kernel) rfl
theorem wt_986 : Cond.code yX11_deafen cX11_deafen 4 (some .int) ∈ dtWT := dtWT_5 26 (by decide +kernel) rfl
theorem wt_987 : Cond.methodLink RL 130 yX11_rule ∈ dtWT := dtWT_5 27 (by decide +kernel) rfl
theorem wt_988 : Cond.instanceMethod yX11_rule ∈ dtWT := dtWT_5 28 (by decide +kernel) rfl
theorem wt_989 : Cond.selects RX11 yX11_rule yX11_rule ∈ dtWT := dtWT_5 29 (by decide +kernel) rfl
theorem wt_990 : Cond.code yX11_rule cX11_rule 2 (some .boolean) ∈ dtWT := dtWT_5 30 (by decide +kernel) rfl
theorem wt_991 : Cond.methodLink RL 135 yX11_loss ∈ dtWT := dtWT_5 31 (by decide +kernel) rfl
theorem wt_992 : Cond.instanceMethod yX11_loss ∈ dtWT := dtWT_5 32 (by decide +kernel) rfl
theorem wt_993 : Cond.selects RX11 yX11_loss yX11_loss ∈ dtWT := dtWT_5 33 (by decide +kernel) rfl
theorem wt_994 : Cond.code yX11_loss cX11_loss 3 (some .int) ∈ dtWT := dtWT_5 34 (by decide +kernel) rfl
theorem wt_995 : Cond.methodLink RX11 317 yX2_lossBetween ∈ dtWT := dtWT_5 35 (by decide +kernel) rfl
theorem wt_996 : Cond.instanceMethod yX2_lossBetween ∈ dtWT := dtWT_5 36 (by decide +kernel) rfl
theorem wt_997 : Cond.selects RX2 yX2_lossBetween yX2_lossBetween ∈ dtWT := dtWT_5 37 (by decide +kernel) rfl
theorem wt_998 : Cond.code yX2_lossBetween cX2_lossBetween 4 (some .int) ∈ dtWT := dtWT_5 38 (by decide +kernel) rfl
theorem wt_999 : Cond.methodLink RX11 321 yX11_found ∈ dtWT := dtWT_5 39 (by decide +kernel) rfl
theorem wt_1001 : Cond.instanceMethod yX11_found ∈ dtWT := dtWT_5 41 (by decide +kernel) rfl
theorem wt_1002 : Cond.code yX11_found cX11_found 2 (some .int) ∈ dtWT := dtWT_5 42 (by decide +kernel) rfl
theorem wt_1003 : Cond.methodLink RL 139 yX11_hearers ∈ dtWT := dtWT_5 43 (by decide +kernel) rfl
theorem wt_1004 : Cond.instanceMethod yX11_hearers ∈ dtWT := dtWT_5 44 (by decide +kernel) rfl
theorem wt_1005 : Cond.selects RX11 yX11_hearers yX11_hearers ∈ dtWT := dtWT_5 45 (by decide +kernel) rfl
theorem wt_1006 : Cond.code yX11_hearers cX11_hearers 3 (some .int) ∈ dtWT := dtWT_5 46 (by decide +kernel) rfl
theorem wt_1007 : Cond.methodLink RX11 324 yX2_hearersOf ∈ dtWT := dtWT_5 47 (by decide +kernel) rfl
theorem wt_1008 : Cond.methodLink RL 143 yX11_hears ∈ dtWT := dtWT_5 48 (by decide +kernel) rfl
theorem wt_1009 : Cond.instanceMethod yX11_hears ∈ dtWT := dtWT_5 49 (by decide +kernel) rfl
theorem wt_1010 : Cond.selects RX11 yX11_hears yX11_hears ∈ dtWT := dtWT_5 50 (by decide +kernel) rfl
theorem wt_1011 : Cond.code yX11_hears cX11_hears 3 (some .int) ∈ dtWT := dtWT_5 51 (by decide +kernel) rfl
theorem wt_1012 : Cond.methodLink RX11 327 yX2_doorsHeard ∈ dtWT := dtWT_5 52 (by decide +kernel) rfl
theorem wt_1013 : Cond.instanceMethod yX2_doorsHeard ∈ dtWT := dtWT_5 53 (by decide +kernel) rfl
theorem wt_1014 : Cond.selects RX2 yX2_doorsHeard yX2_doorsHeard ∈ dtWT := dtWT_5 54 (by decide +kernel) rfl
theorem wt_1015 : Cond.code yX2_doorsHeard cX2_doorsHeard 6 (some .int) ∈ dtWT := dtWT_5 55 (by decide +kernel) rfl
theorem wt_1016 : Cond.methodLink RL 147 yX11_hush ∈ dtWT := dtWT_5 56 (by decide +kernel) rfl
theorem wt_1017 : Cond.instanceMethod yX11_hush ∈ dtWT := dtWT_5 57 (by decide +kernel) rfl
theorem wt_1018 : Cond.selects RX11 yX11_hush yX11_hush ∈ dtWT := dtWT_5 58 (by decide +kernel) rfl
theorem wt_1019 : Cond.code yX11_hush cX11_hush 4 (some .int) ∈ dtWT := dtWT_5 59 (by decide +kernel) rfl
theorem wt_1020 : Cond.methodLink RX11 330 yX2_baizeToHush ∈ dtWT := dtWT_5 60 (by decide +kernel) rfl
theorem wt_1021 : Cond.instanceMethod yX2_baizeToHush ∈ dtWT := dtWT_5 61 (by decide +kernel) rfl
theorem wt_1022 : Cond.selects RX2 yX2_baizeToHush yX2_baizeToHush ∈ dtWT := dtWT_5 62 (by decide +kernel) rfl
theorem wt_1023 : Cond.code yX2_baizeToHush cX2_baizeToHush 6 (some .int) ∈ dtWT := dtWT_5 63 (by decide +kernel) rfl
theorem wt_1024 : Cond.methodLink RL 151 yX11_secret ∈ dtWT := dtWT_5 64 (by decide +kernel) rfl
theorem wt_1025 : Cond.instanceMethod yX11_secret ∈ dtWT := dtWT_5 65 (by decide +kernel) rfl
theorem wt_1026 : Cond.selects RX11 yX11_secret yX11_secret ∈ dtWT := dtWT_5 66 (by decide +kernel) rfl
theorem wt_1027 : Cond.code yX11_secret cX11_secret 5 (some .int) ∈ dtWT := dtWT_5 67 (by decide +kernel) rfl
theorem wt_1028 : Cond.methodLink RX11 333 yX11_areTwo ∈ dtWT := dtWT_5 68 (by decide +kernel) rfl
theorem wt_1030 : Cond.instanceMethod yX11_areTwo ∈ dtWT := dtWT_5 70 (by decide +kernel) rfl
theorem wt_1031 : Cond.code yX11_areTwo cX11_areTwo 3 (some .boolean) ∈ dtWT := dtWT_5 71 (by decide +kernel) rfl
theorem wt_1032 : Cond.methodLink RX11 336 yX2_secretDoor ∈ dtWT := dtWT_5 72 (by decide +kernel) rfl
theorem wt_1033 : Cond.instanceMethod yX2_secretDoor ∈ dtWT := dtWT_5 73 (by decide +kernel) rfl
theorem wt_1034 : Cond.selects RX2 yX2_secretDoor yX2_secretDoor ∈ dtWT := dtWT_5 74 (by decide +kernel) rfl
theorem wt_1035 : Cond.code yX2_secretDoor cX2_secretDoor 8 (some .int) ∈ dtWT := dtWT_5 75 (by decide +kernel) rfl
theorem wt_1036 : Cond.methodLink RX2 67 yX10_reach ∈ dtWT := dtWT_5 76 (by decide +kernel) rfl
theorem wt_1037 : Cond.static yX10_reach ∈ dtWT := dtWT_5 77 (by decide +kernel) rfl
theorem wt_1038 : Cond.code yX10_reach cX10_reach 6 (some .int) ∈ dtWT := dtWT_5 78 (by decide +kernel) rfl
theorem wt_1039 : Cond.methodLink RX10 29 yX10_stepOnce ∈ dtWT := dtWT_5 79 (by decide +kernel) rfl
theorem wt_1040 : Cond.static yX10_stepOnce ∈ dtWT := dtWT_5 80 (by decide +kernel) rfl
theorem wt_1041 : Cond.code yX10_stepOnce cX10_stepOnce 6 (some .int) ∈ dtWT := dtWT_5 81 (by decide +kernel) rfl
theorem wt_1042 : Cond.methodLink RX10 21 yX3_roomsOfDoor ∈ dtWT := dtWT_5 82 (by decide +kernel) rfl
theorem wt_1044 : Cond.methodLink RX2 73 yX3_isOpen ∈ dtWT := dtWT_5 84 (by decide +kernel) rfl
theorem wt_1045 : Cond.methodLink RL 156 yX11_readings ∈ dtWT := dtWT_5 85 (by decide +kernel) rfl
theorem wt_1046 : Cond.instanceMethod yX11_readings ∈ dtWT := dtWT_5 86 (by decide +kernel) rfl
theorem wt_1047 : Cond.selects RX11 yX11_readings yX11_readings ∈ dtWT := dtWT_5 87 (by decide +kernel) rfl
theorem wt_1048 : Cond.code yX11_readings cX11_readings 2 (some .int) ∈ dtWT := dtWT_5 88 (by decide +kernel) rfl
theorem wt_1049 : Cond.methodLink RX11 340 yX5_loadHeard ∈ dtWT := dtWT_5 89 (by decide +kernel) rfl
theorem wt_1050 : Cond.instanceMethod yX5_loadHeard ∈ dtWT := dtWT_5 90 (by decide +kernel) rfl
theorem wt_1051 : Cond.selects RX5 yX5_loadHeard yX5_loadHeard ∈ dtWT := dtWT_5 91 (by decide +kernel) rfl
theorem wt_1052 : Cond.code yX5_loadHeard cX5_loadHeard 4 none ∈ dtWT := dtWT_5 92 (by decide +kernel) rfl
theorem wt_1053 : Cond.methodLink RX5 38 yX5_beginRow ∈ dtWT := dtWT_5 93 (by decide +kernel) rfl
theorem wt_1054 : Cond.instanceMethod yX5_beginRow ∈ dtWT := dtWT_5 94 (by decide +kernel) rfl
theorem wt_1055 : Cond.selects RX5 yX5_beginRow yX5_beginRow ∈ dtWT := dtWT_5 95 (by decide +kernel) rfl
theorem wt_1056 : Cond.code yX5_beginRow cX5_beginRow 1 none ∈ dtWT := dtWT_5 96 (by decide +kernel) rfl
theorem wt_1057 : Cond.methodLink RX5 34 yX5_addSound ∈ dtWT := dtWT_5 97 (by decide +kernel) rfl
theorem wt_1058 : Cond.instanceMethod yX5_addSound ∈ dtWT := dtWT_5 98 (by decide +kernel) rfl
theorem wt_1059 : Cond.selects RX5 yX5_addSound yX5_addSound ∈ dtWT := dtWT_5 99 (by decide +kernel) rfl
theorem wt_1060 : Cond.code yX5_addSound cX5_addSound 2 none ∈ dtWT := dtWT_5 100 (by decide +kernel) rfl
theorem wt_1061 : Cond.methodLink RX11 344 yX5_countReadings ∈ dtWT := dtWT_5 101 (by decide +kernel) rfl
theorem wt_1062 : Cond.instanceMethod yX5_countReadings ∈ dtWT := dtWT_5 102 (by decide +kernel) rfl
theorem wt_1063 : Cond.selects RX5 yX5_countReadings yX5_countReadings ∈ dtWT := dtWT_5 103 (by decide +kernel) rfl
theorem wt_1064 : Cond.code yX5_countReadings cX5_countReadings 5 (some .int) ∈ dtWT := dtWT_5 104 (by decide +kernel) rfl
theorem wt_1066 : Cond.methodLink RX5 54 yX5_fits ∈ dtWT := dtWT_5 106 (by decide +kernel) rfl
theorem wt_1068 : Cond.instanceMethod yX5_fits ∈ dtWT := dtWT_5 108 (by decide +kernel) rfl
theorem wt_1069 : Cond.code yX5_fits cX5_fits 5 (some .boolean) ∈ dtWT := dtWT_5 109 (by decide +kernel) rfl
theorem wt_1070 : Cond.methodLink RX5 58 yX5_agrees ∈ dtWT := dtWT_5 110 (by decide +kernel) rfl
theorem wt_1072 : Cond.instanceMethod yX5_agrees ∈ dtWT := dtWT_5 112 (by decide +kernel) rfl
theorem wt_1073 : Cond.code yX5_agrees cX5_agrees 6 (some .boolean) ∈ dtWT := dtWT_5 113 (by decide +kernel) rfl
theorem wt_1074 : Cond.methodLink RX5 30 yX3_soundOfWord ∈ dtWT := dtWT_5 114 (by decide +kernel) rfl
theorem wt_1075 : Cond.methodLink RL 160 yX11_first ∈ dtWT := dtWT_5 115 (by decide +kernel) rfl
theorem wt_1076 : Cond.instanceMethod yX11_first ∈ dtWT := dtWT_5 116 (by decide +kernel) rfl
theorem wt_1077 : Cond.selects RX11 yX11_first yX11_first ∈ dtWT := dtWT_5 117 (by decide +kernel) rfl
theorem wt_1078 : Cond.code yX11_first cX11_first 2 (some .int) ∈ dtWT := dtWT_5 118 (by decide +kernel) rfl
theorem wt_1079 : Cond.methodLink RX11 348 yX5_wordsOfFirst ∈ dtWT := dtWT_5 119 (by decide +kernel) rfl
theorem wt_1080 : Cond.instanceMethod yX5_wordsOfFirst ∈ dtWT := dtWT_5 120 (by decide +kernel) rfl
theorem wt_1081 : Cond.selects RX5 yX5_wordsOfFirst yX5_wordsOfFirst ∈ dtWT := dtWT_5 121 (by decide +kernel) rfl
theorem wt_1082 : Cond.code yX5_wordsOfFirst cX5_wordsOfFirst 6 (some .int) ∈ dtWT := dtWT_5 122 (by decide +kernel) rfl
theorem wt_1083 : Cond.methodLink RX5 62 yX5_countReadings ∈ dtWT := dtWT_5 123 (by decide +kernel) rfl
theorem wt_1084 : Cond.methodLink RX5 66 yX5_firstWordAt ∈ dtWT := dtWT_5 124 (by decide +kernel) rfl
theorem wt_1086 : Cond.instanceMethod yX5_firstWordAt ∈ dtWT := dtWT_5 126 (by decide +kernel) rfl
theorem wt_1087 : Cond.code yX5_firstWordAt cX5_firstWordAt 5 (some .int) ∈ dtWT := dtWT_5 127 (by decide +kernel) rfl
theorem wt_1088 : Cond.methodLink RL 164 yX11_firstAt ∈ dtWT := dtWT_5 128 (by decide +kernel) rfl
theorem wt_1089 : Cond.instanceMethod yX11_firstAt ∈ dtWT := dtWT_5 129 (by decide +kernel) rfl
theorem wt_1090 : Cond.selects RX11 yX11_firstAt yX11_firstAt ∈ dtWT := dtWT_5 130 (by decide +kernel) rfl
theorem wt_1091 : Cond.code yX11_firstAt cX11_firstAt 3 (some .int) ∈ dtWT := dtWT_5 131 (by decide +kernel) rfl
theorem wt_1092 : Cond.methodLink RX11 351 yX5_wordOfFirst ∈ dtWT := dtWT_5 132 (by decide +kernel) rfl
theorem wt_1093 : Cond.instanceMethod yX5_wordOfFirst ∈ dtWT := dtWT_5 133 (by decide +kernel) rfl
theorem wt_1094 : Cond.selects RX5 yX5_wordOfFirst yX5_wordOfFirst ∈ dtWT := dtWT_5 134 (by decide +kernel) rfl
theorem wt_1095 : Cond.code yX5_wordOfFirst cX5_wordOfFirst 6 (some .int) ∈ dtWT := dtWT_5 135 (by decide +kernel) rfl
theorem wt_1096 : Cond.methodLink RX5 70 yX5_wordsOfFirst ∈ dtWT := dtWT_5 136 (by decide +kernel) rfl
theorem wt_1097 : Cond.methodLink RL 168 yX11_means ∈ dtWT := dtWT_5 137 (by decide +kernel) rfl
theorem wt_1098 : Cond.instanceMethod yX11_means ∈ dtWT := dtWT_5 138 (by decide +kernel) rfl
theorem wt_1099 : Cond.selects RX11 yX11_means yX11_means ∈ dtWT := dtWT_5 139 (by decide +kernel) rfl
theorem wt_1100 : Cond.code yX11_means cX11_means 7 (some .int) ∈ dtWT := dtWT_5 140 (by decide +kernel) rfl
theorem wt_1101 : Cond.methodLink RX11 354 yX5_beginRow ∈ dtWT := dtWT_5 141 (by decide +kernel) rfl
theorem wt_1102 : Cond.methodLink RX11 357 yX5_addSound ∈ dtWT := dtWT_5 142 (by decide +kernel) rfl
theorem wt_1103 : Cond.methodLink RL 172 yX11_unsaid ∈ dtWT := dtWT_5 143 (by decide +kernel) rfl
theorem wt_1104 : Cond.instanceMethod yX11_unsaid ∈ dtWT := dtWT_5 144 (by decide +kernel) rfl
theorem wt_1105 : Cond.selects RX11 yX11_unsaid yX11_unsaid ∈ dtWT := dtWT_5 145 (by decide +kernel) rfl
theorem wt_1106 : Cond.code yX11_unsaid cX11_unsaid 7 (some .int) ∈ dtWT := dtWT_5 146 (by decide +kernel) rfl
theorem wt_1107 : Cond.methodLink RX11 358 yX5_addWord ∈ dtWT := dtWT_5 147 (by decide +kernel) rfl
theorem wt_1108 : Cond.instanceMethod yX5_addWord ∈ dtWT := dtWT_5 148 (by decide +kernel) rfl
theorem wt_1109 : Cond.selects RX5 yX5_addWord yX5_addWord ∈ dtWT := dtWT_5 149 (by decide +kernel) rfl
theorem wt_1110 : Cond.code yX5_addWord cX5_addWord 4 none ∈ dtWT := dtWT_5 150 (by decide +kernel) rfl
theorem wt_1111 : Cond.methodLink RL 176 yX11_doubt ∈ dtWT := dtWT_5 151 (by decide +kernel) rfl
theorem wt_1112 : Cond.instanceMethod yX11_doubt ∈ dtWT := dtWT_5 152 (by decide +kernel) rfl
theorem wt_1113 : Cond.selects RX11 yX11_doubt yX11_doubt ∈ dtWT := dtWT_5 153 (by decide +kernel) rfl
theorem wt_1114 : Cond.code yX11_doubt cX11_doubt 2 (some .int) ∈ dtWT := dtWT_5 154 (by decide +kernel) rfl
theorem wt_1115 : Cond.methodLink RX11 361 yX5_findDoubt ∈ dtWT := dtWT_5 155 (by decide +kernel) rfl
theorem wt_1116 : Cond.instanceMethod yX5_findDoubt ∈ dtWT := dtWT_5 156 (by decide +kernel) rfl
theorem wt_1117 : Cond.selects RX5 yX5_findDoubt yX5_findDoubt ∈ dtWT := dtWT_5 157 (by decide +kernel) rfl
theorem wt_1118 : Cond.code yX5_findDoubt cX5_findDoubt 4 (some .int) ∈ dtWT := dtWT_5 158 (by decide +kernel) rfl
theorem wt_1119 : Cond.methodLink RX5 77 yX5_extendToDoubt ∈ dtWT := dtWT_5 159 (by decide +kernel) rfl
theorem wt_1121 : Cond.instanceMethod yX5_extendToDoubt ∈ dtWT := dtWT_5 161 (by decide +kernel) rfl
theorem wt_1122 : Cond.code yX5_extendToDoubt cX5_extendToDoubt 6 (some .boolean) ∈ dtWT := dtWT_5 162 (by decide +kernel) rfl
theorem wt_1123 : Cond.methodLink RX5 80 yX5_countEndings ∈ dtWT := dtWT_5 163 (by decide +kernel) rfl
theorem wt_1125 : Cond.instanceMethod yX5_countEndings ∈ dtWT := dtWT_5 165 (by decide +kernel) rfl
theorem wt_1126 : Cond.code yX5_countEndings cX5_countEndings 6 (some .int) ∈ dtWT := dtWT_5 166 (by decide +kernel) rfl
theorem wt_1127 : Cond.methodLink RX5 83 yX5_canBeTwo ∈ dtWT := dtWT_5 167 (by decide +kernel) rfl
theorem wt_1129 : Cond.instanceMethod yX5_canBeTwo ∈ dtWT := dtWT_5 169 (by decide +kernel) rfl
theorem wt_1130 : Cond.code yX5_canBeTwo cX5_canBeTwo 5 (some .boolean) ∈ dtWT := dtWT_5 170 (by decide +kernel) rfl
theorem wt_1131 : Cond.methodLink RX5 87 Lib.Math.max.name ∈ dtWT := dtWT_5 171 (by decide +kernel) rfl
theorem wt_1132 : Cond.static Lib.Math.max.name ∈ dtWT := dtWT_5 172 (by decide +kernel) rfl
theorem wt_1133 : Cond.code Lib.Math.max.name Lib.Math.max.code 2 (some .int) ∈ dtWT := dtWT_5 173 (by decide +kernel) rfl
theorem wt_1134 : Cond.methodLink RX5 92 yX5_countBegun ∈ dtWT := dtWT_5 174 (by decide +kernel) rfl
theorem wt_1136 : Cond.instanceMethod yX5_countBegun ∈ dtWT := dtWT_5 176 (by decide +kernel) rfl
theorem wt_1137 : Cond.code yX5_countBegun cX5_countBegun 7 (some .int) ∈ dtWT := dtWT_5 177 (by decide +kernel) rfl
theorem wt_1138 : Cond.methodLink RL 180 yX11_doubtAt ∈ dtWT := dtWT_5 178 (by decide +kernel) rfl
theorem wt_1139 : Cond.instanceMethod yX11_doubtAt ∈ dtWT := dtWT_5 179 (by decide +kernel) rfl
theorem wt_1140 : Cond.selects RX11 yX11_doubtAt yX11_doubtAt ∈ dtWT := dtWT_5 180 (by decide +kernel) rfl
theorem wt_1141 : Cond.code yX11_doubtAt cX11_doubtAt 4 (some .int) ∈ dtWT := dtWT_5 181 (by decide +kernel) rfl
theorem wt_1142 : Cond.methodLink RX11 364 yX5_soundAt ∈ dtWT := dtWT_5 182 (by decide +kernel) rfl
theorem wt_1143 : Cond.instanceMethod yX5_soundAt ∈ dtWT := dtWT_5 183 (by decide +kernel) rfl
theorem wt_1144 : Cond.selects RX5 yX5_soundAt yX5_soundAt ∈ dtWT := dtWT_5 184 (by decide +kernel) rfl
theorem wt_1145 : Cond.code yX5_soundAt cX5_soundAt 2 (some .int) ∈ dtWT := dtWT_5 185 (by decide +kernel) rfl
theorem wt_1146 : Cond.methodLink RL 184 yX11_shared ∈ dtWT := dtWT_5 186 (by decide +kernel) rfl
theorem wt_1147 : Cond.instanceMethod yX11_shared ∈ dtWT := dtWT_5 187 (by decide +kernel) rfl
theorem wt_1148 : Cond.selects RX11 yX11_shared yX11_shared ∈ dtWT := dtWT_5 188 (by decide +kernel) rfl
theorem wt_1149 : Cond.code yX11_shared cX11_shared 3 (some .int) ∈ dtWT := dtWT_5 189 (by decide +kernel) rfl
theorem wt_1150 : Cond.methodLink RX11 367 yX5_wordsShared ∈ dtWT := dtWT_5 190 (by decide +kernel) rfl
theorem wt_1151 : Cond.instanceMethod yX5_wordsShared ∈ dtWT := dtWT_5 191 (by decide +kernel) rfl
theorem wt_1152 : Cond.selects RX5 yX5_wordsShared yX5_wordsShared ∈ dtWT := dtWT_5 192 (by decide +kernel) rfl
theorem wt_1153 : Cond.code yX5_wordsShared cX5_wordsShared 6 (some .int) ∈ dtWT := dtWT_5 193 (by decide +kernel) rfl
theorem wt_1154 : Cond.methodLink RX5 73 yX5_addWord ∈ dtWT := dtWT_5 194 (by decide +kernel) rfl
theorem wt_1155 : Cond.methodLink RL 188 yX11_far ∈ dtWT := dtWT_5 195 (by decide +kernel) rfl
theorem wt_1156 : Cond.instanceMethod yX11_far ∈ dtWT := dtWT_5 196 (by decide +kernel) rfl
theorem wt_1157 : Cond.selects RX11 yX11_far yX11_far ∈ dtWT := dtWT_5 197 (by decide +kernel) rfl
theorem wt_1158 : Cond.code yX11_far cX11_far 3 (some .int) ∈ dtWT := dtWT_5 198 (by decide +kernel) rfl
theorem wt_1159 : Cond.methodLink RX11 370 yX10_distance ∈ dtWT := dtWT_5 199 (by decide +kernel) rfl
theorem wt_1160 : Cond.static yX10_distance ∈ dtWT := dtWT_5 200 (by decide +kernel) rfl
theorem wt_1161 : Cond.code yX10_distance cX10_distance 5 (some .int) ∈ dtWT := dtWT_5 201 (by decide +kernel) rfl
theorem wt_1162 : Cond.methodLink RL 192 yX11_way ∈ dtWT := dtWT_5 202 (by decide +kernel) rfl
theorem wt_1163 : Cond.instanceMethod yX11_way ∈ dtWT := dtWT_5 203 (by decide +kernel) rfl
theorem wt_1164 : Cond.selects RX11 yX11_way yX11_way ∈ dtWT := dtWT_5 204 (by decide +kernel) rfl
theorem wt_1165 : Cond.code yX11_way cX11_way 4 (some .int) ∈ dtWT := dtWT_5 205 (by decide +kernel) rfl
theorem wt_1166 : Cond.methodLink RX11 373 yX10_roomOnWay ∈ dtWT := dtWT_5 206 (by decide +kernel) rfl
theorem wt_1167 : Cond.static yX10_roomOnWay ∈ dtWT := dtWT_5 207 (by decide +kernel) rfl
theorem wt_1168 : Cond.code yX10_roomOnWay cX10_roomOnWay 7 (some .int) ∈ dtWT := dtWT_5 208 (by decide +kernel) rfl
theorem wt_1169 : Cond.methodLink RX10 36 yX10_distance ∈ dtWT := dtWT_5 209 (by decide +kernel) rfl
theorem wt_1170 : Cond.methodLink RX10 39 yX10_nextOnWay ∈ dtWT := dtWT_5 210 (by decide +kernel) rfl
theorem wt_1171 : Cond.static yX10_nextOnWay ∈ dtWT := dtWT_5 211 (by decide +kernel) rfl
theorem wt_1172 : Cond.code yX10_nextOnWay cX10_nextOnWay 6 (some .int) ∈ dtWT := dtWT_5 212 (by decide +kernel) rfl
theorem wt_1173 : Cond.methodLink RL 196 yX11_part ∈ dtWT := dtWT_5 213 (by decide +kernel) rfl
theorem wt_1174 : Cond.instanceMethod yX11_part ∈ dtWT := dtWT_5 214 (by decide +kernel) rfl
theorem wt_1175 : Cond.selects RX11 yX11_part yX11_part ∈ dtWT := dtWT_5 215 (by decide +kernel) rfl
theorem wt_1176 : Cond.code yX11_part cX11_part 2 (some .int) ∈ dtWT := dtWT_5 216 (by decide +kernel) rfl
theorem wt_1177 : Cond.methodLink RX11 376 yX10_reach ∈ dtWT := dtWT_5 217 (by decide +kernel) rfl
theorem wt_1178 : Cond.methodLink RL 200 yX11_apart ∈ dtWT := dtWT_5 218 (by decide +kernel) rfl
theorem wt_1179 : Cond.instanceMethod yX11_apart ∈ dtWT := dtWT_5 219 (by decide +kernel) rfl
theorem wt_1180 : Cond.selects RX11 yX11_apart yX11_apart ∈ dtWT := dtWT_5 220 (by decide +kernel) rfl
theorem wt_1181 : Cond.code yX11_apart cX11_apart 4 (some .int) ∈ dtWT := dtWT_5 221 (by decide +kernel) rfl
theorem wt_1182 : Cond.methodLink RX11 379 yX10_doorsThatPart ∈ dtWT := dtWT_5 222 (by decide +kernel) rfl
theorem wt_1183 : Cond.static yX10_doorsThatPart ∈ dtWT := dtWT_5 223 (by decide +kernel) rfl
theorem wt_1184 : Cond.code yX10_doorsThatPart cX10_doorsThatPart 6 (some .int) ∈ dtWT := dtWT_5 224 (by decide +kernel) rfl
theorem wt_1185 : Cond.methodLink RX10 46 yJ6_bitCount_0f7a4 ∈ dtWT := dtWT_5 225 (by decide +kernel) rfl
theorem wt_1186 : Cond.methodLink RX10 51 yX10_reach ∈ dtWT := dtWT_5 226 (by decide +kernel) rfl
theorem wt_1187 : Cond.methodLink RL 204 yX11_apartSet ∈ dtWT := dtWT_5 227 (by decide +kernel) rfl
theorem wt_1188 : Cond.instanceMethod yX11_apartSet ∈ dtWT := dtWT_5 228 (by decide +kernel) rfl
theorem wt_1189 : Cond.selects RX11 yX11_apartSet yX11_apartSet ∈ dtWT := dtWT_5 229 (by decide +kernel) rfl
theorem wt_1190 : Cond.code yX11_apartSet cX11_apartSet 3 (some .int) ∈ dtWT := dtWT_5 230 (by decide +kernel) rfl
theorem wt_1191 : Cond.methodLink RL 208 yX11_together ∈ dtWT := dtWT_5 231 (by decide +kernel) rfl
theorem wt_1192 : Cond.instanceMethod yX11_together ∈ dtWT := dtWT_5 232 (by decide +kernel) rfl
theorem wt_1193 : Cond.selects RX11 yX11_together yX11_together ∈ dtWT := dtWT_5 233 (by decide +kernel) rfl
theorem wt_1194 : Cond.code yX11_together cX11_together 3 (some .int) ∈ dtWT := dtWT_5 234 (by decide +kernel) rfl
theorem wt_1195 : Cond.methodLink RX11 382 yX10_doorsToJoin ∈ dtWT := dtWT_5 235 (by decide +kernel) rfl
theorem wt_1196 : Cond.static yX10_doorsToJoin ∈ dtWT := dtWT_5 236 (by decide +kernel) rfl
theorem wt_1197 : Cond.code yX10_doorsToJoin cX10_doorsToJoin 6 (some .int) ∈ dtWT := dtWT_5 237 (by decide +kernel) rfl
theorem wt_1198 : Cond.methodLink RL 212 yX11_culprits ∈ dtWT := dtWT_5 238 (by decide +kernel) rfl
theorem wt_1199 : Cond.instanceMethod yX11_culprits ∈ dtWT := dtWT_5 239 (by decide +kernel) rfl
theorem wt_1200 : Cond.selects RX11 yX11_culprits yX11_culprits ∈ dtWT := dtWT_6 0 (by decide +kernel) rfl
theorem wt_1201 : Cond.code yX11_culprits cX11_culprits 6 (some .int) ∈ dtWT := dtWT_6 1 (by decide +kernel) rfl
theorem wt_1202 : Cond.methodLink RX11 385 yX11_areOpenDoors ∈ dtWT := dtWT_6 2 (by decide +kernel) rfl
theorem wt_1204 : Cond.instanceMethod yX11_areOpenDoors ∈ dtWT := dtWT_6 4 (by decide +kernel) rfl
theorem wt_1205 : Cond.code yX11_areOpenDoors cX11_areOpenDoors 6 (some .boolean) ∈ dtWT := dtWT_6 5 (by decide +kernel) rfl
theorem wt_1206 : Cond.methodLink RX11 389 yX10_canShutAll ∈ dtWT := dtWT_6 6 (by decide +kernel) rfl
theorem wt_1207 : Cond.static yX10_canShutAll ∈ dtWT := dtWT_6 7 (by decide +kernel) rfl
theorem wt_1208 : Cond.code yX10_canShutAll cX10_canShutAll 9 (some .boolean) ∈ dtWT := dtWT_6 8 (by decide +kernel) rfl
theorem wt_1209 : Cond.methodLink RX10 54 yX9_smallNumber ∈ dtWT := dtWT_6 9 (by decide +kernel) rfl
theorem wt_1210 : Cond.methodLink RL 216 yX11_game ∈ dtWT := dtWT_6 10 (by decide +kernel) rfl
theorem wt_1211 : Cond.instanceMethod yX11_game ∈ dtWT := dtWT_6 11 (by decide +kernel) rfl
theorem wt_1212 : Cond.selects RX11 yX11_game yX11_game ∈ dtWT := dtWT_6 12 (by decide +kernel) rfl
theorem wt_1213 : Cond.code yX11_game cX11_game 3 (some .int) ∈ dtWT := dtWT_6 13 (by decide +kernel) rfl
theorem wt_1214 : Cond.methodLink RX11 393 yX10_outcome ∈ dtWT := dtWT_6 14 (by decide +kernel) rfl
theorem wt_1215 : Cond.instanceMethod yX10_outcome ∈ dtWT := dtWT_6 15 (by decide +kernel) rfl
theorem wt_1216 : Cond.selects RX10 yX10_outcome yX10_outcome ∈ dtWT := dtWT_6 16 (by decide +kernel) rfl
theorem wt_1217 : Cond.code yX10_outcome cX10_outcome 4 (some .int) ∈ dtWT := dtWT_6 17 (by decide +kernel) rfl
theorem wt_1218 : Cond.methodLink RX10 59 yX10_playBack ∈ dtWT := dtWT_6 18 (by decide +kernel) rfl
theorem wt_1220 : Cond.instanceMethod yX10_playBack ∈ dtWT := dtWT_6 20 (by decide +kernel) rfl
theorem wt_1221 : Cond.code yX10_playBack cX10_playBack 7 none ∈ dtWT := dtWT_6 21 (by decide +kernel) rfl
theorem wt_1222 : Cond.methodLink RX10 67 yX10_shutterPlays ∈ dtWT := dtWT_6 22 (by decide +kernel) rfl
theorem wt_1224 : Cond.instanceMethod yX10_shutterPlays ∈ dtWT := dtWT_6 24 (by decide +kernel) rfl
theorem wt_1225 : Cond.code yX10_shutterPlays cX10_shutterPlays 5 none ∈ dtWT := dtWT_6 25 (by decide +kernel) rfl
theorem wt_1226 : Cond.methodLink RX10 74 Lib.Math.min.name ∈ dtWT := dtWT_6 26 (by decide +kernel) rfl
theorem wt_1227 : Cond.methodLink RX10 71 yX10_openerPlays ∈ dtWT := dtWT_6 27 (by decide +kernel) rfl
theorem wt_1229 : Cond.instanceMethod yX10_openerPlays ∈ dtWT := dtWT_6 29 (by decide +kernel) rfl
theorem wt_1230 : Cond.code yX10_openerPlays cX10_openerPlays 5 none ∈ dtWT := dtWT_6 30 (by decide +kernel) rfl
theorem wt_1231 : Cond.methodLink RX10 80 Lib.Math.max.name ∈ dtWT := dtWT_6 31 (by decide +kernel) rfl
theorem wt_1232 : Cond.methodLink RL 220 yX11_moveOf ∈ dtWT := dtWT_6 32 (by decide +kernel) rfl
theorem wt_1233 : Cond.instanceMethod yX11_moveOf ∈ dtWT := dtWT_6 33 (by decide +kernel) rfl
theorem wt_1234 : Cond.selects RX11 yX11_moveOf yX11_moveOf ∈ dtWT := dtWT_6 34 (by decide +kernel) rfl
theorem wt_1235 : Cond.code yX11_moveOf cX11_moveOf 3 (some .int) ∈ dtWT := dtWT_6 35 (by decide +kernel) rfl
theorem wt_1236 : Cond.methodLink RX11 396 yX10_bestMove ∈ dtWT := dtWT_6 36 (by decide +kernel) rfl
theorem wt_1237 : Cond.instanceMethod yX10_bestMove ∈ dtWT := dtWT_6 37 (by decide +kernel) rfl
theorem wt_1238 : Cond.selects RX10 yX10_bestMove yX10_bestMove ∈ dtWT := dtWT_6 38 (by decide +kernel) rfl
theorem wt_1239 : Cond.code yX10_bestMove cX10_bestMove 8 (some .int) ∈ dtWT := dtWT_6 39 (by decide +kernel) rfl
theorem wt_1240 : Cond.methodLink RX10 63 yX3_isOpen ∈ dtWT := dtWT_6 40 (by decide +kernel) rfl
theorem wt_1241 : Cond.methodLink RL 224 yX11_gale ∈ dtWT := dtWT_6 41 (by decide +kernel) rfl
theorem wt_1242 : Cond.instanceMethod yX11_gale ∈ dtWT := dtWT_6 42 (by decide +kernel) rfl
theorem wt_1243 : Cond.selects RX11 yX11_gale yX11_gale ∈ dtWT := dtWT_6 43 (by decide +kernel) rfl
theorem wt_1244 : Cond.code yX11_gale cX11_gale 8 (some .boolean) ∈ dtWT := dtWT_6 44 (by decide +kernel) rfl
theorem wt_1245 : Cond.methodLink RX11 399 yX11_power ∈ dtWT := dtWT_6 45 (by decide +kernel) rfl
theorem wt_1246 : Cond.static yX11_power ∈ dtWT := dtWT_6 46 (by decide +kernel) rfl
theorem wt_1247 : Cond.code yX11_power cX11_power 5 (some .long) ∈ dtWT := dtWT_6 47 (by decide +kernel) rfl
theorem wt_1248 : Cond.methodLink RX11 403 yX11_tellFraction ∈ dtWT := dtWT_6 48 (by decide +kernel) rfl
theorem wt_1250 : Cond.instanceMethod yX11_tellFraction ∈ dtWT := dtWT_6 50 (by decide +kernel) rfl
theorem wt_1251 : Cond.code yX11_tellFraction cX11_tellFraction 7 none ∈ dtWT := dtWT_6 51 (by decide +kernel) rfl
theorem wt_1252 : Cond.methodLink RX11 436 yX11_commonDivisor ∈ dtWT := dtWT_6 52 (by decide +kernel) rfl
theorem wt_1253 : Cond.static yX11_commonDivisor ∈ dtWT := dtWT_6 53 (by decide +kernel) rfl
theorem wt_1254 : Cond.code yX11_commonDivisor cX11_commonDivisor 11 (some .long) ∈ dtWT := dtWT_6 54 (by decide +kernel) rfl
theorem wt_1255 : Cond.methodLink RL 229 yX11_copyRooms ∈ dtWT := dtWT_6 55 (by decide +kernel) rfl
theorem wt_1256 : Cond.instanceMethod yX11_copyRooms ∈ dtWT := dtWT_6 56 (by decide +kernel) rfl
theorem wt_1257 : Cond.selects RX11 yX11_copyRooms yX11_copyRooms ∈ dtWT := dtWT_6 57 (by decide +kernel) rfl
theorem wt_1258 : Cond.code yX11_copyRooms cX11_copyRooms 4 (some .int) ∈ dtWT := dtWT_6 58 (by decide +kernel) rfl
theorem wt_1259 : Cond.methodLink RL 233 yX11_live ∈ dtWT := dtWT_6 59 (by decide +kernel) rfl
theorem wt_1260 : Cond.instanceMethod yX11_live ∈ dtWT := dtWT_6 60 (by decide +kernel) rfl
theorem wt_1261 : Cond.selects RX11 yX11_live yX11_live ∈ dtWT := dtWT_6 61 (by decide +kernel) rfl
theorem wt_1262 : Cond.code yX11_live cX11_live 2 (some .int) ∈ dtWT := dtWT_6 62 (by decide +kernel) rfl
theorem wt_1263 : Cond.methodLink RX11 408 yX6_run ∈ dtWT := dtWT_6 63 (by decide +kernel) rfl
theorem wt_1264 : Cond.instanceMethod yX6_run ∈ dtWT := dtWT_6 64 (by decide +kernel) rfl
theorem wt_1265 : Cond.selects RX6 yX6_run yX6_run ∈ dtWT := dtWT_6 65 (by decide +kernel) rfl
theorem wt_1266 : Cond.code yX6_run cX6_run 9 none ∈ dtWT := dtWT_6 66 (by decide +kernel) rfl
theorem wt_1267 : Cond.constant RX6 40 (1000000) ∈ dtWT := dtWT_6 67 (by decide +kernel) rfl
theorem wt_1268 : Cond.methodLink RX6 49 yX6_behindEnd ∈ dtWT := dtWT_6 68 (by decide +kernel) rfl
theorem wt_1270 : Cond.instanceMethod yX6_behindEnd ∈ dtWT := dtWT_6 70 (by decide +kernel) rfl
theorem wt_1271 : Cond.code yX6_behindEnd cX6_behindEnd 4 (some .int) ∈ dtWT := dtWT_6 71 (by decide +kernel) rfl
theorem wt_1272 : Cond.methodLink RX6 53 yX6_act ∈ dtWT := dtWT_6 72 (by decide +kernel) rfl
theorem wt_1274 : Cond.instanceMethod yX6_act ∈ dtWT := dtWT_6 74 (by decide +kernel) rfl
theorem wt_1275 : Cond.code yX6_act cX6_act 8 (some .boolean) ∈ dtWT := dtWT_6 75 (by decide +kernel) rfl
theorem wt_1276 : Cond.methodLink RX6 97 yX3_isAt ∈ dtWT := dtWT_6 76 (by decide +kernel) rfl
theorem wt_1277 : Cond.methodLink RX6 101 yX6_shutBy ∈ dtWT := dtWT_6 77 (by decide +kernel) rfl
theorem wt_1279 : Cond.instanceMethod yX6_shutBy ∈ dtWT := dtWT_6 79 (by decide +kernel) rfl
theorem wt_1280 : Cond.code yX6_shutBy cX6_shutBy 6 (some .boolean) ∈ dtWT := dtWT_6 80 (by decide +kernel) rfl
theorem wt_1281 : Cond.methodLink RX6 81 yX3_isOpen ∈ dtWT := dtWT_6 81 (by decide +kernel) rfl
theorem wt_1282 : Cond.methodLink RX6 123 yX2_shutWith ∈ dtWT := dtWT_6 82 (by decide +kernel) rfl
theorem wt_1283 : Cond.methodLink RX6 129 yJ6_bitCount_0f7a4 ∈ dtWT := dtWT_6 83 (by decide +kernel) rfl
theorem wt_1284 : Cond.methodLink RX6 105 yX6_unshut ∈ dtWT := dtWT_6 84 (by decide +kernel) rfl
theorem wt_1285 : Cond.static yX6_unshut ∈ dtWT := dtWT_6 85 (by decide +kernel) rfl
theorem wt_1286 : Cond.code yX6_unshut cX6_unshut 2 (some .boolean) ∈ dtWT := dtWT_6 86 (by decide +kernel) rfl
theorem wt_1287 : Cond.methodLink RX6 132 yX3_unshut ∈ dtWT := dtWT_6 87 (by decide +kernel) rfl
theorem wt_1288 : Cond.methodLink RX6 109 yX6_pass ∈ dtWT := dtWT_6 88 (by decide +kernel) rfl
theorem wt_1290 : Cond.instanceMethod yX6_pass ∈ dtWT := dtWT_6 90 (by decide +kernel) rfl
theorem wt_1291 : Cond.code yX6_pass cX6_pass 4 (some .boolean) ∈ dtWT := dtWT_6 91 (by decide +kernel) rfl
theorem wt_1292 : Cond.methodLink RX6 135 yX3_passThrough ∈ dtWT := dtWT_6 92 (by decide +kernel) rfl
theorem wt_1293 : Cond.methodLink RX6 113 yX6_forgetAll ∈ dtWT := dtWT_6 93 (by decide +kernel) rfl
theorem wt_1294 : Cond.static yX6_forgetAll ∈ dtWT := dtWT_6 94 (by decide +kernel) rfl
theorem wt_1295 : Cond.code yX6_forgetAll cX6_forgetAll 2 (some .boolean) ∈ dtWT := dtWT_6 95 (by decide +kernel) rfl
theorem wt_1296 : Cond.methodLink RX6 119 yX6_draw ∈ dtWT := dtWT_6 96 (by decide +kernel) rfl
theorem wt_1298 : Cond.instanceMethod yX6_draw ∈ dtWT := dtWT_6 98 (by decide +kernel) rfl
theorem wt_1299 : Cond.code yX6_draw cX6_draw 2 (some .int) ∈ dtWT := dtWT_6 99 (by decide +kernel) rfl
theorem wt_1300 : Cond.constant RX6 139 (65536) ∈ dtWT := dtWT_6 100 (by decide +kernel) rfl
theorem wt_1301 : Cond.methodLink RX6 57 yX6_behindStep ∈ dtWT := dtWT_6 101 (by decide +kernel) rfl
theorem wt_1303 : Cond.instanceMethod yX6_behindStep ∈ dtWT := dtWT_6 103 (by decide +kernel) rfl
theorem wt_1304 : Cond.code yX6_behindStep cX6_behindStep 4 (some .int) ∈ dtWT := dtWT_6 104 (by decide +kernel) rfl
theorem wt_1305 : Cond.methodLink RX6 65 yX6_holds ∈ dtWT := dtWT_6 105 (by decide +kernel) rfl
theorem wt_1306 : Cond.static yX6_holds ∈ dtWT := dtWT_6 106 (by decide +kernel) rfl
theorem wt_1307 : Cond.code yX6_holds cX6_holds 4 (some .boolean) ∈ dtWT := dtWT_6 107 (by decide +kernel) rfl
theorem wt_1308 : Cond.methodLink RX6 88 yJ6_compare_7cf53 ∈ dtWT := dtWT_6 108 (by decide +kernel) rfl
theorem wt_1309 : Cond.static yJ6_compare_7cf53 ∈ dtWT := dtWT_6 109 (by decide +kernel) rfl
theorem wt_1310 : Cond.code yJ6_compare_7cf53 cJ6_compare_7cf53 2 (some .int) ∈ dtWT := dtWT_6 110 (by decide +kernel) rfl
theorem wt_1311 : Cond.methodLink RL 237 yX11_lived ∈ dtWT := dtWT_6 111 (by decide +kernel) rfl
theorem wt_1312 : Cond.instanceMethod yX11_lived ∈ dtWT := dtWT_6 112 (by decide +kernel) rfl
theorem wt_1313 : Cond.selects RX11 yX11_lived yX11_lived ∈ dtWT := dtWT_6 113 (by decide +kernel) rfl
theorem wt_1314 : Cond.code yX11_lived cX11_lived 2 (some .int) ∈ dtWT := dtWT_6 114 (by decide +kernel) rfl
theorem wt_1315 : Cond.methodLink RL 241 yX11_mean ∈ dtWT := dtWT_6 115 (by decide +kernel) rfl
theorem wt_1316 : Cond.instanceMethod yX11_mean ∈ dtWT := dtWT_6 116 (by decide +kernel) rfl
theorem wt_1317 : Cond.selects RX11 yX11_mean yX11_mean ∈ dtWT := dtWT_6 117 (by decide +kernel) rfl
theorem wt_1318 : Cond.code yX11_mean cX11_mean 6 (some .boolean) ∈ dtWT := dtWT_6 118 (by decide +kernel) rfl
theorem wt_1319 : Cond.methodLink RX11 428 yX3_copyFrom ∈ dtWT := dtWT_6 119 (by decide +kernel) rfl
theorem wt_1320 : Cond.instanceMethod yX3_copyFrom ∈ dtWT := dtWT_6 120 (by decide +kernel) rfl
theorem wt_1321 : Cond.selects RX3 yX3_copyFrom yX3_copyFrom ∈ dtWT := dtWT_6 121 (by decide +kernel) rfl
theorem wt_1322 : Cond.code yX3_copyFrom cX3_copyFrom 2 none ∈ dtWT := dtWT_6 122 (by decide +kernel) rfl
theorem wt_1323 : Cond.methodLink RX3 71 arraycopyName ∈ dtWT := dtWT_6 123 (by decide +kernel) rfl
theorem wt_1324 : Cond.methodLink RL 245 yX11_mark ∈ dtWT := dtWT_6 124 (by decide +kernel) rfl
theorem wt_1325 : Cond.instanceMethod yX11_mark ∈ dtWT := dtWT_6 125 (by decide +kernel) rfl
theorem wt_1326 : Cond.selects RX11 yX11_mark yX11_mark ∈ dtWT := dtWT_6 126 (by decide +kernel) rfl
theorem wt_1327 : Cond.code yX11_mark cX11_mark 1 (some .int) ∈ dtWT := dtWT_6 127 (by decide +kernel) rfl
theorem wt_1328 : Cond.methodLink RX11 432 yX0_copyFrom ∈ dtWT := dtWT_6 128 (by decide +kernel) rfl
theorem wt_1329 : Cond.instanceMethod yX0_copyFrom ∈ dtWT := dtWT_6 129 (by decide +kernel) rfl
theorem wt_1330 : Cond.selects RX0 yX0_copyFrom yX0_copyFrom ∈ dtWT := dtWT_6 130 (by decide +kernel) rfl
theorem wt_1331 : Cond.code yX0_copyFrom cX0_copyFrom 2 none ∈ dtWT := dtWT_6 131 (by decide +kernel) rfl
theorem wt_1332 : Cond.methodLink RX0 41 arraycopyName ∈ dtWT := dtWT_6 132 (by decide +kernel) rfl
theorem wt_1333 : Cond.methodLink RL 249 yX11_undo ∈ dtWT := dtWT_6 133 (by decide +kernel) rfl
theorem wt_1334 : Cond.instanceMethod yX11_undo ∈ dtWT := dtWT_6 134 (by decide +kernel) rfl
theorem wt_1335 : Cond.selects RX11 yX11_undo yX11_undo ∈ dtWT := dtWT_6 135 (by decide +kernel) rfl
theorem wt_1336 : Cond.code yX11_undo cX11_undo 1 (some .int) ∈ dtWT := dtWT_6 136 (by decide +kernel) rfl
theorem wt_1337 : Cond.classLink RL 10 RX12 ∈ dtWT := dtWT_6 137 (by decide +kernel) rfl
theorem wt_1338 : Cond.instantiable RX12 41 ∈ dtWT := dtWT_6 138 (by decide +kernel) rfl
theorem wt_1339 : Cond.methodLink RL 12 yX12_init ∈ dtWT := dtWT_6 139 (by decide +kernel) rfl
theorem wt_1340 : Cond.instanceMethod yX12_init ∈ dtWT := dtWT_6 140 (by decide +kernel) rfl
theorem wt_1341 : Cond.code yX12_init cX12_init 1 none ∈ dtWT := dtWT_6 141 (by decide +kernel) rfl
theorem wt_1342 : Cond.methodLink RX12 1 Lib.objectInit ∈ dtWT := dtWT_6 142 (by decide +kernel) rfl
theorem wt_1343 : Cond.methodLink RX12 83 yX12_plain ∈ dtWT := dtWT_6 143 (by decide +kernel) rfl
theorem wt_1345 : Cond.instanceMethod yX12_plain ∈ dtWT := dtWT_6 145 (by decide +kernel) rfl
theorem wt_1346 : Cond.code yX12_plain cX12_plain 3 none ∈ dtWT := dtWT_6 146 (by decide +kernel) rfl
theorem wt_1347 : Cond.fieldLink RX12 7 "DoorTongueModel" "at" "[I" ∈ dtWT := dtWT_6 147 (by decide +kernel) rfl
theorem wt_1348 : Cond.fieldLink RX12 13 "DoorTongueModel" "names" "[J" ∈ dtWT := dtWT_6 148 (by decide +kernel) rfl
theorem wt_1349 : Cond.fieldLink RX12 87 "DoorTongueModel" "status" "I" ∈ dtWT := dtWT_6 149 (by decide +kernel) rfl
theorem wt_1350 : Cond.fieldLink RX12 90 "DoorTongueModel" "top" "J" ∈ dtWT := dtWT_6 150 (by decide +kernel) rfl
theorem wt_1351 : Cond.fieldLink RX12 17 "DoorTongueModel" "bottom" "J" ∈ dtWT := dtWT_6 151 (by decide +kernel) rfl
theorem wt_1352 : Cond.fieldLink RX12 21 "DoorTongueModel" "sort" "[I" ∈ dtWT := dtWT_6 152 (by decide +kernel) rfl
theorem wt_1353 : Cond.fieldLink RX12 24 "DoorTongueModel" "trayMany" "[I" ∈ dtWT := dtWT_6 153 (by decide +kernel) rfl
theorem wt_1354 : Cond.fieldLink RX12 27 "DoorTongueModel" "trays" "[J" ∈ dtWT := dtWT_6 154 (by decide +kernel) rfl
theorem wt_1355 : Cond.fieldLink RX12 30 "DoorTongueModel" "tape" "[B" ∈ dtWT := dtWT_6 155 (by decide +kernel) rfl
theorem wt_1356 : Cond.fieldLink RX12 34 "DoorTongueModel" "text" "[B" ∈ dtWT := dtWT_6 156 (by decide +kernel) rfl
theorem wt_1357 : Cond.fieldLink RX12 117 "DoorTongueModel" "taped" "I" ∈ dtWT := dtWT_6 157 (by decide +kernel) rfl
theorem wt_1358 : Cond.fieldLink RX12 123 "DoorTongueModel" "size" "I" ∈ dtWT := dtWT_6 158 (by decide +kernel) rfl
theorem wt_1359 : Cond.fieldLink RX12 138 "DoorTongueModel" "token" "I" ∈ dtWT := dtWT_6 159 (by decide +kernel) rfl
theorem wt_1360 : Cond.fieldLink RX12 132 "DoorTongueModel" "from" "I" ∈ dtWT := dtWT_6 160 (by decide +kernel) rfl
theorem wt_1361 : Cond.fieldLink RX12 126 "DoorTongueModel" "end" "I" ∈ dtWT := dtWT_6 161 (by decide +kernel) rfl
theorem wt_1362 : Cond.fieldLink RX12 135 "DoorTongueModel" "value" "I" ∈ dtWT := dtWT_6 162 (by decide +kernel) rfl
theorem wt_1363 : Cond.fieldLink RX12 37 "DoorTongueModel" "faultKind" "I" ∈ dtWT := dtWT_6 163 (by decide +kernel) rfl
theorem wt_1364 : Cond.fieldLink RX12 41 "DoorTongueModel" "faultPlace" "I" ∈ dtWT := dtWT_6 164 (by decide +kernel) rfl
theorem wt_1365 : Cond.fieldLink RX12 163 "DoorTongueModel" "faults" "I" ∈ dtWT := dtWT_6 165 (by decide +kernel) rfl
theorem wt_1366 : Cond.fieldLink RX12 166 "DoorTongueModel" "seen" "I" ∈ dtWT := dtWT_6 166 (by decide +kernel) rfl
theorem wt_1367 : Cond.fieldLink RX12 244 "DoorTongueModel" "toldParts" "I" ∈ dtWT := dtWT_6 167 (by decide +kernel) rfl
theorem wt_1368 : Cond.fieldLink RX12 44 "DoorTongueModel" "opened" "[I" ∈ dtWT := dtWT_6 168 (by decide +kernel) rfl
theorem wt_1369 : Cond.fieldLink RX12 283 "DoorTongueModel" "depth" "I" ∈ dtWT := dtWT_6 169 (by decide +kernel) rfl
theorem wt_1370 : Cond.fieldLink RX12 286 "DoorTongueModel" "counted" "I" ∈ dtWT := dtWT_6 170 (by decide +kernel) rfl
theorem wt_1371 : Cond.fieldLink RX12 47 "DoorTongueModel" "lossBy" "[I" ∈ dtWT := dtWT_6 171 (by decide +kernel) rfl
theorem wt_1372 : Cond.fieldLink RX12 50 "DoorTongueModel" "rowBy" "[I" ∈ dtWT := dtWT_6 172 (by decide +kernel) rfl
theorem wt_1373 : Cond.fieldLink RX12 53 "DoorTongueModel" "readBy" "[I" ∈ dtWT := dtWT_6 173 (by decide +kernel) rfl
theorem wt_1374 : Cond.fieldLink RX12 376 "DoorTongueModel" "rowMany" "I" ∈ dtWT := dtWT_6 174 (by decide +kernel) rfl
theorem wt_1375 : Cond.fieldLink RX12 56 "DoorTongueModel" "farBy" "[I" ∈ dtWT := dtWT_6 175 (by decide +kernel) rfl
theorem wt_1376 : Cond.fieldLink RX12 59 "DoorTongueModel" "openAt" "[I" ∈ dtWT := dtWT_6 176 (by decide +kernel) rfl
theorem wt_1377 : Cond.fieldLink RX12 62 "DoorTongueModel" "doneAt" "[I" ∈ dtWT := dtWT_6 177 (by decide +kernel) rfl
theorem wt_1378 : Cond.fieldLink RX12 65 "DoorTongueModel" "gotAt" "[I" ∈ dtWT := dtWT_6 178 (by decide +kernel) rfl
theorem wt_1379 : Cond.fieldLink RX12 68 "DoorTongueModel" "bestDeed" "[I" ∈ dtWT := dtWT_6 179 (by decide +kernel) rfl
theorem wt_1380 : Cond.fieldLink RX12 71 "DoorTongueModel" "galeBy" "[J" ∈ dtWT := dtWT_6 180 (by decide +kernel) rfl
theorem wt_1381 : Cond.fieldLink RX12 437 "DoorTongueModel" "drawn" "I" ∈ dtWT := dtWT_6 181 (by decide +kernel) rfl
theorem wt_1382 : Cond.fieldLink RX12 456 "DoorTongueModel" "ranSteps" "I" ∈ dtWT := dtWT_6 182 (by decide +kernel) rfl
theorem wt_1383 : Cond.fieldLink RX12 74 "DoorTongueModel" "loops" "[I" ∈ dtWT := dtWT_6 183 (by decide +kernel) rfl
theorem wt_1384 : Cond.fieldLink RX12 77 "DoorTongueModel" "ran" "[I" ∈ dtWT := dtWT_6 184 (by decide +kernel) rfl
theorem wt_1385 : Cond.fieldLink RX12 80 "DoorTongueModel" "told1" "[I" ∈ dtWT := dtWT_6 185 (by decide +kernel) rfl
theorem wt_1386 : Cond.fieldLink RX12 473 "DoorTongueModel" "isTold" "Z" ∈ dtWT := dtWT_6 186 (by decide +kernel) rfl
theorem wt_1387 : Cond.fieldLink RX12 479 "DoorTongueModel" "marks" "I" ∈ dtWT := dtWT_6 187 (by decide +kernel) rfl
theorem wt_1471 : Cond.methodLink RL 17 yX12_status ∈ dtWT := dtWT_7 31 (by decide +kernel) rfl
theorem wt_1472 : Cond.instanceMethod yX12_status ∈ dtWT := dtWT_7 32 (by decide +kernel) rfl
theorem wt_1473 : Cond.selects RX12 yX12_status yX12_status ∈ dtWT := dtWT_7 33 (by decide +kernel) rfl
theorem wt_1474 : Cond.code yX12_status cX12_status 1 (some .int) ∈ dtWT := dtWT_7 34 (by decide +kernel) rfl
theorem wt_1475 : Cond.methodLink RL 22 yX12_top ∈ dtWT := dtWT_7 35 (by decide +kernel) rfl
theorem wt_1476 : Cond.instanceMethod yX12_top ∈ dtWT := dtWT_7 36 (by decide +kernel) rfl
theorem wt_1477 : Cond.selects RX12 yX12_top yX12_top ∈ dtWT := dtWT_7 37 (by decide +kernel) rfl
theorem wt_1478 : Cond.code yX12_top cX12_top 1 (some .long) ∈ dtWT := dtWT_7 38 (by decide +kernel) rfl
theorem wt_1479 : Cond.methodLink RL 26 yX12_bottom ∈ dtWT := dtWT_7 39 (by decide +kernel) rfl
theorem wt_1480 : Cond.instanceMethod yX12_bottom ∈ dtWT := dtWT_7 40 (by decide +kernel) rfl
theorem wt_1481 : Cond.selects RX12 yX12_bottom yX12_bottom ∈ dtWT := dtWT_7 41 (by decide +kernel) rfl
theorem wt_1482 : Cond.code yX12_bottom cX12_bottom 1 (some .long) ∈ dtWT := dtWT_7 42 (by decide +kernel) rfl
theorem wt_1483 : Cond.methodLink RL 31 yX12_tray ∈ dtWT := dtWT_7 43 (by decide +kernel) rfl
theorem wt_1484 : Cond.instanceMethod yX12_tray ∈ dtWT := dtWT_7 44 (by decide +kernel) rfl
theorem wt_1485 : Cond.selects RX12 yX12_tray yX12_tray ∈ dtWT := dtWT_7 45 (by decide +kernel) rfl
theorem wt_1486 : Cond.code yX12_tray cX12_tray 5 (some .boolean) ∈ dtWT := dtWT_7 46 (by decide +kernel) rfl
theorem wt_1487 : Cond.methodLink RX12 104 yX12_isTray ∈ dtWT := dtWT_7 47 (by decide +kernel) rfl
theorem wt_1488 : Cond.static yX12_isTray ∈ dtWT := dtWT_7 48 (by decide +kernel) rfl
theorem wt_1489 : Cond.code yX12_isTray cX12_isTray 1 (some .boolean) ∈ dtWT := dtWT_7 49 (by decide +kernel) rfl
theorem wt_1490 : Cond.methodLink RX12 100 yX12_is ∈ dtWT := dtWT_7 50 (by decide +kernel) rfl
theorem wt_1492 : Cond.instanceMethod yX12_is ∈ dtWT := dtWT_7 52 (by decide +kernel) rfl
theorem wt_1493 : Cond.code yX12_is cX12_is 2 (some .boolean) ∈ dtWT := dtWT_7 53 (by decide +kernel) rfl
theorem wt_1494 : Cond.methodLink RL 38 yX12_write ∈ dtWT := dtWT_7 54 (by decide +kernel) rfl
theorem wt_1495 : Cond.instanceMethod yX12_write ∈ dtWT := dtWT_7 55 (by decide +kernel) rfl
theorem wt_1496 : Cond.selects RX12 yX12_write yX12_write ∈ dtWT := dtWT_7 56 (by decide +kernel) rfl
theorem wt_1497 : Cond.code yX12_write cX12_write 6 (some .boolean) ∈ dtWT := dtWT_7 57 (by decide +kernel) rfl
theorem wt_1498 : Cond.methodLink RX12 107 yX12_wrongPlace ∈ dtWT := dtWT_7 58 (by decide +kernel) rfl
theorem wt_1500 : Cond.instanceMethod yX12_wrongPlace ∈ dtWT := dtWT_7 60 (by decide +kernel) rfl
theorem wt_1501 : Cond.code yX12_wrongPlace cX12_wrongPlace 3 (some .int) ∈ dtWT := dtWT_7 61 (by decide +kernel) rfl
theorem wt_1502 : Cond.methodLink RX12 111 yX12_cut ∈ dtWT := dtWT_7 62 (by decide +kernel) rfl
theorem wt_1503 : Cond.static yX12_cut ∈ dtWT := dtWT_7 63 (by decide +kernel) rfl
theorem wt_1504 : Cond.code yX12_cut cX12_cut 3 (some .long) ∈ dtWT := dtWT_7 64 (by decide +kernel) rfl
theorem wt_1505 : Cond.methodLink RL 43 yX12_read ∈ dtWT := dtWT_7 65 (by decide +kernel) rfl
theorem wt_1506 : Cond.instanceMethod yX12_read ∈ dtWT := dtWT_7 66 (by decide +kernel) rfl
theorem wt_1507 : Cond.selects RX12 yX12_read yX12_read ∈ dtWT := dtWT_7 67 (by decide +kernel) rfl
theorem wt_1508 : Cond.code yX12_read cX12_read 3 (some .long) ∈ dtWT := dtWT_7 68 (by decide +kernel) rfl
theorem wt_1509 : Cond.constantLong RX12 115 (-1) ∈ dtWT := dtWT_7 69 (by decide +kernel) rfl
theorem wt_1510 : Cond.methodLink RL 48 yX12_pour ∈ dtWT := dtWT_7 70 (by decide +kernel) rfl
theorem wt_1511 : Cond.instanceMethod yX12_pour ∈ dtWT := dtWT_7 71 (by decide +kernel) rfl
theorem wt_1512 : Cond.selects RX12 yX12_pour yX12_pour ∈ dtWT := dtWT_7 72 (by decide +kernel) rfl
theorem wt_1513 : Cond.code yX12_pour cX12_pour 8 (some .boolean) ∈ dtWT := dtWT_7 73 (by decide +kernel) rfl
theorem wt_1514 : Cond.methodLink RL 53 yX12_feed ∈ dtWT := dtWT_7 74 (by decide +kernel) rfl
theorem wt_1515 : Cond.instanceMethod yX12_feed ∈ dtWT := dtWT_7 75 (by decide +kernel) rfl
theorem wt_1516 : Cond.selects RX12 yX12_feed yX12_feed ∈ dtWT := dtWT_7 76 (by decide +kernel) rfl
theorem wt_1517 : Cond.code yX12_feed cX12_feed 6 (some .int) ∈ dtWT := dtWT_7 77 (by decide +kernel) rfl
theorem wt_1518 : Cond.methodLink RX12 120 yX12_four ∈ dtWT := dtWT_7 78 (by decide +kernel) rfl
theorem wt_1520 : Cond.instanceMethod yX12_four ∈ dtWT := dtWT_7 80 (by decide +kernel) rfl
theorem wt_1521 : Cond.code yX12_four cX12_four 3 none ∈ dtWT := dtWT_7 81 (by decide +kernel) rfl
theorem wt_1522 : Cond.methodLink RL 66 yX12_fault ∈ dtWT := dtWT_7 82 (by decide +kernel) rfl
theorem wt_1523 : Cond.instanceMethod yX12_fault ∈ dtWT := dtWT_7 83 (by decide +kernel) rfl
theorem wt_1524 : Cond.selects RX12 yX12_fault yX12_fault ∈ dtWT := dtWT_7 84 (by decide +kernel) rfl
theorem wt_1525 : Cond.code yX12_fault cX12_fault 2 (some .int) ∈ dtWT := dtWT_7 85 (by decide +kernel) rfl
theorem wt_1526 : Cond.methodLink RL 58 yX12_house ∈ dtWT := dtWT_7 86 (by decide +kernel) rfl
theorem wt_1527 : Cond.instanceMethod yX12_house ∈ dtWT := dtWT_7 87 (by decide +kernel) rfl
theorem wt_1528 : Cond.selects RX12 yX12_house yX12_house ∈ dtWT := dtWT_7 88 (by decide +kernel) rfl
theorem wt_1529 : Cond.code yX12_house cX12_house 4 (some .int) ∈ dtWT := dtWT_7 89 (by decide +kernel) rfl
theorem wt_1530 : Cond.methodLink RX12 262 yX12_begins ∈ dtWT := dtWT_7 90 (by decide +kernel) rfl
theorem wt_1532 : Cond.instanceMethod yX12_begins ∈ dtWT := dtWT_7 92 (by decide +kernel) rfl
theorem wt_1533 : Cond.code yX12_begins cX12_begins 4 (some .boolean) ∈ dtWT := dtWT_7 93 (by decide +kernel) rfl
theorem wt_1534 : Cond.methodLink RX12 169 yX12_ahead ∈ dtWT := dtWT_7 94 (by decide +kernel) rfl
theorem wt_1536 : Cond.instanceMethod yX12_ahead ∈ dtWT := dtWT_7 96 (by decide +kernel) rfl
theorem wt_1537 : Cond.code yX12_ahead cX12_ahead 2 none ∈ dtWT := dtWT_7 97 (by decide +kernel) rfl
theorem wt_1538 : Cond.methodLink RX12 129 yX12_byteAt ∈ dtWT := dtWT_7 98 (by decide +kernel) rfl
theorem wt_1540 : Cond.instanceMethod yX12_byteAt ∈ dtWT := dtWT_7 100 (by decide +kernel) rfl
theorem wt_1541 : Cond.code yX12_byteAt cX12_byteAt 2 (some .int) ∈ dtWT := dtWT_7 101 (by decide +kernel) rfl
theorem wt_1542 : Cond.methodLink RX12 141 yX12_isSmall ∈ dtWT := dtWT_7 102 (by decide +kernel) rfl
theorem wt_1543 : Cond.static yX12_isSmall ∈ dtWT := dtWT_7 103 (by decide +kernel) rfl
theorem wt_1544 : Cond.code yX12_isSmall cX12_isSmall 1 (some .boolean) ∈ dtWT := dtWT_7 104 (by decide +kernel) rfl
theorem wt_1545 : Cond.methodLink RX12 144 yX12_isDigit ∈ dtWT := dtWT_7 105 (by decide +kernel) rfl
theorem wt_1546 : Cond.static yX12_isDigit ∈ dtWT := dtWT_7 106 (by decide +kernel) rfl
theorem wt_1547 : Cond.code yX12_isDigit cX12_isDigit 1 (some .boolean) ∈ dtWT := dtWT_7 107 (by decide +kernel) rfl
theorem wt_1548 : Cond.constant RX12 147 (100000) ∈ dtWT := dtWT_7 108 (by decide +kernel) rfl
theorem wt_1549 : Cond.methodLink RX12 148 Lib.Math.min.name ∈ dtWT := dtWT_7 109 (by decide +kernel) rfl
theorem wt_1550 : Cond.methodLink RX12 93 yX12_refuse ∈ dtWT := dtWT_7 110 (by decide +kernel) rfl
theorem wt_1552 : Cond.instanceMethod yX12_refuse ∈ dtWT := dtWT_7 112 (by decide +kernel) rfl
theorem wt_1553 : Cond.code yX12_refuse cX12_refuse 2 (some .int) ∈ dtWT := dtWT_7 113 (by decide +kernel) rfl
theorem wt_1554 : Cond.methodLink RX12 265 yX12_housePart ∈ dtWT := dtWT_7 114 (by decide +kernel) rfl
theorem wt_1556 : Cond.instanceMethod yX12_housePart ∈ dtWT := dtWT_7 116 (by decide +kernel) rfl
theorem wt_1557 : Cond.code yX12_housePart cX12_housePart 3 (some .boolean) ∈ dtWT := dtWT_7 117 (by decide +kernel) rfl
theorem wt_1559 : Cond.methodLink RX12 178 yX12_inWords ∈ dtWT := dtWT_7 119 (by decide +kernel) rfl
theorem wt_1561 : Cond.instanceMethod yX12_inWords ∈ dtWT := dtWT_7 121 (by decide +kernel) rfl
theorem wt_1562 : Cond.code yX12_inWords cX12_inWords 7 (some .int) ∈ dtWT := dtWT_7 122 (by decide +kernel) rfl
theorem wt_1563 : Cond.methodLink RX12 153 yJ0_length_8abf5 ∈ dtWT := dtWT_7 123 (by decide +kernel) rfl
theorem wt_1564 : Cond.methodLink RX12 159 yJ0_charAt_5068e ∈ dtWT := dtWT_7 124 (by decide +kernel) rfl
theorem wt_1565 : Cond.methodLink RX12 175 yX12_fails ∈ dtWT := dtWT_7 125 (by decide +kernel) rfl
theorem wt_1567 : Cond.instanceMethod yX12_fails ∈ dtWT := dtWT_7 127 (by decide +kernel) rfl
theorem wt_1568 : Cond.code yX12_fails cX12_fails 2 (some .boolean) ∈ dtWT := dtWT_7 128 (by decide +kernel) rfl
theorem wt_1569 : Cond.methodLink RX12 219 yX12_number ∈ dtWT := dtWT_7 129 (by decide +kernel) rfl
theorem wt_1571 : Cond.instanceMethod yX12_number ∈ dtWT := dtWT_7 131 (by decide +kernel) rfl
theorem wt_1572 : Cond.code yX12_number cX12_number 4 (some .boolean) ∈ dtWT := dtWT_7 132 (by decide +kernel) rfl
theorem wt_1573 : Cond.methodLink RX12 247 yX12_aRoom ∈ dtWT := dtWT_7 133 (by decide +kernel) rfl
theorem wt_1575 : Cond.instanceMethod yX12_aRoom ∈ dtWT := dtWT_7 135 (by decide +kernel) rfl
theorem wt_1576 : Cond.code yX12_aRoom cX12_aRoom 1 (some .boolean) ∈ dtWT := dtWT_7 136 (by decide +kernel) rfl
theorem wt_1577 : Cond.methodLink RX12 207 yX12_newOne ∈ dtWT := dtWT_7 137 (by decide +kernel) rfl
theorem wt_1579 : Cond.instanceMethod yX12_newOne ∈ dtWT := dtWT_7 139 (by decide +kernel) rfl
theorem wt_1580 : Cond.code yX12_newOne cX12_newOne 4 (some .boolean) ∈ dtWT := dtWT_7 140 (by decide +kernel) rfl
theorem wt_1581 : Cond.methodLink RX12 191 yX12_isFull ∈ dtWT := dtWT_7 141 (by decide +kernel) rfl
theorem wt_1583 : Cond.instanceMethod yX12_isFull ∈ dtWT := dtWT_7 143 (by decide +kernel) rfl
theorem wt_1584 : Cond.code yX12_isFull cX12_isFull 3 (some .boolean) ∈ dtWT := dtWT_7 144 (by decide +kernel) rfl
theorem wt_1585 : Cond.methodLink RX12 195 yX12_isName ∈ dtWT := dtWT_7 145 (by decide +kernel) rfl
theorem wt_1587 : Cond.instanceMethod yX12_isName ∈ dtWT := dtWT_7 147 (by decide +kernel) rfl
theorem wt_1588 : Cond.code yX12_isName cX12_isName 2 (some .boolean) ∈ dtWT := dtWT_7 148 (by decide +kernel) rfl
theorem wt_1589 : Cond.methodLink RX12 199 yX12_isOld ∈ dtWT := dtWT_7 149 (by decide +kernel) rfl
theorem wt_1591 : Cond.instanceMethod yX12_isOld ∈ dtWT := dtWT_7 151 (by decide +kernel) rfl
theorem wt_1592 : Cond.code yX12_isOld cX12_isOld 1 (some .boolean) ∈ dtWT := dtWT_7 152 (by decide +kernel) rfl
theorem wt_1593 : Cond.methodLink RX12 188 yX12_findHere ∈ dtWT := dtWT_7 153 (by decide +kernel) rfl
theorem wt_1595 : Cond.instanceMethod yX12_findHere ∈ dtWT := dtWT_7 155 (by decide +kernel) rfl
theorem wt_1596 : Cond.code yX12_findHere cX12_findHere 4 (some .int) ∈ dtWT := dtWT_7 156 (by decide +kernel) rfl
theorem wt_1597 : Cond.methodLink RX12 182 yX12_nameHere ∈ dtWT := dtWT_7 157 (by decide +kernel) rfl
theorem wt_1599 : Cond.instanceMethod yX12_nameHere ∈ dtWT := dtWT_7 159 (by decide +kernel) rfl
theorem wt_1600 : Cond.code yX12_nameHere cX12_nameHere 4 (some .long) ∈ dtWT := dtWT_7 160 (by decide +kernel) rfl
theorem wt_1601 : Cond.methodLink RX12 250 yX12_aDoor ∈ dtWT := dtWT_7 161 (by decide +kernel) rfl
theorem wt_1603 : Cond.instanceMethod yX12_aDoor ∈ dtWT := dtWT_7 163 (by decide +kernel) rfl
theorem wt_1604 : Cond.code yX12_aDoor cX12_aDoor 2 (some .boolean) ∈ dtWT := dtWT_7 164 (by decide +kernel) rfl
theorem wt_1605 : Cond.methodLink RX12 210 yX12_doorRow ∈ dtWT := dtWT_7 165 (by decide +kernel) rfl
theorem wt_1606 : Cond.static yX12_doorRow ∈ dtWT := dtWT_7 166 (by decide +kernel) rfl
theorem wt_1607 : Cond.code yX12_doorRow cX12_doorRow 1 (some .int) ∈ dtWT := dtWT_7 167 (by decide +kernel) rfl
theorem wt_1608 : Cond.methodLink RX12 213 yX12_newRoomTo ∈ dtWT := dtWT_7 168 (by decide +kernel) rfl
theorem wt_1610 : Cond.instanceMethod yX12_newRoomTo ∈ dtWT := dtWT_7 170 (by decide +kernel) rfl
theorem wt_1611 : Cond.code yX12_newRoomTo cX12_newRoomTo 2 (some .boolean) ∈ dtWT := dtWT_7 171 (by decide +kernel) rfl
theorem wt_1612 : Cond.methodLink RX12 203 yX12_oldOne ∈ dtWT := dtWT_7 172 (by decide +kernel) rfl
theorem wt_1614 : Cond.instanceMethod yX12_oldOne ∈ dtWT := dtWT_7 174 (by decide +kernel) rfl
theorem wt_1615 : Cond.code yX12_oldOne cX12_oldOne 4 (some .boolean) ∈ dtWT := dtWT_7 175 (by decide +kernel) rfl
theorem wt_1616 : Cond.methodLink RX12 216 yX12_isThere ∈ dtWT := dtWT_7 176 (by decide +kernel) rfl
theorem wt_1618 : Cond.instanceMethod yX12_isThere ∈ dtWT := dtWT_7 178 (by decide +kernel) rfl
theorem wt_1619 : Cond.code yX12_isThere cX12_isThere 2 (some .boolean) ∈ dtWT := dtWT_7 179 (by decide +kernel) rfl
theorem wt_1620 : Cond.methodLink RX12 253 yX12_aWord ∈ dtWT := dtWT_7 180 (by decide +kernel) rfl
theorem wt_1622 : Cond.instanceMethod yX12_aWord ∈ dtWT := dtWT_7 182 (by decide +kernel) rfl
theorem wt_1623 : Cond.code yX12_aWord cX12_aWord 4 (some .boolean) ∈ dtWT := dtWT_7 183 (by decide +kernel) rfl
theorem wt_1624 : Cond.methodLink RX12 222 yX12_wordRow ∈ dtWT := dtWT_7 184 (by decide +kernel) rfl
theorem wt_1625 : Cond.static yX12_wordRow ∈ dtWT := dtWT_7 185 (by decide +kernel) rfl
theorem wt_1626 : Cond.code yX12_wordRow cX12_wordRow 1 (some .int) ∈ dtWT := dtWT_7 186 (by decide +kernel) rfl
theorem wt_1627 : Cond.methodLink RX12 228 yX12_wantWord ∈ dtWT := dtWT_7 187 (by decide +kernel) rfl
theorem wt_1629 : Cond.instanceMethod yX12_wantWord ∈ dtWT := dtWT_7 189 (by decide +kernel) rfl
theorem wt_1630 : Cond.code yX12_wantWord cX12_wantWord 3 (some .boolean) ∈ dtWT := dtWT_7 190 (by decide +kernel) rfl
theorem wt_1631 : Cond.methodLink RX12 232 yX12_isSound ∈ dtWT := dtWT_7 191 (by decide +kernel) rfl
theorem wt_1633 : Cond.instanceMethod yX12_isSound ∈ dtWT := dtWT_7 193 (by decide +kernel) rfl
theorem wt_1634 : Cond.code yX12_isSound cX12_isSound 1 (some .boolean) ∈ dtWT := dtWT_7 194 (by decide +kernel) rfl
theorem wt_1635 : Cond.methodLink RX12 172 yX12_isSign ∈ dtWT := dtWT_7 195 (by decide +kernel) rfl
theorem wt_1637 : Cond.instanceMethod yX12_isSign ∈ dtWT := dtWT_7 197 (by decide +kernel) rfl
theorem wt_1638 : Cond.code yX12_isSign cX12_isSign 2 (some .boolean) ∈ dtWT := dtWT_7 198 (by decide +kernel) rfl
theorem wt_1639 : Cond.methodLink RX12 235 yX12_sameAs ∈ dtWT := dtWT_7 199 (by decide +kernel) rfl
theorem wt_1641 : Cond.instanceMethod yX12_sameAs ∈ dtWT := dtWT_7 201 (by decide +kernel) rfl
theorem wt_1642 : Cond.code yX12_sameAs cX12_sameAs 4 (some .int) ∈ dtWT := dtWT_7 202 (by decide +kernel) rfl
theorem wt_1643 : Cond.methodLink RX12 225 yX12_isSame ∈ dtWT := dtWT_7 203 (by decide +kernel) rfl
theorem wt_1645 : Cond.instanceMethod yX12_isSame ∈ dtWT := dtWT_7 205 (by decide +kernel) rfl
theorem wt_1646 : Cond.code yX12_isSame cX12_isSame 5 (some .boolean) ∈ dtWT := dtWT_7 206 (by decide +kernel) rfl
theorem wt_1647 : Cond.methodLink RX12 256 yX12_aPerson ∈ dtWT := dtWT_7 207 (by decide +kernel) rfl
theorem wt_1649 : Cond.instanceMethod yX12_aPerson ∈ dtWT := dtWT_7 209 (by decide +kernel) rfl
theorem wt_1650 : Cond.code yX12_aPerson cX12_aPerson 5 (some .boolean) ∈ dtWT := dtWT_7 210 (by decide +kernel) rfl
theorem wt_1651 : Cond.methodLink RX12 238 yX12_personRow ∈ dtWT := dtWT_7 211 (by decide +kernel) rfl
theorem wt_1652 : Cond.static yX12_personRow ∈ dtWT := dtWT_7 212 (by decide +kernel) rfl
theorem wt_1653 : Cond.code yX12_personRow cX12_personRow 1 (some .int) ∈ dtWT := dtWT_7 213 (by decide +kernel) rfl
theorem wt_1654 : Cond.methodLink RX12 241 yX12_isIn ∈ dtWT := dtWT_7 214 (by decide +kernel) rfl
theorem wt_1656 : Cond.instanceMethod yX12_isIn ∈ dtWT := dtWT_7 216 (by decide +kernel) rfl
theorem wt_1657 : Cond.code yX12_isIn cX12_isIn 3 (some .boolean) ∈ dtWT := dtWT_7 217 (by decide +kernel) rfl
theorem wt_1658 : Cond.methodLink RX12 259 yX12_wantSign ∈ dtWT := dtWT_7 218 (by decide +kernel) rfl
theorem wt_1660 : Cond.instanceMethod yX12_wantSign ∈ dtWT := dtWT_7 220 (by decide +kernel) rfl
theorem wt_1661 : Cond.code yX12_wantSign cX12_wantSign 2 (some .boolean) ∈ dtWT := dtWT_7 221 (by decide +kernel) rfl
theorem wt_1662 : Cond.methodLink RX12 268 yX12_taken ∈ dtWT := dtWT_7 222 (by decide +kernel) rfl
theorem wt_1664 : Cond.instanceMethod yX12_taken ∈ dtWT := dtWT_7 224 (by decide +kernel) rfl
theorem wt_1665 : Cond.code yX12_taken cX12_taken 2 (some .int) ∈ dtWT := dtWT_7 225 (by decide +kernel) rfl
theorem wt_1666 : Cond.methodLink RX12 97 yX12_gives ∈ dtWT := dtWT_7 226 (by decide +kernel) rfl
theorem wt_1668 : Cond.instanceMethod yX12_gives ∈ dtWT := dtWT_7 228 (by decide +kernel) rfl
theorem wt_1669 : Cond.code yX12_gives cX12_gives 2 (some .int) ∈ dtWT := dtWT_7 229 (by decide +kernel) rfl
theorem wt_1670 : Cond.methodLink RL 62 yX12_days ∈ dtWT := dtWT_7 230 (by decide +kernel) rfl
theorem wt_1671 : Cond.instanceMethod yX12_days ∈ dtWT := dtWT_7 231 (by decide +kernel) rfl
theorem wt_1672 : Cond.selects RX12 yX12_days yX12_days ∈ dtWT := dtWT_7 232 (by decide +kernel) rfl
theorem wt_1673 : Cond.code yX12_days cX12_days 4 (some .int) ∈ dtWT := dtWT_7 233 (by decide +kernel) rfl
theorem wt_1674 : Cond.methodLink RX12 292 yX12_dayStep ∈ dtWT := dtWT_7 234 (by decide +kernel) rfl
theorem wt_1676 : Cond.instanceMethod yX12_dayStep ∈ dtWT := dtWT_7 236 (by decide +kernel) rfl
theorem wt_1677 : Cond.code yX12_dayStep cX12_dayStep 6 (some .boolean) ∈ dtWT := dtWT_7 237 (by decide +kernel) rfl
theorem wt_1678 : Cond.methodLink RX12 289 yX12_dayOrder ∈ dtWT := dtWT_7 238 (by decide +kernel) rfl
theorem wt_1680 : Cond.instanceMethod yX12_dayOrder ∈ dtWT := dtWT_8 0 (by decide +kernel) rfl
theorem wt_1681 : Cond.code yX12_dayOrder cX12_dayOrder 3 (some .boolean) ∈ dtWT := dtWT_8 1 (by decide +kernel) rfl
theorem wt_1682 : Cond.methodLink RX12 274 yX12_personTo ∈ dtWT := dtWT_8 2 (by decide +kernel) rfl
theorem wt_1684 : Cond.instanceMethod yX12_personTo ∈ dtWT := dtWT_8 4 (by decide +kernel) rfl
theorem wt_1685 : Cond.code yX12_personTo cX12_personTo 2 (some .boolean) ∈ dtWT := dtWT_8 5 (by decide +kernel) rfl
theorem wt_1686 : Cond.methodLink RX12 271 yX12_doorTo ∈ dtWT := dtWT_8 6 (by decide +kernel) rfl
theorem wt_1688 : Cond.instanceMethod yX12_doorTo ∈ dtWT := dtWT_8 8 (by decide +kernel) rfl
theorem wt_1689 : Cond.code yX12_doorTo cX12_doorTo 2 (some .boolean) ∈ dtWT := dtWT_8 9 (by decide +kernel) rfl
theorem wt_1690 : Cond.methodLink RX12 277 yX12_soundTo ∈ dtWT := dtWT_8 10 (by decide +kernel) rfl
theorem wt_1692 : Cond.instanceMethod yX12_soundTo ∈ dtWT := dtWT_8 12 (by decide +kernel) rfl
theorem wt_1693 : Cond.code yX12_soundTo cX12_soundTo 2 (some .boolean) ∈ dtWT := dtWT_8 13 (by decide +kernel) rfl
theorem wt_1694 : Cond.methodLink RX12 280 yX12_test ∈ dtWT := dtWT_8 14 (by decide +kernel) rfl
theorem wt_1696 : Cond.instanceMethod yX12_test ∈ dtWT := dtWT_8 16 (by decide +kernel) rfl
theorem wt_1697 : Cond.code yX12_test cX12_test 3 (some .boolean) ∈ dtWT := dtWT_8 17 (by decide +kernel) rfl
theorem wt_1698 : Cond.methodLink RL 70 yX12_told ∈ dtWT := dtWT_8 18 (by decide +kernel) rfl
theorem wt_1699 : Cond.instanceMethod yX12_told ∈ dtWT := dtWT_8 19 (by decide +kernel) rfl
theorem wt_1700 : Cond.selects RX12 yX12_told yX12_told ∈ dtWT := dtWT_8 20 (by decide +kernel) rfl
theorem wt_1701 : Cond.code yX12_told cX12_told 2 (some .int) ∈ dtWT := dtWT_8 21 (by decide +kernel) rfl
theorem wt_1702 : Cond.methodLink RL 75 yX12_door ∈ dtWT := dtWT_8 22 (by decide +kernel) rfl
theorem wt_1703 : Cond.instanceMethod yX12_door ∈ dtWT := dtWT_8 23 (by decide +kernel) rfl
theorem wt_1704 : Cond.selects RX12 yX12_door yX12_door ∈ dtWT := dtWT_8 24 (by decide +kernel) rfl
theorem wt_1705 : Cond.code yX12_door cX12_door 3 (some .int) ∈ dtWT := dtWT_8 25 (by decide +kernel) rfl
theorem wt_1706 : Cond.methodLink RX12 301 yX12_isDoor ∈ dtWT := dtWT_8 26 (by decide +kernel) rfl
theorem wt_1708 : Cond.instanceMethod yX12_isDoor ∈ dtWT := dtWT_8 28 (by decide +kernel) rfl
theorem wt_1709 : Cond.code yX12_isDoor cX12_isDoor 2 (some .boolean) ∈ dtWT := dtWT_8 29 (by decide +kernel) rfl
theorem wt_1710 : Cond.methodLink RX12 298 yX12_doorOf ∈ dtWT := dtWT_8 30 (by decide +kernel) rfl
theorem wt_1712 : Cond.instanceMethod yX12_doorOf ∈ dtWT := dtWT_8 32 (by decide +kernel) rfl
theorem wt_1713 : Cond.code yX12_doorOf cX12_doorOf 3 (some .int) ∈ dtWT := dtWT_8 33 (by decide +kernel) rfl
theorem wt_1714 : Cond.methodLink RL 79 yX12_says ∈ dtWT := dtWT_8 34 (by decide +kernel) rfl
theorem wt_1715 : Cond.instanceMethod yX12_says ∈ dtWT := dtWT_8 35 (by decide +kernel) rfl
theorem wt_1716 : Cond.selects RX12 yX12_says yX12_says ∈ dtWT := dtWT_8 36 (by decide +kernel) rfl
theorem wt_1717 : Cond.code yX12_says cX12_says 2 (some .int) ∈ dtWT := dtWT_8 37 (by decide +kernel) rfl
theorem wt_1718 : Cond.methodLink RX12 304 yX12_isWord ∈ dtWT := dtWT_8 38 (by decide +kernel) rfl
theorem wt_1720 : Cond.instanceMethod yX12_isWord ∈ dtWT := dtWT_8 40 (by decide +kernel) rfl
theorem wt_1721 : Cond.code yX12_isWord cX12_isWord 2 (some .boolean) ∈ dtWT := dtWT_8 41 (by decide +kernel) rfl
theorem wt_1722 : Cond.methodLink RL 83 yX12_saysAt ∈ dtWT := dtWT_8 42 (by decide +kernel) rfl
theorem wt_1723 : Cond.instanceMethod yX12_saysAt ∈ dtWT := dtWT_8 43 (by decide +kernel) rfl
theorem wt_1724 : Cond.selects RX12 yX12_saysAt yX12_saysAt ∈ dtWT := dtWT_8 44 (by decide +kernel) rfl
theorem wt_1725 : Cond.code yX12_saysAt cX12_saysAt 3 (some .int) ∈ dtWT := dtWT_8 45 (by decide +kernel) rfl
theorem wt_1726 : Cond.methodLink RL 87 yX12_person ∈ dtWT := dtWT_8 46 (by decide +kernel) rfl
theorem wt_1727 : Cond.instanceMethod yX12_person ∈ dtWT := dtWT_8 47 (by decide +kernel) rfl
theorem wt_1728 : Cond.selects RX12 yX12_person yX12_person ∈ dtWT := dtWT_8 48 (by decide +kernel) rfl
theorem wt_1729 : Cond.code yX12_person cX12_person 3 (some .int) ∈ dtWT := dtWT_8 49 (by decide +kernel) rfl
theorem wt_1730 : Cond.methodLink RX12 307 yX12_isPerson ∈ dtWT := dtWT_8 50 (by decide +kernel) rfl
theorem wt_1732 : Cond.instanceMethod yX12_isPerson ∈ dtWT := dtWT_8 52 (by decide +kernel) rfl
theorem wt_1733 : Cond.code yX12_isPerson cX12_isPerson 2 (some .boolean) ∈ dtWT := dtWT_8 53 (by decide +kernel) rfl
theorem wt_1734 : Cond.methodLink RX12 295 yX12_personOf ∈ dtWT := dtWT_8 54 (by decide +kernel) rfl
theorem wt_1736 : Cond.instanceMethod yX12_personOf ∈ dtWT := dtWT_8 56 (by decide +kernel) rfl
theorem wt_1737 : Cond.code yX12_personOf cX12_personOf 3 (some .int) ∈ dtWT := dtWT_8 57 (by decide +kernel) rfl
theorem wt_1738 : Cond.methodLink RL 91 yX12_heardAt ∈ dtWT := dtWT_8 58 (by decide +kernel) rfl
theorem wt_1739 : Cond.instanceMethod yX12_heardAt ∈ dtWT := dtWT_8 59 (by decide +kernel) rfl
theorem wt_1740 : Cond.selects RX12 yX12_heardAt yX12_heardAt ∈ dtWT := dtWT_8 60 (by decide +kernel) rfl
theorem wt_1741 : Cond.code yX12_heardAt cX12_heardAt 3 (some .int) ∈ dtWT := dtWT_8 61 (by decide +kernel) rfl
theorem wt_1742 : Cond.methodLink RL 138 yX12_loss ∈ dtWT := dtWT_8 62 (by decide +kernel) rfl
theorem wt_1743 : Cond.instanceMethod yX12_loss ∈ dtWT := dtWT_8 63 (by decide +kernel) rfl
theorem wt_1744 : Cond.selects RX12 yX12_loss yX12_loss ∈ dtWT := dtWT_8 64 (by decide +kernel) rfl
theorem wt_1745 : Cond.code yX12_loss cX12_loss 4 (some .int) ∈ dtWT := dtWT_8 65 (by decide +kernel) rfl
theorem wt_1746 : Cond.methodLink RX12 314 yX12_isRoom ∈ dtWT := dtWT_8 66 (by decide +kernel) rfl
theorem wt_1748 : Cond.instanceMethod yX12_isRoom ∈ dtWT := dtWT_8 68 (by decide +kernel) rfl
theorem wt_1749 : Cond.code yX12_isRoom cX12_isRoom 2 (some .boolean) ∈ dtWT := dtWT_8 69 (by decide +kernel) rfl
theorem wt_1750 : Cond.methodLink RX12 317 yX12_laysLoss ∈ dtWT := dtWT_8 70 (by decide +kernel) rfl
theorem wt_1752 : Cond.instanceMethod yX12_laysLoss ∈ dtWT := dtWT_8 72 (by decide +kernel) rfl
theorem wt_1753 : Cond.code yX12_laysLoss cX12_laysLoss 8 none ∈ dtWT := dtWT_8 73 (by decide +kernel) rfl
theorem wt_1754 : Cond.constant RX12 310 (1000000) ∈ dtWT := dtWT_8 74 (by decide +kernel) rfl
theorem wt_1755 : Cond.methodLink RX12 311 yX12_isOpen ∈ dtWT := dtWT_8 75 (by decide +kernel) rfl
theorem wt_1757 : Cond.instanceMethod yX12_isOpen ∈ dtWT := dtWT_8 77 (by decide +kernel) rfl
theorem wt_1758 : Cond.code yX12_isOpen cX12_isOpen 2 (some .boolean) ∈ dtWT := dtWT_8 78 (by decide +kernel) rfl
theorem wt_1759 : Cond.methodLink RL 142 yX12_hearers ∈ dtWT := dtWT_8 79 (by decide +kernel) rfl
theorem wt_1760 : Cond.instanceMethod yX12_hearers ∈ dtWT := dtWT_8 80 (by decide +kernel) rfl
theorem wt_1761 : Cond.selects RX12 yX12_hearers yX12_hearers ∈ dtWT := dtWT_8 81 (by decide +kernel) rfl
theorem wt_1762 : Cond.code yX12_hearers cX12_hearers 3 (some .int) ∈ dtWT := dtWT_8 82 (by decide +kernel) rfl
theorem wt_1763 : Cond.methodLink RX12 327 yX12_isNoise ∈ dtWT := dtWT_8 83 (by decide +kernel) rfl
theorem wt_1764 : Cond.static yX12_isNoise ∈ dtWT := dtWT_8 84 (by decide +kernel) rfl
theorem wt_1765 : Cond.code yX12_isNoise cX12_isNoise 1 (some .boolean) ∈ dtWT := dtWT_8 85 (by decide +kernel) rfl
theorem wt_1766 : Cond.methodLink RX12 330 yX12_hearing ∈ dtWT := dtWT_8 86 (by decide +kernel) rfl
theorem wt_1768 : Cond.instanceMethod yX12_hearing ∈ dtWT := dtWT_8 88 (by decide +kernel) rfl
theorem wt_1769 : Cond.code yX12_hearing cX12_hearing 6 (some .int) ∈ dtWT := dtWT_8 89 (by decide +kernel) rfl
theorem wt_1770 : Cond.methodLink RX12 324 yX12_isHeard ∈ dtWT := dtWT_8 90 (by decide +kernel) rfl
theorem wt_1772 : Cond.instanceMethod yX12_isHeard ∈ dtWT := dtWT_8 92 (by decide +kernel) rfl
theorem wt_1773 : Cond.code yX12_isHeard cX12_isHeard 6 (some .boolean) ∈ dtWT := dtWT_8 93 (by decide +kernel) rfl
theorem wt_1774 : Cond.methodLink RX12 321 yX12_loud ∈ dtWT := dtWT_8 94 (by decide +kernel) rfl
theorem wt_1775 : Cond.static yX12_loud ∈ dtWT := dtWT_8 95 (by decide +kernel) rfl
theorem wt_1776 : Cond.code yX12_loud cX12_loud 1 (some .int) ∈ dtWT := dtWT_8 96 (by decide +kernel) rfl
theorem wt_1777 : Cond.methodLink RL 146 yX12_hears ∈ dtWT := dtWT_8 97 (by decide +kernel) rfl
theorem wt_1778 : Cond.instanceMethod yX12_hears ∈ dtWT := dtWT_8 98 (by decide +kernel) rfl
theorem wt_1779 : Cond.selects RX12 yX12_hears yX12_hears ∈ dtWT := dtWT_8 99 (by decide +kernel) rfl
theorem wt_1780 : Cond.code yX12_hears cX12_hears 5 (some .int) ∈ dtWT := dtWT_8 100 (by decide +kernel) rfl
theorem wt_1781 : Cond.methodLink RL 150 yX12_hush ∈ dtWT := dtWT_8 101 (by decide +kernel) rfl
theorem wt_1782 : Cond.instanceMethod yX12_hush ∈ dtWT := dtWT_8 102 (by decide +kernel) rfl
theorem wt_1783 : Cond.selects RX12 yX12_hush yX12_hush ∈ dtWT := dtWT_8 103 (by decide +kernel) rfl
theorem wt_1784 : Cond.code yX12_hush cX12_hush 5 (some .int) ∈ dtWT := dtWT_8 104 (by decide +kernel) rfl
theorem wt_1785 : Cond.methodLink RL 155 yX12_secret ∈ dtWT := dtWT_8 105 (by decide +kernel) rfl
theorem wt_1786 : Cond.instanceMethod yX12_secret ∈ dtWT := dtWT_8 106 (by decide +kernel) rfl
theorem wt_1787 : Cond.selects RX12 yX12_secret yX12_secret ∈ dtWT := dtWT_8 107 (by decide +kernel) rfl
theorem wt_1788 : Cond.code yX12_secret cX12_secret 8 (some .int) ∈ dtWT := dtWT_8 108 (by decide +kernel) rfl
theorem wt_1789 : Cond.methodLink RX12 334 yX12_reaches ∈ dtWT := dtWT_8 109 (by decide +kernel) rfl
theorem wt_1791 : Cond.instanceMethod yX12_reaches ∈ dtWT := dtWT_8 111 (by decide +kernel) rfl
theorem wt_1792 : Cond.code yX12_reaches cX12_reaches 7 (some .int) ∈ dtWT := dtWT_8 112 (by decide +kernel) rfl
theorem wt_1793 : Cond.methodLink RX12 337 yX12_isAt ∈ dtWT := dtWT_8 113 (by decide +kernel) rfl
theorem wt_1795 : Cond.instanceMethod yX12_isAt ∈ dtWT := dtWT_8 115 (by decide +kernel) rfl
theorem wt_1796 : Cond.code yX12_isAt cX12_isAt 3 (some .boolean) ∈ dtWT := dtWT_8 116 (by decide +kernel) rfl
theorem wt_1797 : Cond.methodLink RL 96 yX12_close ∈ dtWT := dtWT_8 117 (by decide +kernel) rfl
theorem wt_1798 : Cond.instanceMethod yX12_close ∈ dtWT := dtWT_8 118 (by decide +kernel) rfl
theorem wt_1799 : Cond.selects RX12 yX12_close yX12_close ∈ dtWT := dtWT_8 119 (by decide +kernel) rfl
theorem wt_1800 : Cond.code yX12_close cX12_close 5 (some .int) ∈ dtWT := dtWT_8 120 (by decide +kernel) rfl
theorem wt_1801 : Cond.methodLink RX12 349 yX12_closes ∈ dtWT := dtWT_8 121 (by decide +kernel) rfl
theorem wt_1803 : Cond.instanceMethod yX12_closes ∈ dtWT := dtWT_8 123 (by decide +kernel) rfl
theorem wt_1804 : Cond.code yX12_closes cX12_closes 5 (some .int) ∈ dtWT := dtWT_8 124 (by decide +kernel) rfl
theorem wt_1805 : Cond.methodLink RX12 343 yX12_isBy ∈ dtWT := dtWT_8 125 (by decide +kernel) rfl
theorem wt_1807 : Cond.instanceMethod yX12_isBy ∈ dtWT := dtWT_8 127 (by decide +kernel) rfl
theorem wt_1808 : Cond.code yX12_isBy cX12_isBy 3 (some .boolean) ∈ dtWT := dtWT_8 128 (by decide +kernel) rfl
theorem wt_1809 : Cond.methodLink RX12 346 yX12_sounds ∈ dtWT := dtWT_8 129 (by decide +kernel) rfl
theorem wt_1811 : Cond.instanceMethod yX12_sounds ∈ dtWT := dtWT_8 131 (by decide +kernel) rfl
theorem wt_1812 : Cond.code yX12_sounds cX12_sounds 6 (some .int) ∈ dtWT := dtWT_8 132 (by decide +kernel) rfl
theorem wt_1813 : Cond.methodLink RX12 340 yX12_keepsSound ∈ dtWT := dtWT_8 133 (by decide +kernel) rfl
theorem wt_1815 : Cond.instanceMethod yX12_keepsSound ∈ dtWT := dtWT_8 135 (by decide +kernel) rfl
theorem wt_1816 : Cond.code yX12_keepsSound cX12_keepsSound 5 none ∈ dtWT := dtWT_8 136 (by decide +kernel) rfl
theorem wt_1817 : Cond.methodLink RL 100 yX12_open ∈ dtWT := dtWT_8 137 (by decide +kernel) rfl
theorem wt_1818 : Cond.instanceMethod yX12_open ∈ dtWT := dtWT_8 138 (by decide +kernel) rfl
theorem wt_1819 : Cond.selects RX12 yX12_open yX12_open ∈ dtWT := dtWT_8 139 (by decide +kernel) rfl
theorem wt_1820 : Cond.code yX12_open cX12_open 3 (some .int) ∈ dtWT := dtWT_8 140 (by decide +kernel) rfl
theorem wt_1821 : Cond.methodLink RX12 352 yX12_opens ∈ dtWT := dtWT_8 141 (by decide +kernel) rfl
theorem wt_1823 : Cond.instanceMethod yX12_opens ∈ dtWT := dtWT_8 143 (by decide +kernel) rfl
theorem wt_1824 : Cond.code yX12_opens cX12_opens 3 (some .boolean) ∈ dtWT := dtWT_8 144 (by decide +kernel) rfl
theorem wt_1825 : Cond.methodLink RX12 355 yX12_bits ∈ dtWT := dtWT_8 145 (by decide +kernel) rfl
theorem wt_1826 : Cond.static yX12_bits ∈ dtWT := dtWT_8 146 (by decide +kernel) rfl
theorem wt_1827 : Cond.code yX12_bits cX12_bits 3 (some .int) ∈ dtWT := dtWT_8 147 (by decide +kernel) rfl
theorem wt_1828 : Cond.methodLink RL 104 yX12_go ∈ dtWT := dtWT_8 148 (by decide +kernel) rfl
theorem wt_1829 : Cond.instanceMethod yX12_go ∈ dtWT := dtWT_8 149 (by decide +kernel) rfl
theorem wt_1830 : Cond.selects RX12 yX12_go yX12_go ∈ dtWT := dtWT_8 150 (by decide +kernel) rfl
theorem wt_1831 : Cond.code yX12_go cX12_go 3 (some .int) ∈ dtWT := dtWT_8 151 (by decide +kernel) rfl
theorem wt_1832 : Cond.methodLink RX12 358 yX12_goes ∈ dtWT := dtWT_8 152 (by decide +kernel) rfl
theorem wt_1834 : Cond.instanceMethod yX12_goes ∈ dtWT := dtWT_8 154 (by decide +kernel) rfl
theorem wt_1835 : Cond.code yX12_goes cX12_goes 3 (some .boolean) ∈ dtWT := dtWT_8 155 (by decide +kernel) rfl
theorem wt_1836 : Cond.methodLink RL 108 yX12_forget ∈ dtWT := dtWT_8 156 (by decide +kernel) rfl
theorem wt_1837 : Cond.instanceMethod yX12_forget ∈ dtWT := dtWT_8 157 (by decide +kernel) rfl
theorem wt_1838 : Cond.selects RX12 yX12_forget yX12_forget ∈ dtWT := dtWT_8 158 (by decide +kernel) rfl
theorem wt_1839 : Cond.code yX12_forget cX12_forget 3 (some .int) ∈ dtWT := dtWT_8 159 (by decide +kernel) rfl
theorem wt_1840 : Cond.methodLink RX12 361 yX12_forgets ∈ dtWT := dtWT_8 160 (by decide +kernel) rfl
theorem wt_1842 : Cond.instanceMethod yX12_forgets ∈ dtWT := dtWT_8 162 (by decide +kernel) rfl
theorem wt_1843 : Cond.code yX12_forgets cX12_forgets 5 (some .int) ∈ dtWT := dtWT_8 163 (by decide +kernel) rfl
theorem wt_1844 : Cond.methodLink RL 113 yX12_teach ∈ dtWT := dtWT_8 164 (by decide +kernel) rfl
theorem wt_1845 : Cond.instanceMethod yX12_teach ∈ dtWT := dtWT_8 165 (by decide +kernel) rfl
theorem wt_1846 : Cond.selects RX12 yX12_teach yX12_teach ∈ dtWT := dtWT_8 166 (by decide +kernel) rfl
theorem wt_1847 : Cond.code yX12_teach cX12_teach 4 (some .boolean) ∈ dtWT := dtWT_8 167 (by decide +kernel) rfl
theorem wt_1848 : Cond.methodLink RL 117 yX12_coin ∈ dtWT := dtWT_8 168 (by decide +kernel) rfl
theorem wt_1849 : Cond.instanceMethod yX12_coin ∈ dtWT := dtWT_8 169 (by decide +kernel) rfl
theorem wt_1850 : Cond.selects RX12 yX12_coin yX12_coin ∈ dtWT := dtWT_8 170 (by decide +kernel) rfl
theorem wt_1851 : Cond.code yX12_coin cX12_coin 6 (some .int) ∈ dtWT := dtWT_8 171 (by decide +kernel) rfl
theorem wt_1852 : Cond.constantLong RX12 364 (4) ∈ dtWT := dtWT_8 172 (by decide +kernel) rfl
theorem wt_1853 : Cond.methodLink RX12 366 yX12_isFrom ∈ dtWT := dtWT_8 173 (by decide +kernel) rfl
theorem wt_1854 : Cond.static yX12_isFrom ∈ dtWT := dtWT_8 174 (by decide +kernel) rfl
theorem wt_1855 : Cond.code yX12_isFrom cX12_isFrom 6 (some .boolean) ∈ dtWT := dtWT_8 175 (by decide +kernel) rfl
theorem wt_1856 : Cond.constantLong RX12 370 (3) ∈ dtWT := dtWT_8 176 (by decide +kernel) rfl
theorem wt_1857 : Cond.methodLink RL 121 yX12_come ∈ dtWT := dtWT_8 177 (by decide +kernel) rfl
theorem wt_1858 : Cond.instanceMethod yX12_come ∈ dtWT := dtWT_8 178 (by decide +kernel) rfl
theorem wt_1859 : Cond.selects RX12 yX12_come yX12_come ∈ dtWT := dtWT_8 179 (by decide +kernel) rfl
theorem wt_1860 : Cond.code yX12_come cX12_come 4 (some .int) ∈ dtWT := dtWT_8 180 (by decide +kernel) rfl
theorem wt_1861 : Cond.methodLink RL 125 yX12_line ∈ dtWT := dtWT_8 181 (by decide +kernel) rfl
theorem wt_1862 : Cond.instanceMethod yX12_line ∈ dtWT := dtWT_8 182 (by decide +kernel) rfl
theorem wt_1863 : Cond.selects RX12 yX12_line yX12_line ∈ dtWT := dtWT_8 183 (by decide +kernel) rfl
theorem wt_1864 : Cond.code yX12_line cX12_line 4 (some .int) ∈ dtWT := dtWT_8 184 (by decide +kernel) rfl
theorem wt_1865 : Cond.constantLong RX12 372 (9) ∈ dtWT := dtWT_8 185 (by decide +kernel) rfl
theorem wt_1866 : Cond.methodLink RL 129 yX12_deafen ∈ dtWT := dtWT_8 186 (by decide +kernel) rfl
theorem wt_1867 : Cond.instanceMethod yX12_deafen ∈ dtWT := dtWT_8 187 (by decide +kernel) rfl
theorem wt_1868 : Cond.selects RX12 yX12_deafen yX12_deafen ∈ dtWT := dtWT_8 188 (by decide +kernel) rfl
theorem wt_1869 : Cond.code yX12_deafen cX12_deafen 4 (some .int) ∈ dtWT := dtWT_8 189 (by decide +kernel) rfl
theorem wt_1870 : Cond.methodLink RL 134 yX12_rule ∈ dtWT := dtWT_8 190 (by decide +kernel) rfl
theorem wt_1871 : Cond.instanceMethod yX12_rule ∈ dtWT := dtWT_8 191 (by decide +kernel) rfl
theorem wt_1872 : Cond.selects RX12 yX12_rule yX12_rule ∈ dtWT := dtWT_8 192 (by decide +kernel) rfl
theorem wt_1873 : Cond.code yX12_rule cX12_rule 2 (some .boolean) ∈ dtWT := dtWT_8 193 (by decide +kernel) rfl
theorem wt_1874 : Cond.constantLong RX12 374 (16) ∈ dtWT := dtWT_8 194 (by decide +kernel) rfl
theorem wt_1875 : Cond.methodLink RL 159 yX12_readings ∈ dtWT := dtWT_8 195 (by decide +kernel) rfl
theorem wt_1876 : Cond.instanceMethod yX12_readings ∈ dtWT := dtWT_8 196 (by decide +kernel) rfl
theorem wt_1877 : Cond.selects RX12 yX12_readings yX12_readings ∈ dtWT := dtWT_8 197 (by decide +kernel) rfl
theorem wt_1878 : Cond.code yX12_readings cX12_readings 2 (some .int) ∈ dtWT := dtWT_8 198 (by decide +kernel) rfl
theorem wt_1879 : Cond.methodLink RX12 385 yX12_laysHeard ∈ dtWT := dtWT_8 199 (by decide +kernel) rfl
theorem wt_1881 : Cond.instanceMethod yX12_laysHeard ∈ dtWT := dtWT_8 201 (by decide +kernel) rfl
theorem wt_1882 : Cond.code yX12_laysHeard cX12_laysHeard 3 (some .int) ∈ dtWT := dtWT_8 202 (by decide +kernel) rfl
theorem wt_1883 : Cond.methodLink RX12 382 yX12_laysReadings ∈ dtWT := dtWT_8 203 (by decide +kernel) rfl
theorem wt_1885 : Cond.instanceMethod yX12_laysReadings ∈ dtWT := dtWT_8 205 (by decide +kernel) rfl
theorem wt_1886 : Cond.code yX12_laysReadings cX12_laysReadings 4 (some .int) ∈ dtWT := dtWT_8 206 (by decide +kernel) rfl
theorem wt_1887 : Cond.methodLink RX12 379 yX12_isSaid ∈ dtWT := dtWT_8 207 (by decide +kernel) rfl
theorem wt_1889 : Cond.instanceMethod yX12_isSaid ∈ dtWT := dtWT_8 209 (by decide +kernel) rfl
theorem wt_1890 : Cond.code yX12_isSaid cX12_isSaid 5 (some .boolean) ∈ dtWT := dtWT_8 210 (by decide +kernel) rfl
theorem wt_1891 : Cond.methodLink RL 163 yX12_first ∈ dtWT := dtWT_8 211 (by decide +kernel) rfl
theorem wt_1892 : Cond.instanceMethod yX12_first ∈ dtWT := dtWT_8 212 (by decide +kernel) rfl
theorem wt_1893 : Cond.selects RX12 yX12_first yX12_first ∈ dtWT := dtWT_8 213 (by decide +kernel) rfl
theorem wt_1894 : Cond.code yX12_first cX12_first 4 (some .int) ∈ dtWT := dtWT_8 214 (by decide +kernel) rfl
theorem wt_1895 : Cond.methodLink RX12 388 yX12_firstWord ∈ dtWT := dtWT_8 215 (by decide +kernel) rfl
theorem wt_1897 : Cond.instanceMethod yX12_firstWord ∈ dtWT := dtWT_8 217 (by decide +kernel) rfl
theorem wt_1898 : Cond.code yX12_firstWord cX12_firstWord 4 (some .int) ∈ dtWT := dtWT_8 218 (by decide +kernel) rfl
theorem wt_1899 : Cond.methodLink RL 167 yX12_firstAt ∈ dtWT := dtWT_8 219 (by decide +kernel) rfl
theorem wt_1900 : Cond.instanceMethod yX12_firstAt ∈ dtWT := dtWT_8 220 (by decide +kernel) rfl
theorem wt_1901 : Cond.selects RX12 yX12_firstAt yX12_firstAt ∈ dtWT := dtWT_8 221 (by decide +kernel) rfl
theorem wt_1902 : Cond.code yX12_firstAt cX12_firstAt 6 (some .int) ∈ dtWT := dtWT_8 222 (by decide +kernel) rfl
theorem wt_1903 : Cond.methodLink RL 171 yX12_means ∈ dtWT := dtWT_8 223 (by decide +kernel) rfl
theorem wt_1904 : Cond.instanceMethod yX12_means ∈ dtWT := dtWT_8 224 (by decide +kernel) rfl
theorem wt_1905 : Cond.selects RX12 yX12_means yX12_means ∈ dtWT := dtWT_8 225 (by decide +kernel) rfl
theorem wt_1906 : Cond.code yX12_means cX12_means 6 (some .int) ∈ dtWT := dtWT_8 226 (by decide +kernel) rfl
theorem wt_1907 : Cond.methodLink RX12 391 yX12_wrongRow ∈ dtWT := dtWT_8 227 (by decide +kernel) rfl
theorem wt_1909 : Cond.instanceMethod yX12_wrongRow ∈ dtWT := dtWT_8 229 (by decide +kernel) rfl
theorem wt_1910 : Cond.code yX12_wrongRow cX12_wrongRow 7 (some .int) ∈ dtWT := dtWT_8 230 (by decide +kernel) rfl
theorem wt_1911 : Cond.methodLink RL 175 yX12_unsaid ∈ dtWT := dtWT_8 231 (by decide +kernel) rfl
theorem wt_1912 : Cond.instanceMethod yX12_unsaid ∈ dtWT := dtWT_8 232 (by decide +kernel) rfl
theorem wt_1913 : Cond.selects RX12 yX12_unsaid yX12_unsaid ∈ dtWT := dtWT_8 233 (by decide +kernel) rfl
theorem wt_1914 : Cond.code yX12_unsaid cX12_unsaid 6 (some .int) ∈ dtWT := dtWT_8 234 (by decide +kernel) rfl
theorem wt_1915 : Cond.methodLink RX12 395 yX12_utters ∈ dtWT := dtWT_8 235 (by decide +kernel) rfl
theorem wt_1917 : Cond.instanceMethod yX12_utters ∈ dtWT := dtWT_8 237 (by decide +kernel) rfl
theorem wt_1918 : Cond.code yX12_utters cX12_utters 3 none ∈ dtWT := dtWT_8 238 (by decide +kernel) rfl
theorem wt_1919 : Cond.methodLink RL 179 yX12_doubt ∈ dtWT := dtWT_8 239 (by decide +kernel) rfl
theorem wt_1920 : Cond.instanceMethod yX12_doubt ∈ dtWT := dtWT_9 0 (by decide +kernel) rfl
theorem wt_1921 : Cond.selects RX12 yX12_doubt yX12_doubt ∈ dtWT := dtWT_9 1 (by decide +kernel) rfl
theorem wt_1922 : Cond.code yX12_doubt cX12_doubt 2 (some .int) ∈ dtWT := dtWT_9 2 (by decide +kernel) rfl
theorem wt_1923 : Cond.methodLink RX12 398 yX12_laysDoubt ∈ dtWT := dtWT_9 3 (by decide +kernel) rfl
theorem wt_1925 : Cond.instanceMethod yX12_laysDoubt ∈ dtWT := dtWT_9 5 (by decide +kernel) rfl
theorem wt_1926 : Cond.code yX12_laysDoubt cX12_laysDoubt 7 (some .boolean) ∈ dtWT := dtWT_9 6 (by decide +kernel) rfl
theorem wt_1927 : Cond.methodLink RL 183 yX12_doubtAt ∈ dtWT := dtWT_9 7 (by decide +kernel) rfl
theorem wt_1928 : Cond.instanceMethod yX12_doubtAt ∈ dtWT := dtWT_9 8 (by decide +kernel) rfl
theorem wt_1929 : Cond.selects RX12 yX12_doubtAt yX12_doubtAt ∈ dtWT := dtWT_9 9 (by decide +kernel) rfl
theorem wt_1930 : Cond.code yX12_doubtAt cX12_doubtAt 3 (some .int) ∈ dtWT := dtWT_9 10 (by decide +kernel) rfl
theorem wt_1931 : Cond.methodLink RL 187 yX12_shared ∈ dtWT := dtWT_9 11 (by decide +kernel) rfl
theorem wt_1932 : Cond.instanceMethod yX12_shared ∈ dtWT := dtWT_9 12 (by decide +kernel) rfl
theorem wt_1933 : Cond.selects RX12 yX12_shared yX12_shared ∈ dtWT := dtWT_9 13 (by decide +kernel) rfl
theorem wt_1934 : Cond.code yX12_shared cX12_shared 5 (some .int) ∈ dtWT := dtWT_9 14 (by decide +kernel) rfl
theorem wt_1935 : Cond.methodLink RL 191 yX12_far ∈ dtWT := dtWT_9 15 (by decide +kernel) rfl
theorem wt_1936 : Cond.instanceMethod yX12_far ∈ dtWT := dtWT_9 16 (by decide +kernel) rfl
theorem wt_1937 : Cond.selects RX12 yX12_far yX12_far ∈ dtWT := dtWT_9 17 (by decide +kernel) rfl
theorem wt_1938 : Cond.code yX12_far cX12_far 3 (some .int) ∈ dtWT := dtWT_9 18 (by decide +kernel) rfl
theorem wt_1939 : Cond.methodLink RX12 401 yX12_laysFar ∈ dtWT := dtWT_9 19 (by decide +kernel) rfl
theorem wt_1941 : Cond.instanceMethod yX12_laysFar ∈ dtWT := dtWT_9 21 (by decide +kernel) rfl
theorem wt_1942 : Cond.code yX12_laysFar cX12_laysFar 6 none ∈ dtWT := dtWT_9 22 (by decide +kernel) rfl
theorem wt_1943 : Cond.methodLink RL 195 yX12_way ∈ dtWT := dtWT_9 23 (by decide +kernel) rfl
theorem wt_1944 : Cond.instanceMethod yX12_way ∈ dtWT := dtWT_9 24 (by decide +kernel) rfl
theorem wt_1945 : Cond.selects RX12 yX12_way yX12_way ∈ dtWT := dtWT_9 25 (by decide +kernel) rfl
theorem wt_1946 : Cond.code yX12_way cX12_way 6 (some .int) ∈ dtWT := dtWT_9 26 (by decide +kernel) rfl
theorem wt_1947 : Cond.methodLink RX12 404 yX12_nextTo ∈ dtWT := dtWT_9 27 (by decide +kernel) rfl
theorem wt_1949 : Cond.instanceMethod yX12_nextTo ∈ dtWT := dtWT_9 29 (by decide +kernel) rfl
theorem wt_1950 : Cond.code yX12_nextTo cX12_nextTo 5 (some .int) ∈ dtWT := dtWT_9 30 (by decide +kernel) rfl
theorem wt_1951 : Cond.methodLink RL 199 yX12_part ∈ dtWT := dtWT_9 31 (by decide +kernel) rfl
theorem wt_1952 : Cond.instanceMethod yX12_part ∈ dtWT := dtWT_9 32 (by decide +kernel) rfl
theorem wt_1953 : Cond.selects RX12 yX12_part yX12_part ∈ dtWT := dtWT_9 33 (by decide +kernel) rfl
theorem wt_1954 : Cond.code yX12_part cX12_part 2 (some .int) ∈ dtWT := dtWT_9 34 (by decide +kernel) rfl
theorem wt_1955 : Cond.methodLink RL 203 yX12_apart ∈ dtWT := dtWT_9 35 (by decide +kernel) rfl
theorem wt_1956 : Cond.instanceMethod yX12_apart ∈ dtWT := dtWT_9 36 (by decide +kernel) rfl
theorem wt_1957 : Cond.selects RX12 yX12_apart yX12_apart ∈ dtWT := dtWT_9 37 (by decide +kernel) rfl
theorem wt_1958 : Cond.code yX12_apart cX12_apart 4 (some .int) ∈ dtWT := dtWT_9 38 (by decide +kernel) rfl
theorem wt_1959 : Cond.methodLink RX12 407 yX12_areTwo ∈ dtWT := dtWT_9 39 (by decide +kernel) rfl
theorem wt_1961 : Cond.instanceMethod yX12_areTwo ∈ dtWT := dtWT_9 41 (by decide +kernel) rfl
theorem wt_1962 : Cond.code yX12_areTwo cX12_areTwo 3 (some .boolean) ∈ dtWT := dtWT_9 42 (by decide +kernel) rfl
theorem wt_1963 : Cond.methodLink RX12 410 yX12_doorsBetween ∈ dtWT := dtWT_9 43 (by decide +kernel) rfl
theorem wt_1965 : Cond.instanceMethod yX12_doorsBetween ∈ dtWT := dtWT_9 45 (by decide +kernel) rfl
theorem wt_1966 : Cond.code yX12_doorsBetween cX12_doorsBetween 8 (some .int) ∈ dtWT := dtWT_9 46 (by decide +kernel) rfl
theorem wt_1967 : Cond.methodLink RL 207 yX12_apartSet ∈ dtWT := dtWT_9 47 (by decide +kernel) rfl
theorem wt_1968 : Cond.instanceMethod yX12_apartSet ∈ dtWT := dtWT_9 48 (by decide +kernel) rfl
theorem wt_1969 : Cond.selects RX12 yX12_apartSet yX12_apartSet ∈ dtWT := dtWT_9 49 (by decide +kernel) rfl
theorem wt_1970 : Cond.code yX12_apartSet cX12_apartSet 3 (some .int) ∈ dtWT := dtWT_9 50 (by decide +kernel) rfl
theorem wt_1971 : Cond.methodLink RX12 414 yX12_orNone ∈ dtWT := dtWT_9 51 (by decide +kernel) rfl
theorem wt_1973 : Cond.instanceMethod yX12_orNone ∈ dtWT := dtWT_9 53 (by decide +kernel) rfl
theorem wt_1974 : Cond.code yX12_orNone cX12_orNone 2 (some .int) ∈ dtWT := dtWT_9 54 (by decide +kernel) rfl
theorem wt_1975 : Cond.methodLink RL 211 yX12_together ∈ dtWT := dtWT_9 55 (by decide +kernel) rfl
theorem wt_1976 : Cond.instanceMethod yX12_together ∈ dtWT := dtWT_9 56 (by decide +kernel) rfl
theorem wt_1977 : Cond.selects RX12 yX12_together yX12_together ∈ dtWT := dtWT_9 57 (by decide +kernel) rfl
theorem wt_1978 : Cond.code yX12_together cX12_together 4 (some .int) ∈ dtWT := dtWT_9 58 (by decide +kernel) rfl
theorem wt_1979 : Cond.methodLink RL 215 yX12_culprits ∈ dtWT := dtWT_9 59 (by decide +kernel) rfl
theorem wt_1980 : Cond.instanceMethod yX12_culprits ∈ dtWT := dtWT_9 60 (by decide +kernel) rfl
theorem wt_1981 : Cond.selects RX12 yX12_culprits yX12_culprits ∈ dtWT := dtWT_9 61 (by decide +kernel) rfl
theorem wt_1982 : Cond.code yX12_culprits cX12_culprits 7 (some .int) ∈ dtWT := dtWT_9 62 (by decide +kernel) rfl
theorem wt_1983 : Cond.constantLong RX12 417 (6) ∈ dtWT := dtWT_9 63 (by decide +kernel) rfl
theorem wt_1984 : Cond.methodLink RX12 419 yX12_canHave ∈ dtWT := dtWT_9 64 (by decide +kernel) rfl
theorem wt_1986 : Cond.instanceMethod yX12_canHave ∈ dtWT := dtWT_9 66 (by decide +kernel) rfl
theorem wt_1987 : Cond.code yX12_canHave cX12_canHave 8 (some .boolean) ∈ dtWT := dtWT_9 67 (by decide +kernel) rfl
theorem wt_1988 : Cond.methodLink RL 219 yX12_game ∈ dtWT := dtWT_9 68 (by decide +kernel) rfl
theorem wt_1989 : Cond.instanceMethod yX12_game ∈ dtWT := dtWT_9 69 (by decide +kernel) rfl
theorem wt_1990 : Cond.selects RX12 yX12_game yX12_game ∈ dtWT := dtWT_9 70 (by decide +kernel) rfl
theorem wt_1991 : Cond.code yX12_game cX12_game 3 (some .int) ∈ dtWT := dtWT_9 71 (by decide +kernel) rfl
theorem wt_1992 : Cond.methodLink RX12 428 yX12_playing ∈ dtWT := dtWT_9 72 (by decide +kernel) rfl
theorem wt_1994 : Cond.instanceMethod yX12_playing ∈ dtWT := dtWT_9 74 (by decide +kernel) rfl
theorem wt_1995 : Cond.code yX12_playing cX12_playing 6 (some .int) ∈ dtWT := dtWT_9 75 (by decide +kernel) rfl
theorem wt_1996 : Cond.methodLink RX12 422 yX12_roomsBy ∈ dtWT := dtWT_9 76 (by decide +kernel) rfl
theorem wt_1998 : Cond.instanceMethod yX12_roomsBy ∈ dtWT := dtWT_9 78 (by decide +kernel) rfl
theorem wt_1999 : Cond.code yX12_roomsBy cX12_roomsBy 3 (some .int) ∈ dtWT := dtWT_9 79 (by decide +kernel) rfl
theorem wt_2000 : Cond.methodLink RX12 425 yX12_settles ∈ dtWT := dtWT_9 80 (by decide +kernel) rfl
theorem wt_2002 : Cond.instanceMethod yX12_settles ∈ dtWT := dtWT_9 82 (by decide +kernel) rfl
theorem wt_2003 : Cond.code yX12_settles cX12_settles 4 none ∈ dtWT := dtWT_9 83 (by decide +kernel) rfl
theorem wt_2004 : Cond.methodLink RL 223 yX12_moveOf ∈ dtWT := dtWT_9 84 (by decide +kernel) rfl
theorem wt_2005 : Cond.instanceMethod yX12_moveOf ∈ dtWT := dtWT_9 85 (by decide +kernel) rfl
theorem wt_2006 : Cond.selects RX12 yX12_moveOf yX12_moveOf ∈ dtWT := dtWT_9 86 (by decide +kernel) rfl
theorem wt_2007 : Cond.code yX12_moveOf cX12_moveOf 3 (some .int) ∈ dtWT := dtWT_9 87 (by decide +kernel) rfl
theorem wt_2008 : Cond.methodLink RL 228 yX12_gale ∈ dtWT := dtWT_9 88 (by decide +kernel) rfl
theorem wt_2009 : Cond.instanceMethod yX12_gale ∈ dtWT := dtWT_9 89 (by decide +kernel) rfl
theorem wt_2010 : Cond.selects RX12 yX12_gale yX12_gale ∈ dtWT := dtWT_9 90 (by decide +kernel) rfl
theorem wt_2011 : Cond.code yX12_gale cX12_gale 8 (some .boolean) ∈ dtWT := dtWT_9 91 (by decide +kernel) rfl
theorem wt_2012 : Cond.constantLong RX12 431 (12) ∈ dtWT := dtWT_9 92 (by decide +kernel) rfl
theorem wt_2013 : Cond.methodLink RX12 433 yX12_tellsBy ∈ dtWT := dtWT_9 93 (by decide +kernel) rfl
theorem wt_2015 : Cond.instanceMethod yX12_tellsBy ∈ dtWT := dtWT_9 95 (by decide +kernel) rfl
theorem wt_2016 : Cond.code yX12_tellsBy cX12_tellsBy 11 (some .boolean) ∈ dtWT := dtWT_9 96 (by decide +kernel) rfl
theorem wt_2017 : Cond.methodLink RL 232 yX12_copyRooms ∈ dtWT := dtWT_9 97 (by decide +kernel) rfl
theorem wt_2018 : Cond.instanceMethod yX12_copyRooms ∈ dtWT := dtWT_9 98 (by decide +kernel) rfl
theorem wt_2019 : Cond.selects RX12 yX12_copyRooms yX12_copyRooms ∈ dtWT := dtWT_9 99 (by decide +kernel) rfl
theorem wt_2020 : Cond.code yX12_copyRooms cX12_copyRooms 3 (some .int) ∈ dtWT := dtWT_9 100 (by decide +kernel) rfl
theorem wt_2021 : Cond.methodLink RL 236 yX12_live ∈ dtWT := dtWT_9 101 (by decide +kernel) rfl
theorem wt_2022 : Cond.instanceMethod yX12_live ∈ dtWT := dtWT_9 102 (by decide +kernel) rfl
theorem wt_2023 : Cond.selects RX12 yX12_live yX12_live ∈ dtWT := dtWT_9 103 (by decide +kernel) rfl
theorem wt_2024 : Cond.code yX12_live cX12_live 3 (some .int) ∈ dtWT := dtWT_9 104 (by decide +kernel) rfl
theorem wt_2025 : Cond.constantLong RX12 468 (9999) ∈ dtWT := dtWT_9 105 (by decide +kernel) rfl
theorem wt_2026 : Cond.methodLink RX12 470 yX12_lives ∈ dtWT := dtWT_9 106 (by decide +kernel) rfl
theorem wt_2028 : Cond.instanceMethod yX12_lives ∈ dtWT := dtWT_9 108 (by decide +kernel) rfl
theorem wt_2029 : Cond.code yX12_lives cX12_lives 4 none ∈ dtWT := dtWT_9 109 (by decide +kernel) rfl
theorem wt_2030 : Cond.methodLink RX12 459 yX12_does ∈ dtWT := dtWT_9 110 (by decide +kernel) rfl
theorem wt_2032 : Cond.instanceMethod yX12_does ∈ dtWT := dtWT_9 112 (by decide +kernel) rfl
theorem wt_2033 : Cond.code yX12_does cX12_does 4 (some .boolean) ∈ dtWT := dtWT_9 113 (by decide +kernel) rfl
theorem wt_2034 : Cond.methodLink RX12 447 yX12_closesBy ∈ dtWT := dtWT_9 114 (by decide +kernel) rfl
theorem wt_2036 : Cond.instanceMethod yX12_closesBy ∈ dtWT := dtWT_9 116 (by decide +kernel) rfl
theorem wt_2037 : Cond.code yX12_closesBy cX12_closesBy 5 (some .boolean) ∈ dtWT := dtWT_9 117 (by decide +kernel) rfl
theorem wt_2038 : Cond.methodLink RX12 441 yX12_counts ∈ dtWT := dtWT_9 118 (by decide +kernel) rfl
theorem wt_2040 : Cond.instanceMethod yX12_counts ∈ dtWT := dtWT_9 120 (by decide +kernel) rfl
theorem wt_2041 : Cond.code yX12_counts cX12_counts 2 none ∈ dtWT := dtWT_9 121 (by decide +kernel) rfl
theorem wt_2042 : Cond.methodLink RX12 450 yX12_goesBy ∈ dtWT := dtWT_9 122 (by decide +kernel) rfl
theorem wt_2044 : Cond.instanceMethod yX12_goesBy ∈ dtWT := dtWT_9 124 (by decide +kernel) rfl
theorem wt_2045 : Cond.code yX12_goesBy cX12_goesBy 3 (some .boolean) ∈ dtWT := dtWT_9 125 (by decide +kernel) rfl
theorem wt_2046 : Cond.methodLink RX12 453 yX12_blows ∈ dtWT := dtWT_9 126 (by decide +kernel) rfl
theorem wt_2048 : Cond.instanceMethod yX12_blows ∈ dtWT := dtWT_9 128 (by decide +kernel) rfl
theorem wt_2049 : Cond.code yX12_blows cX12_blows 2 (some .boolean) ∈ dtWT := dtWT_9 129 (by decide +kernel) rfl
theorem wt_2050 : Cond.methodLink RX12 444 yX12_draw ∈ dtWT := dtWT_9 130 (by decide +kernel) rfl
theorem wt_2052 : Cond.instanceMethod yX12_draw ∈ dtWT := dtWT_9 132 (by decide +kernel) rfl
theorem wt_2053 : Cond.code yX12_draw cX12_draw 2 (some .int) ∈ dtWT := dtWT_9 133 (by decide +kernel) rfl
theorem wt_2054 : Cond.constant RX12 440 (65536) ∈ dtWT := dtWT_9 134 (by decide +kernel) rfl
theorem wt_2055 : Cond.methodLink RX12 462 yX12_holds ∈ dtWT := dtWT_9 135 (by decide +kernel) rfl
theorem wt_2057 : Cond.instanceMethod yX12_holds ∈ dtWT := dtWT_9 137 (by decide +kernel) rfl
theorem wt_2058 : Cond.code yX12_holds cX12_holds 5 (some .boolean) ∈ dtWT := dtWT_9 138 (by decide +kernel) rfl
theorem wt_2059 : Cond.methodLink RX12 465 yX12_behindEnds ∈ dtWT := dtWT_9 139 (by decide +kernel) rfl
theorem wt_2061 : Cond.instanceMethod yX12_behindEnds ∈ dtWT := dtWT_9 141 (by decide +kernel) rfl
theorem wt_2062 : Cond.code yX12_behindEnds cX12_behindEnds 5 (some .int) ∈ dtWT := dtWT_9 142 (by decide +kernel) rfl
theorem wt_2063 : Cond.methodLink RL 240 yX12_lived ∈ dtWT := dtWT_9 143 (by decide +kernel) rfl
theorem wt_2064 : Cond.instanceMethod yX12_lived ∈ dtWT := dtWT_9 144 (by decide +kernel) rfl
theorem wt_2065 : Cond.selects RX12 yX12_lived yX12_lived ∈ dtWT := dtWT_9 145 (by decide +kernel) rfl
theorem wt_2066 : Cond.code yX12_lived cX12_lived 2 (some .int) ∈ dtWT := dtWT_9 146 (by decide +kernel) rfl
theorem wt_2067 : Cond.methodLink RL 244 yX12_mean ∈ dtWT := dtWT_9 147 (by decide +kernel) rfl
theorem wt_2068 : Cond.instanceMethod yX12_mean ∈ dtWT := dtWT_9 148 (by decide +kernel) rfl
theorem wt_2069 : Cond.selects RX12 yX12_mean yX12_mean ∈ dtWT := dtWT_9 149 (by decide +kernel) rfl
theorem wt_2070 : Cond.code yX12_mean cX12_mean 7 (some .boolean) ∈ dtWT := dtWT_9 150 (by decide +kernel) rfl
theorem wt_2071 : Cond.constantLong RX12 477 (20) ∈ dtWT := dtWT_9 151 (by decide +kernel) rfl
theorem wt_2072 : Cond.methodLink RL 248 yX12_mark ∈ dtWT := dtWT_9 152 (by decide +kernel) rfl
theorem wt_2073 : Cond.instanceMethod yX12_mark ∈ dtWT := dtWT_9 153 (by decide +kernel) rfl
theorem wt_2074 : Cond.selects RX12 yX12_mark yX12_mark ∈ dtWT := dtWT_9 154 (by decide +kernel) rfl
theorem wt_2075 : Cond.code yX12_mark cX12_mark 1 (some .int) ∈ dtWT := dtWT_9 155 (by decide +kernel) rfl
theorem wt_2076 : Cond.methodLink RX12 482 yX12_copies ∈ dtWT := dtWT_9 156 (by decide +kernel) rfl
theorem wt_2078 : Cond.instanceMethod yX12_copies ∈ dtWT := dtWT_9 158 (by decide +kernel) rfl
theorem wt_2079 : Cond.code yX12_copies cX12_copies 4 none ∈ dtWT := dtWT_9 159 (by decide +kernel) rfl
theorem wt_2080 : Cond.methodLink RL 252 yX12_undo ∈ dtWT := dtWT_9 160 (by decide +kernel) rfl
theorem wt_2081 : Cond.instanceMethod yX12_undo ∈ dtWT := dtWT_9 161 (by decide +kernel) rfl
theorem wt_2082 : Cond.selects RX12 yX12_undo yX12_undo ∈ dtWT := dtWT_9 162 (by decide +kernel) rfl
theorem wt_2083 : Cond.code yX12_undo cX12_undo 1 (some .int) ∈ dtWT := dtWT_9 163 (by decide +kernel) rfl
theorem wt_2084 : Cond.constantLong RL 32 (4294967295) ∈ dtWT := dtWT_9 164 (by decide +kernel) rfl
theorem wt_2085 : Cond.fieldLink RJ0 9 "java/lang/String" "value" "[B" ∈ dtWT := dtWT_9 165 (by decide +kernel) rfl
theorem wt_2086 : Cond.fieldLink RJ0 15 "java/lang/String" "coder" "B" ∈ dtWT := dtWT_9 166 (by decide +kernel) rfl
theorem ws_0 : Cond.selects RX11 yX11_refuse yX11_refuse ∈ dtWT := dtWS_1 0 (by decide +kernel) rfl
theorem ws_1 : Cond.selects RX11 yX11_agree yX11_agree ∈ dtWT := dtWS_1 1 (by decide +kernel) rfl
theorem ws_2 : Cond.selects RX11 yX11_placeStatus yX11_placeStatus ∈ dtWT := dtWS_1 2 (by decide +kernel) rfl
theorem ws_3 : Cond.selects RX11 yX11_fail yX11_fail ∈ dtWT := dtWS_1 3 (by decide +kernel) rfl
theorem ws_4 : Cond.selects RX8 yX8_isRunOf yX8_isRunOf ∈ dtWT := dtWS_1 4 (by decide +kernel) rfl
theorem ws_5 : Cond.selects RX8 yX8_findKeyword yX8_findKeyword ∈ dtWT := dtWS_1 5 (by decide +kernel) rfl
theorem ws_6 : Cond.selects RX8 yX8_nameCode yX8_nameCode ∈ dtWT := dtWS_1 6 (by decide +kernel) rfl
theorem ws_7 : Cond.selects RX8 yX8_numberValue yX8_numberValue ∈ dtWT := dtWS_1 7 (by decide +kernel) rfl
theorem ws_8 : Cond.selects RX4 yX4_readOdds yX4_readOdds ∈ dtWT := dtWS_1 8 (by decide +kernel) rfl
theorem ws_9 : Cond.selects RX4 yX4_readRoom yX4_readRoom ∈ dtWT := dtWS_1 9 (by decide +kernel) rfl
theorem ws_10 : Cond.selects RX4 yX4_passNewName yX4_passNewName ∈ dtWT := dtWS_1 10 (by decide +kernel) rfl
theorem ws_11 : Cond.selects RX4 yX4_isTaken yX4_isTaken ∈ dtWT := dtWS_1 11 (by decide +kernel) rfl
theorem ws_12 : Cond.selects RX4 yX4_readDoor yX4_readDoor ∈ dtWT := dtWS_1 12 (by decide +kernel) rfl
theorem ws_13 : Cond.selects RX4 yX4_readChoice yX4_readChoice ∈ dtWT := dtWS_1 13 (by decide +kernel) rfl
theorem ws_14 : Cond.selects RX4 yX4_readWord yX4_readWord ∈ dtWT := dtWS_1 14 (by decide +kernel) rfl
theorem ws_15 : Cond.selects RX4 yX4_readSounds yX4_readSounds ∈ dtWT := dtWS_1 15 (by decide +kernel) rfl
theorem ws_16 : Cond.selects RX3 yX3_saysTheNew yX3_saysTheNew ∈ dtWT := dtWS_2 0 (by decide +kernel) rfl
theorem ws_17 : Cond.selects RX4 yX4_readPerson yX4_readPerson ∈ dtWT := dtWS_2 1 (by decide +kernel) rfl
theorem ws_18 : Cond.selects RX4 yX4_readKnown yX4_readKnown ∈ dtWT := dtWS_2 2 (by decide +kernel) rfl
theorem ws_19 : Cond.selects RX11 yX11_answer yX11_answer ∈ dtWT := dtWS_2 3 (by decide +kernel) rfl
theorem ws_20 : Cond.selects RX1 yX1_readEnd yX1_readEnd ∈ dtWT := dtWS_2 4 (by decide +kernel) rfl
theorem ws_21 : Cond.selects RX1 yX1_beginStep yX1_beginStep ∈ dtWT := dtWS_2 5 (by decide +kernel) rfl
theorem ws_22 : Cond.selects RX1 yX1_readTest yX1_readTest ∈ dtWT := dtWS_2 6 (by decide +kernel) rfl
theorem ws_23 : Cond.selects RX1 yX1_readWho yX1_readWho ∈ dtWT := dtWS_2 7 (by decide +kernel) rfl
theorem ws_24 : Cond.selects RX1 yX1_readRoomName yX1_readRoomName ∈ dtWT := dtWS_2 8 (by decide +kernel) rfl
theorem ws_25 : Cond.selects RX1 yX1_readWhat yX1_readWhat ∈ dtWT := dtWS_2 9 (by decide +kernel) rfl
theorem ws_26 : Cond.selects RX1 yX1_readCompares yX1_readCompares ∈ dtWT := dtWS_2 10 (by decide +kernel) rfl
theorem ws_27 : Cond.selects RX1 yX1_readRest yX1_readRest ∈ dtWT := dtWS_2 11 (by decide +kernel) rfl
theorem ws_28 : Cond.selects RX1 yX1_readSound yX1_readSound ∈ dtWT := dtWS_2 12 (by decide +kernel) rfl
theorem ws_29 : Cond.selects RX2 yX2_spread yX2_spread ∈ dtWT := dtWS_2 13 (by decide +kernel) rfl
theorem ws_30 : Cond.selects RX2 yX2_comesTo yX2_comesTo ∈ dtWT := dtWS_2 14 (by decide +kernel) rfl
theorem ws_31 : Cond.selects RX11 yX11_runStatus yX11_runStatus ∈ dtWT := dtWS_2 15 (by decide +kernel) rfl
theorem ws_32 : Cond.selects RX11 yX11_found yX11_found ∈ dtWT := dtWS_3 0 (by decide +kernel) rfl
theorem ws_33 : Cond.selects RX11 yX11_areTwo yX11_areTwo ∈ dtWT := dtWS_3 1 (by decide +kernel) rfl
theorem ws_34 : Cond.selects RX5 yX5_fits yX5_fits ∈ dtWT := dtWS_3 2 (by decide +kernel) rfl
theorem ws_35 : Cond.selects RX5 yX5_agrees yX5_agrees ∈ dtWT := dtWS_3 3 (by decide +kernel) rfl
theorem ws_36 : Cond.selects RX5 yX5_firstWordAt yX5_firstWordAt ∈ dtWT := dtWS_3 4 (by decide +kernel) rfl
theorem ws_37 : Cond.selects RX5 yX5_extendToDoubt yX5_extendToDoubt ∈ dtWT := dtWS_3 5 (by decide +kernel) rfl
theorem ws_38 : Cond.selects RX5 yX5_countEndings yX5_countEndings ∈ dtWT := dtWS_3 6 (by decide +kernel) rfl
theorem ws_39 : Cond.selects RX5 yX5_canBeTwo yX5_canBeTwo ∈ dtWT := dtWS_3 7 (by decide +kernel) rfl
theorem ws_40 : Cond.selects RX5 yX5_countBegun yX5_countBegun ∈ dtWT := dtWS_3 8 (by decide +kernel) rfl
theorem ws_41 : Cond.selects RX11 yX11_areOpenDoors yX11_areOpenDoors ∈ dtWT := dtWS_3 9 (by decide +kernel) rfl
theorem ws_42 : Cond.selects RX10 yX10_playBack yX10_playBack ∈ dtWT := dtWS_3 10 (by decide +kernel) rfl
theorem ws_43 : Cond.selects RX10 yX10_shutterPlays yX10_shutterPlays ∈ dtWT := dtWS_3 11 (by decide +kernel) rfl
theorem ws_44 : Cond.selects RX10 yX10_openerPlays yX10_openerPlays ∈ dtWT := dtWS_3 12 (by decide +kernel) rfl
theorem ws_45 : Cond.selects RX11 yX11_tellFraction yX11_tellFraction ∈ dtWT := dtWS_3 13 (by decide +kernel) rfl
theorem ws_46 : Cond.selects RX6 yX6_behindEnd yX6_behindEnd ∈ dtWT := dtWS_3 14 (by decide +kernel) rfl
theorem ws_47 : Cond.selects RX6 yX6_act yX6_act ∈ dtWT := dtWS_3 15 (by decide +kernel) rfl
theorem ws_48 : Cond.selects RX6 yX6_shutBy yX6_shutBy ∈ dtWT := dtWS_4 0 (by decide +kernel) rfl
theorem ws_49 : Cond.selects RX6 yX6_pass yX6_pass ∈ dtWT := dtWS_4 1 (by decide +kernel) rfl
theorem ws_50 : Cond.selects RX6 yX6_draw yX6_draw ∈ dtWT := dtWS_4 2 (by decide +kernel) rfl
theorem ws_51 : Cond.selects RX6 yX6_behindStep yX6_behindStep ∈ dtWT := dtWS_4 3 (by decide +kernel) rfl
theorem ws_52 : Cond.selects RX12 yX12_plain yX12_plain ∈ dtWT := dtWS_4 4 (by decide +kernel) rfl
theorem ws_53 : Cond.selects RX12 yX12_is yX12_is ∈ dtWT := dtWS_4 5 (by decide +kernel) rfl
theorem ws_54 : Cond.selects RX12 yX12_wrongPlace yX12_wrongPlace ∈ dtWT := dtWS_4 6 (by decide +kernel) rfl
theorem ws_55 : Cond.selects RX12 yX12_four yX12_four ∈ dtWT := dtWS_4 7 (by decide +kernel) rfl
theorem ws_56 : Cond.selects RX12 yX12_begins yX12_begins ∈ dtWT := dtWS_4 8 (by decide +kernel) rfl
theorem ws_57 : Cond.selects RX12 yX12_ahead yX12_ahead ∈ dtWT := dtWS_4 9 (by decide +kernel) rfl
theorem ws_58 : Cond.selects RX12 yX12_byteAt yX12_byteAt ∈ dtWT := dtWS_4 10 (by decide +kernel) rfl
theorem ws_59 : Cond.selects RX12 yX12_refuse yX12_refuse ∈ dtWT := dtWS_4 11 (by decide +kernel) rfl
theorem ws_60 : Cond.selects RX12 yX12_housePart yX12_housePart ∈ dtWT := dtWS_4 12 (by decide +kernel) rfl
theorem ws_61 : Cond.selects RX12 yX12_inWords yX12_inWords ∈ dtWT := dtWS_4 13 (by decide +kernel) rfl
theorem ws_62 : Cond.selects RX12 yX12_fails yX12_fails ∈ dtWT := dtWS_4 14 (by decide +kernel) rfl
theorem ws_63 : Cond.selects RX12 yX12_number yX12_number ∈ dtWT := dtWS_4 15 (by decide +kernel) rfl
theorem ws_64 : Cond.selects RX12 yX12_aRoom yX12_aRoom ∈ dtWT := dtWS_5 0 (by decide +kernel) rfl
theorem ws_65 : Cond.selects RX12 yX12_newOne yX12_newOne ∈ dtWT := dtWS_5 1 (by decide +kernel) rfl
theorem ws_66 : Cond.selects RX12 yX12_isFull yX12_isFull ∈ dtWT := dtWS_5 2 (by decide +kernel) rfl
theorem ws_67 : Cond.selects RX12 yX12_isName yX12_isName ∈ dtWT := dtWS_5 3 (by decide +kernel) rfl
theorem ws_68 : Cond.selects RX12 yX12_isOld yX12_isOld ∈ dtWT := dtWS_5 4 (by decide +kernel) rfl
theorem ws_69 : Cond.selects RX12 yX12_findHere yX12_findHere ∈ dtWT := dtWS_5 5 (by decide +kernel) rfl
theorem ws_70 : Cond.selects RX12 yX12_nameHere yX12_nameHere ∈ dtWT := dtWS_5 6 (by decide +kernel) rfl
theorem ws_71 : Cond.selects RX12 yX12_aDoor yX12_aDoor ∈ dtWT := dtWS_5 7 (by decide +kernel) rfl
theorem ws_72 : Cond.selects RX12 yX12_newRoomTo yX12_newRoomTo ∈ dtWT := dtWS_5 8 (by decide +kernel) rfl
theorem ws_73 : Cond.selects RX12 yX12_oldOne yX12_oldOne ∈ dtWT := dtWS_5 9 (by decide +kernel) rfl
theorem ws_74 : Cond.selects RX12 yX12_isThere yX12_isThere ∈ dtWT := dtWS_5 10 (by decide +kernel) rfl
theorem ws_75 : Cond.selects RX12 yX12_aWord yX12_aWord ∈ dtWT := dtWS_5 11 (by decide +kernel) rfl
theorem ws_76 : Cond.selects RX12 yX12_wantWord yX12_wantWord ∈ dtWT := dtWS_5 12 (by decide +kernel) rfl
theorem ws_77 : Cond.selects RX12 yX12_isSound yX12_isSound ∈ dtWT := dtWS_5 13 (by decide +kernel) rfl
theorem ws_78 : Cond.selects RX12 yX12_isSign yX12_isSign ∈ dtWT := dtWS_5 14 (by decide +kernel) rfl
theorem ws_79 : Cond.selects RX12 yX12_sameAs yX12_sameAs ∈ dtWT := dtWS_5 15 (by decide +kernel) rfl
theorem ws_80 : Cond.selects RX12 yX12_isSame yX12_isSame ∈ dtWT := dtWS_6 0 (by decide +kernel) rfl
theorem ws_81 : Cond.selects RX12 yX12_aPerson yX12_aPerson ∈ dtWT := dtWS_6 1 (by decide +kernel) rfl
theorem ws_82 : Cond.selects RX12 yX12_isIn yX12_isIn ∈ dtWT := dtWS_6 2 (by decide +kernel) rfl
theorem ws_83 : Cond.selects RX12 yX12_wantSign yX12_wantSign ∈ dtWT := dtWS_6 3 (by decide +kernel) rfl
theorem ws_84 : Cond.selects RX12 yX12_taken yX12_taken ∈ dtWT := dtWS_6 4 (by decide +kernel) rfl
theorem ws_85 : Cond.selects RX12 yX12_gives yX12_gives ∈ dtWT := dtWS_6 5 (by decide +kernel) rfl
theorem ws_86 : Cond.selects RX12 yX12_dayStep yX12_dayStep ∈ dtWT := dtWS_6 6 (by decide +kernel) rfl
theorem ws_87 : Cond.selects RX12 yX12_dayOrder yX12_dayOrder ∈ dtWT := dtWS_6 7 (by decide +kernel) rfl
theorem ws_88 : Cond.selects RX12 yX12_personTo yX12_personTo ∈ dtWT := dtWS_6 8 (by decide +kernel) rfl
theorem ws_89 : Cond.selects RX12 yX12_doorTo yX12_doorTo ∈ dtWT := dtWS_6 9 (by decide +kernel) rfl
theorem ws_90 : Cond.selects RX12 yX12_soundTo yX12_soundTo ∈ dtWT := dtWS_6 10 (by decide +kernel) rfl
theorem ws_91 : Cond.selects RX12 yX12_test yX12_test ∈ dtWT := dtWS_6 11 (by decide +kernel) rfl
theorem ws_92 : Cond.selects RX12 yX12_isDoor yX12_isDoor ∈ dtWT := dtWS_6 12 (by decide +kernel) rfl
theorem ws_93 : Cond.selects RX12 yX12_doorOf yX12_doorOf ∈ dtWT := dtWS_6 13 (by decide +kernel) rfl
theorem ws_94 : Cond.selects RX12 yX12_isWord yX12_isWord ∈ dtWT := dtWS_6 14 (by decide +kernel) rfl
theorem ws_95 : Cond.selects RX12 yX12_isPerson yX12_isPerson ∈ dtWT := dtWS_6 15 (by decide +kernel) rfl
theorem ws_96 : Cond.selects RX12 yX12_personOf yX12_personOf ∈ dtWT := dtWS_7 0 (by decide +kernel) rfl
theorem ws_97 : Cond.selects RX12 yX12_isRoom yX12_isRoom ∈ dtWT := dtWS_7 1 (by decide +kernel) rfl
theorem ws_98 : Cond.selects RX12 yX12_laysLoss yX12_laysLoss ∈ dtWT := dtWS_7 2 (by decide +kernel) rfl
theorem ws_99 : Cond.selects RX12 yX12_isOpen yX12_isOpen ∈ dtWT := dtWS_7 3 (by decide +kernel) rfl
theorem ws_100 : Cond.selects RX12 yX12_hearing yX12_hearing ∈ dtWT := dtWS_7 4 (by decide +kernel) rfl
theorem ws_101 : Cond.selects RX12 yX12_isHeard yX12_isHeard ∈ dtWT := dtWS_7 5 (by decide +kernel) rfl
theorem ws_102 : Cond.selects RX12 yX12_reaches yX12_reaches ∈ dtWT := dtWS_7 6 (by decide +kernel) rfl
theorem ws_103 : Cond.selects RX12 yX12_isAt yX12_isAt ∈ dtWT := dtWS_7 7 (by decide +kernel) rfl
theorem ws_104 : Cond.selects RX12 yX12_closes yX12_closes ∈ dtWT := dtWS_7 8 (by decide +kernel) rfl
theorem ws_105 : Cond.selects RX12 yX12_isBy yX12_isBy ∈ dtWT := dtWS_7 9 (by decide +kernel) rfl
theorem ws_106 : Cond.selects RX12 yX12_sounds yX12_sounds ∈ dtWT := dtWS_7 10 (by decide +kernel) rfl
theorem ws_107 : Cond.selects RX12 yX12_keepsSound yX12_keepsSound ∈ dtWT := dtWS_7 11 (by decide +kernel) rfl
theorem ws_108 : Cond.selects RX12 yX12_opens yX12_opens ∈ dtWT := dtWS_7 12 (by decide +kernel) rfl
theorem ws_109 : Cond.selects RX12 yX12_goes yX12_goes ∈ dtWT := dtWS_7 13 (by decide +kernel) rfl
theorem ws_110 : Cond.selects RX12 yX12_forgets yX12_forgets ∈ dtWT := dtWS_7 14 (by decide +kernel) rfl
theorem ws_111 : Cond.selects RX12 yX12_laysHeard yX12_laysHeard ∈ dtWT := dtWS_7 15 (by decide +kernel) rfl
theorem ws_112 : Cond.selects RX12 yX12_laysReadings yX12_laysReadings ∈ dtWT := dtWS_8 0 (by decide +kernel) rfl
theorem ws_113 : Cond.selects RX12 yX12_isSaid yX12_isSaid ∈ dtWT := dtWS_8 1 (by decide +kernel) rfl
theorem ws_114 : Cond.selects RX12 yX12_firstWord yX12_firstWord ∈ dtWT := dtWS_8 2 (by decide +kernel) rfl
theorem ws_115 : Cond.selects RX12 yX12_wrongRow yX12_wrongRow ∈ dtWT := dtWS_8 3 (by decide +kernel) rfl
theorem ws_116 : Cond.selects RX12 yX12_utters yX12_utters ∈ dtWT := dtWS_8 4 (by decide +kernel) rfl
theorem ws_117 : Cond.selects RX12 yX12_laysDoubt yX12_laysDoubt ∈ dtWT := dtWS_8 5 (by decide +kernel) rfl
theorem ws_118 : Cond.selects RX12 yX12_laysFar yX12_laysFar ∈ dtWT := dtWS_8 6 (by decide +kernel) rfl
theorem ws_119 : Cond.selects RX12 yX12_nextTo yX12_nextTo ∈ dtWT := dtWS_8 7 (by decide +kernel) rfl
theorem ws_120 : Cond.selects RX12 yX12_areTwo yX12_areTwo ∈ dtWT := dtWS_8 8 (by decide +kernel) rfl
theorem ws_121 : Cond.selects RX12 yX12_doorsBetween yX12_doorsBetween ∈ dtWT := dtWS_8 9 (by decide +kernel) rfl
theorem ws_122 : Cond.selects RX12 yX12_orNone yX12_orNone ∈ dtWT := dtWS_8 10 (by decide +kernel) rfl
theorem ws_123 : Cond.selects RX12 yX12_canHave yX12_canHave ∈ dtWT := dtWS_8 11 (by decide +kernel) rfl
theorem ws_124 : Cond.selects RX12 yX12_playing yX12_playing ∈ dtWT := dtWS_8 12 (by decide +kernel) rfl
theorem ws_125 : Cond.selects RX12 yX12_roomsBy yX12_roomsBy ∈ dtWT := dtWS_8 13 (by decide +kernel) rfl
theorem ws_126 : Cond.selects RX12 yX12_settles yX12_settles ∈ dtWT := dtWS_8 14 (by decide +kernel) rfl
theorem ws_127 : Cond.selects RX12 yX12_tellsBy yX12_tellsBy ∈ dtWT := dtWS_8 15 (by decide +kernel) rfl
theorem ws_128 : Cond.selects RX12 yX12_lives yX12_lives ∈ dtWT := dtWS_9 0 (by decide +kernel) rfl
theorem ws_129 : Cond.selects RX12 yX12_does yX12_does ∈ dtWT := dtWS_9 1 (by decide +kernel) rfl
theorem ws_130 : Cond.selects RX12 yX12_closesBy yX12_closesBy ∈ dtWT := dtWS_9 2 (by decide +kernel) rfl
theorem ws_131 : Cond.selects RX12 yX12_counts yX12_counts ∈ dtWT := dtWS_9 3 (by decide +kernel) rfl
theorem ws_132 : Cond.selects RX12 yX12_goesBy yX12_goesBy ∈ dtWT := dtWS_9 4 (by decide +kernel) rfl
theorem ws_133 : Cond.selects RX12 yX12_blows yX12_blows ∈ dtWT := dtWS_9 5 (by decide +kernel) rfl
theorem ws_134 : Cond.selects RX12 yX12_draw yX12_draw ∈ dtWT := dtWS_9 6 (by decide +kernel) rfl
theorem ws_135 : Cond.selects RX12 yX12_holds yX12_holds ∈ dtWT := dtWS_9 7 (by decide +kernel) rfl
theorem ws_136 : Cond.selects RX12 yX12_behindEnds yX12_behindEnds ∈ dtWT := dtWS_9 8 (by decide +kernel) rfl
theorem ws_137 : Cond.selects RX12 yX12_copies yX12_copies ∈ dtWT := dtWS_9 9 (by decide +kernel) rfl
theorem wn_32 : Cond.methodLinkNest RX11 26 yX9_init "DoorTongue" ∈ dtNest := dtWN_1 32 (by decide +kernel) rfl
theorem wn_56 : Cond.methodLinkNest RX11 29 yX7_init "DoorTongue" ∈ dtNest := dtWN_1 56 (by decide +kernel) rfl
theorem wn_80 : Cond.methodLinkNest RX11 36 yX3_init "DoorTongue" ∈ dtNest := dtWN_1 80 (by decide +kernel) rfl
theorem wn_195 : Cond.methodLinkNest RX11 46 yX0_init "DoorTongue" ∈ dtNest := dtWN_1 195 (by decide +kernel) rfl
theorem wn_248 : Cond.methodLinkNest RX11 67 yX4_init "DoorTongue" ∈ dtNest := dtWN_2 8 (by decide +kernel) rfl
theorem wn_254 : Cond.methodLinkNest RX4 11 yX8_init "DoorTongue" ∈ dtNest := dtWN_2 14 (by decide +kernel) rfl
theorem wn_307 : Cond.methodLinkNest RX11 74 yX1_init "DoorTongue" ∈ dtNest := dtWN_2 67 (by decide +kernel) rfl
theorem wn_312 : Cond.methodLinkNest RX1 11 yX8_init "DoorTongue" ∈ dtNest := dtWN_2 72 (by decide +kernel) rfl
theorem wn_326 : Cond.methodLinkNest RX11 81 yX2_init "DoorTongue" ∈ dtNest := dtWN_2 86 (by decide +kernel) rfl
theorem wn_336 : Cond.methodLinkNest RX11 88 yX5_init "DoorTongue" ∈ dtNest := dtWN_2 96 (by decide +kernel) rfl
theorem wn_355 : Cond.methodLinkNest RX11 95 yX10_init "DoorTongue" ∈ dtNest := dtWN_2 115 (by decide +kernel) rfl
theorem wn_365 : Cond.methodLinkNest RX11 102 yX6_init "DoorTongue" ∈ dtNest := dtWN_2 125 (by decide +kernel) rfl
theorem wn_747 : Cond.methodLinkNest RX4 158 yX11_contains "DoorTongue" ∈ dtNest := dtWN_4 27 (by decide +kernel) rfl
theorem wn_795 : Cond.methodLinkNest RX1 85 yX11_within "DoorTongue" ∈ dtNest := dtWN_4 75 (by decide +kernel) rfl
theorem wn_848 : Cond.methodLinkNest RX3 77 yX11_contains "DoorTongue" ∈ dtNest := dtWN_4 128 (by decide +kernel) rfl
theorem wn_914 : Cond.methodLinkNest RX2 81 yX11_contains "DoorTongue" ∈ dtNest := dtWN_4 194 (by decide +kernel) rfl
theorem wn_1043 : Cond.methodLinkNest RX10 25 yX11_contains "DoorTongue" ∈ dtNest := dtWN_5 83 (by decide +kernel) rfl
theorem wn_1065 : Cond.methodLinkNest RX5 50 yX11_contains "DoorTongue" ∈ dtNest := dtWN_5 105 (by decide +kernel) rfl
theorem dtLay_0 : ∀ w ∈ u_ws RX0 TX0 9, w ∈ dtWT := by
  intro w hw
  obtain ⟨k, hk, rfl⟩ := List.mem_map.mp hw
  have hk := List.mem_range.mp hk
  rcases (by omega : k = 0 ∨ k = 1 ∨ k = 2 ∨ k = 3 ∨ k = 4 ∨ k = 5 ∨ k = 6 ∨ k = 7 ∨ k = 8) with rfl | rfl | rfl | rfl | rfl | rfl | rfl | rfl | rfl
  · exact dtWT_1 225 (by decide +kernel) rfl
  · exact dtWT_1 227 (by decide +kernel) rfl
  · exact dtWT_1 229 (by decide +kernel) rfl
  · exact dtWT_1 231 (by decide +kernel) rfl
  · exact dtWT_1 233 (by decide +kernel) rfl
  · exact dtWT_1 235 (by decide +kernel) rfl
  · exact dtWT_1 237 (by decide +kernel) rfl
  · exact dtWT_1 239 (by decide +kernel) rfl
  · exact dtWT_2 1 (by decide +kernel) rfl
theorem dtLay_1 : ∀ w ∈ u_ws RX1 TX1 3, w ∈ dtWT := by
  intro w hw
  obtain ⟨k, hk, rfl⟩ := List.mem_map.mp hw
  have hk := List.mem_range.mp hk
  rcases (by omega : k = 0 ∨ k = 1 ∨ k = 2) with rfl | rfl | rfl
  · exact dtWT_2 77 (by decide +kernel) rfl
  · exact dtWT_2 79 (by decide +kernel) rfl
  · exact dtWT_2 81 (by decide +kernel) rfl
theorem dtLay_2 : ∀ w ∈ u_ws RX2 TX2 1, w ∈ dtWT := by
  intro w hw
  obtain ⟨k, hk, rfl⟩ := List.mem_map.mp hw
  have hk := List.mem_range.mp hk
  rcases (by omega : k = 0) with rfl
  · exact dtWT_2 91 (by decide +kernel) rfl
theorem dtLay_3 : ∀ w ∈ u_ws RX3 TX3 19, w ∈ dtWT := by
  intro w hw
  obtain ⟨k, hk, rfl⟩ := List.mem_map.mp hw
  have hk := List.mem_range.mp hk
  rcases (by omega : k = 0 ∨ k = 1 ∨ k = 2 ∨ k = 3 ∨ k = 4 ∨ k = 5 ∨ k = 6 ∨ k = 7 ∨ k = 8 ∨ k = 9 ∨ k = 10 ∨ k = 11 ∨ k = 12 ∨ k = 13 ∨ k = 14 ∨ k = 15 ∨ k = 16 ∨ k = 17 ∨ k = 18) with rfl | rfl | rfl | rfl | rfl | rfl | rfl | rfl | rfl | rfl | rfl | rfl | rfl | rfl | rfl | rfl | rfl | rfl | rfl
  · exact dtWT_1 153 (by decide +kernel) rfl
  · exact dtWT_1 155 (by decide +kernel) rfl
  · exact dtWT_1 157 (by decide +kernel) rfl
  · exact dtWT_1 159 (by decide +kernel) rfl
  · exact dtWT_1 161 (by decide +kernel) rfl
  · exact dtWT_1 163 (by decide +kernel) rfl
  · exact dtWT_1 165 (by decide +kernel) rfl
  · exact dtWT_1 167 (by decide +kernel) rfl
  · exact dtWT_1 169 (by decide +kernel) rfl
  · exact dtWT_1 171 (by decide +kernel) rfl
  · exact dtWT_1 173 (by decide +kernel) rfl
  · exact dtWT_1 175 (by decide +kernel) rfl
  · exact dtWT_1 177 (by decide +kernel) rfl
  · exact dtWT_1 179 (by decide +kernel) rfl
  · exact dtWT_1 181 (by decide +kernel) rfl
  · exact dtWT_1 183 (by decide +kernel) rfl
  · exact dtWT_1 185 (by decide +kernel) rfl
  · exact dtWT_1 187 (by decide +kernel) rfl
  · exact dtWT_1 189 (by decide +kernel) rfl
theorem dtLay_4 : ∀ w ∈ u_ws RX4 TX4 3, w ∈ dtWT := by
  intro w hw
  obtain ⟨k, hk, rfl⟩ := List.mem_map.mp hw
  have hk := List.mem_range.mp hk
  rcases (by omega : k = 0 ∨ k = 1 ∨ k = 2) with rfl | rfl | rfl
  · exact dtWT_2 58 (by decide +kernel) rfl
  · exact dtWT_2 60 (by decide +kernel) rfl
  · exact dtWT_2 62 (by decide +kernel) rfl
theorem dtLay_5 : ∀ w ∈ u_ws RX5 TX5 4, w ∈ dtWT := by
  intro w hw
  obtain ⟨k, hk, rfl⟩ := List.mem_map.mp hw
  have hk := List.mem_range.mp hk
  rcases (by omega : k = 0 ∨ k = 1 ∨ k = 2 ∨ k = 3) with rfl | rfl | rfl | rfl
  · exact dtWT_2 104 (by decide +kernel) rfl
  · exact dtWT_2 106 (by decide +kernel) rfl
  · exact dtWT_2 108 (by decide +kernel) rfl
  · exact dtWT_2 110 (by decide +kernel) rfl
theorem dtLay_6 : ∀ w ∈ u_ws RX6 TX6 8, w ∈ dtWT := by
  intro w hw
  obtain ⟨k, hk, rfl⟩ := List.mem_map.mp hw
  have hk := List.mem_range.mp hk
  rcases (by omega : k = 0 ∨ k = 1 ∨ k = 2 ∨ k = 3 ∨ k = 4 ∨ k = 5 ∨ k = 6 ∨ k = 7) with rfl | rfl | rfl | rfl | rfl | rfl | rfl | rfl
  · exact dtWT_2 143 (by decide +kernel) rfl
  · exact dtWT_2 145 (by decide +kernel) rfl
  · exact dtWT_2 147 (by decide +kernel) rfl
  · exact dtWT_2 149 (by decide +kernel) rfl
  · exact dtWT_2 151 (by decide +kernel) rfl
  · exact dtWT_2 153 (by decide +kernel) rfl
  · exact dtWT_2 155 (by decide +kernel) rfl
  · exact dtWT_2 157 (by decide +kernel) rfl
theorem dtLay_7 : ∀ w ∈ u_ws RX7 TX7 4, w ∈ dtWT := by
  intro w hw
  obtain ⟨k, hk, rfl⟩ := List.mem_map.mp hw
  have hk := List.mem_range.mp hk
  rcases (by omega : k = 0 ∨ k = 1 ∨ k = 2 ∨ k = 3) with rfl | rfl | rfl | rfl
  · exact dtWT_1 68 (by decide +kernel) rfl
  · exact dtWT_1 70 (by decide +kernel) rfl
  · exact dtWT_1 72 (by decide +kernel) rfl
  · exact dtWT_1 74 (by decide +kernel) rfl
theorem dtLay_8 : ∀ w ∈ u_ws RX8 TX8 10, w ∈ dtWT := by
  intro w hw
  obtain ⟨k, hk, rfl⟩ := List.mem_map.mp hw
  have hk := List.mem_range.mp hk
  rcases (by omega : k = 0 ∨ k = 1 ∨ k = 2 ∨ k = 3 ∨ k = 4 ∨ k = 5 ∨ k = 6 ∨ k = 7 ∨ k = 8 ∨ k = 9) with rfl | rfl | rfl | rfl | rfl | rfl | rfl | rfl | rfl | rfl
  · exact dtWT_2 33 (by decide +kernel) rfl
  · exact dtWT_2 35 (by decide +kernel) rfl
  · exact dtWT_2 37 (by decide +kernel) rfl
  · exact dtWT_2 39 (by decide +kernel) rfl
  · exact dtWT_2 41 (by decide +kernel) rfl
  · exact dtWT_2 43 (by decide +kernel) rfl
  · exact dtWT_2 45 (by decide +kernel) rfl
  · exact dtWT_2 47 (by decide +kernel) rfl
  · exact dtWT_2 49 (by decide +kernel) rfl
  · exact dtWT_2 51 (by decide +kernel) rfl
theorem dtLay_9 : ∀ w ∈ u_ws RX9 TX9 4, w ∈ dtWT := by
  intro w hw
  obtain ⟨k, hk, rfl⟩ := List.mem_map.mp hw
  have hk := List.mem_range.mp hk
  rcases (by omega : k = 0 ∨ k = 1 ∨ k = 2 ∨ k = 3) with rfl | rfl | rfl | rfl
  · exact dtWT_1 44 (by decide +kernel) rfl
  · exact dtWT_1 46 (by decide +kernel) rfl
  · exact dtWT_1 48 (by decide +kernel) rfl
  · exact dtWT_1 50 (by decide +kernel) rfl
theorem dtLay_10 : ∀ w ∈ u_ws RX10 TX10 1, w ∈ dtWT := by
  intro w hw
  obtain ⟨k, hk, rfl⟩ := List.mem_map.mp hw
  have hk := List.mem_range.mp hk
  rcases (by omega : k = 0) with rfl
  · exact dtWT_2 120 (by decide +kernel) rfl
theorem dtLay_11 : ∀ w ∈ u_ws RX11 TX11 19, w ∈ dtWT := by
  intro w hw
  obtain ⟨k, hk, rfl⟩ := List.mem_map.mp hw
  have hk := List.mem_range.mp hk
  rcases (by omega : k = 0 ∨ k = 1 ∨ k = 2 ∨ k = 3 ∨ k = 4 ∨ k = 5 ∨ k = 6 ∨ k = 7 ∨ k = 8 ∨ k = 9 ∨ k = 10 ∨ k = 11 ∨ k = 12 ∨ k = 13 ∨ k = 14 ∨ k = 15 ∨ k = 16 ∨ k = 17 ∨ k = 18) with rfl | rfl | rfl | rfl | rfl | rfl | rfl | rfl | rfl | rfl | rfl | rfl | rfl | rfl | rfl | rfl | rfl | rfl | rfl
  · exact dtWT_2 179 (by decide +kernel) rfl
  · exact dtWT_2 181 (by decide +kernel) rfl
  · exact dtWT_2 183 (by decide +kernel) rfl
  · exact dtWT_2 185 (by decide +kernel) rfl
  · exact dtWT_2 187 (by decide +kernel) rfl
  · exact dtWT_2 189 (by decide +kernel) rfl
  · exact dtWT_2 191 (by decide +kernel) rfl
  · exact dtWT_2 193 (by decide +kernel) rfl
  · exact dtWT_2 195 (by decide +kernel) rfl
  · exact dtWT_2 197 (by decide +kernel) rfl
  · exact dtWT_2 199 (by decide +kernel) rfl
  · exact dtWT_2 201 (by decide +kernel) rfl
  · exact dtWT_2 203 (by decide +kernel) rfl
  · exact dtWT_2 205 (by decide +kernel) rfl
  · exact dtWT_2 207 (by decide +kernel) rfl
  · exact dtWT_2 209 (by decide +kernel) rfl
  · exact dtWT_2 211 (by decide +kernel) rfl
  · exact dtWT_2 213 (by decide +kernel) rfl
  · exact dtWT_2 215 (by decide +kernel) rfl
theorem dtLay_12 : ∀ w ∈ u_ws RX12 TX12 41, w ∈ dtWT := by
  intro w hw
  obtain ⟨k, hk, rfl⟩ := List.mem_map.mp hw
  have hk := List.mem_range.mp hk
  rcases (by omega : k = 0 ∨ k = 1 ∨ k = 2 ∨ k = 3 ∨ k = 4 ∨ k = 5 ∨ k = 6 ∨ k = 7 ∨ k = 8 ∨ k = 9 ∨ k = 10 ∨ k = 11 ∨ k = 12 ∨ k = 13 ∨ k = 14 ∨ k = 15 ∨ k = 16 ∨ k = 17 ∨ k = 18 ∨ k = 19 ∨ k = 20 ∨ k = 21 ∨ k = 22 ∨ k = 23 ∨ k = 24 ∨ k = 25 ∨ k = 26 ∨ k = 27 ∨ k = 28 ∨ k = 29 ∨ k = 30 ∨ k = 31 ∨ k = 32 ∨ k = 33 ∨ k = 34 ∨ k = 35 ∨ k = 36 ∨ k = 37 ∨ k = 38 ∨ k = 39 ∨ k = 40) with rfl | rfl | rfl | rfl | rfl | rfl | rfl | rfl | rfl | rfl | rfl | rfl | rfl | rfl | rfl | rfl | rfl | rfl | rfl | rfl | rfl | rfl | rfl | rfl | rfl | rfl | rfl | rfl | rfl | rfl | rfl | rfl | rfl | rfl | rfl | rfl | rfl | rfl | rfl | rfl | rfl
  · exact dtWT_6 188 (by decide +kernel) rfl
  · exact dtWT_6 190 (by decide +kernel) rfl
  · exact dtWT_6 192 (by decide +kernel) rfl
  · exact dtWT_6 194 (by decide +kernel) rfl
  · exact dtWT_6 196 (by decide +kernel) rfl
  · exact dtWT_6 198 (by decide +kernel) rfl
  · exact dtWT_6 200 (by decide +kernel) rfl
  · exact dtWT_6 202 (by decide +kernel) rfl
  · exact dtWT_6 204 (by decide +kernel) rfl
  · exact dtWT_6 206 (by decide +kernel) rfl
  · exact dtWT_6 208 (by decide +kernel) rfl
  · exact dtWT_6 210 (by decide +kernel) rfl
  · exact dtWT_6 212 (by decide +kernel) rfl
  · exact dtWT_6 214 (by decide +kernel) rfl
  · exact dtWT_6 216 (by decide +kernel) rfl
  · exact dtWT_6 218 (by decide +kernel) rfl
  · exact dtWT_6 220 (by decide +kernel) rfl
  · exact dtWT_6 222 (by decide +kernel) rfl
  · exact dtWT_6 224 (by decide +kernel) rfl
  · exact dtWT_6 226 (by decide +kernel) rfl
  · exact dtWT_6 228 (by decide +kernel) rfl
  · exact dtWT_6 230 (by decide +kernel) rfl
  · exact dtWT_6 232 (by decide +kernel) rfl
  · exact dtWT_6 234 (by decide +kernel) rfl
  · exact dtWT_6 236 (by decide +kernel) rfl
  · exact dtWT_6 238 (by decide +kernel) rfl
  · exact dtWT_7 0 (by decide +kernel) rfl
  · exact dtWT_7 2 (by decide +kernel) rfl
  · exact dtWT_7 4 (by decide +kernel) rfl
  · exact dtWT_7 6 (by decide +kernel) rfl
  · exact dtWT_7 8 (by decide +kernel) rfl
  · exact dtWT_7 10 (by decide +kernel) rfl
  · exact dtWT_7 12 (by decide +kernel) rfl
  · exact dtWT_7 14 (by decide +kernel) rfl
  · exact dtWT_7 16 (by decide +kernel) rfl
  · exact dtWT_7 18 (by decide +kernel) rfl
  · exact dtWT_7 20 (by decide +kernel) rfl
  · exact dtWT_7 22 (by decide +kernel) rfl
  · exact dtWT_7 24 (by decide +kernel) rfl
  · exact dtWT_7 26 (by decide +kernel) rfl
  · exact dtWT_7 28 (by decide +kernel) rfl
theorem dtC_words : ∀ ci, ci < 13 → ∀ w ∈ u_ws (dtC ci).1 (dtC ci).2.1 (dtC ci).2.2, w ∈ dtWT
  | 0, _ => dtLay_0
  | 1, _ => dtLay_1
  | 2, _ => dtLay_2
  | 3, _ => dtLay_3
  | 4, _ => dtLay_4
  | 5, _ => dtLay_5
  | 6, _ => dtLay_6
  | 7, _ => dtLay_7
  | 8, _ => dtLay_8
  | 9, _ => dtLay_9
  | 10, _ => dtLay_10
  | 11, _ => dtLay_11
  | 12, _ => dtLay_12
  | n + 13, h => absurd h (by omega)
