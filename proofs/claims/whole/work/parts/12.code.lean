/-! X3_hasRoom -/
theorem dX3_hasRoom_0 : decode cX3_hasRoom 0 = .ok (.iload_n 1, 1) := by decide +kernel
theorem dX3_hasRoom_1 : decode cX3_hasRoom 1 = .ok (.ifCond .lt 15, 3) := by decide +kernel
theorem dX3_hasRoom_4 : decode cX3_hasRoom 4 = .ok (.iload_n 1, 1) := by decide +kernel
theorem dX3_hasRoom_5 : decode cX3_hasRoom 5 = .ok (.aload_n 0, 1) := by decide +kernel
theorem dX3_hasRoom_6 : decode cX3_hasRoom 6 = .ok (.getfield 53, 3) := by decide +kernel
theorem dX3_hasRoom_9 : decode cX3_hasRoom 9 = .ok (.if_icmp .ge 7, 3) := by decide +kernel
theorem dX3_hasRoom_12 : decode cX3_hasRoom 12 = .ok (.iconst 1, 1) := by decide +kernel
theorem dX3_hasRoom_13 : decode cX3_hasRoom 13 = .ok (.goto 4, 3) := by decide +kernel
theorem dX3_hasRoom_16 : decode cX3_hasRoom 16 = .ok (.iconst 0, 1) := by decide +kernel
theorem dX3_hasRoom_17 : decode cX3_hasRoom 17 = .ok (.ireturn, 1) := by decide +kernel
set_option maxRecDepth 100000 in
def f_X3_hasRoom_17 (s0 : Int32) (μ : dtM) : Option (Int32 × dtM) :=
  opRet s0 μ
set_option maxRecDepth 100000 in
def f_X3_hasRoom_16  (μ : dtM) : Option (Int32 × dtM) :=
  f_X3_hasRoom_17 (0 : Int32) μ
set_option maxRecDepth 100000 in
def f_X3_hasRoom (p0 : Nat) (p1 : Int32) (μ : dtM) : Option (Int32 × dtM) :=
  if p1 < 0 then (f_X3_hasRoom_16 μ) else ((opGI 3 0 μ p0).bind fun x4 => if x4 ≤ p1 then (f_X3_hasRoom_16 μ) else (f_X3_hasRoom_17 (1 : Int32) μ))
set_option maxRecDepth 100000 in
theorem c_X3_hasRoom_17 {r : Int32} {F : dtM} (s0 : Int32) (μ : dtM) (h : f_X3_hasRoom_17 s0 μ = some (r, F)) : dtW yX3_hasRoom cX3_hasRoom 2 (some .boolean) 1 (some (.int r)) F 17 [] [.int s0] μ := by
  rw [f_X3_hasRoom_17] at h
  obtain ⟨hz, rfl, rfl⟩ := dtRet h
  exact dr_ireturn dX3_hasRoom_17 (dtNz hz)
set_option maxRecDepth 100000 in
theorem c_X3_hasRoom_16 {r : Int32} {F : dtM}  (μ : dtM) (h : f_X3_hasRoom_16  μ = some (r, F)) : dtW yX3_hasRoom cX3_hasRoom 2 (some .boolean) 1 (some (.int r)) F 16 [] [] μ := by
  rw [f_X3_hasRoom_16] at h
  refine dr_iconst (0 : Int32) dX3_hasRoom_16 (by decide) ?_
  exact c_X3_hasRoom_17 (0 : Int32) μ h
set_option maxRecDepth 100000 in
theorem c_X3_hasRoom {r : Int32} {F : dtM} (p0 : Nat) (p1 : Int32) (μ : dtM) (h : f_X3_hasRoom p0 p1 μ = some (r, F)) : dtMet yX3_hasRoom cX3_hasRoom 2 (some .boolean) 1 [.ref p0, .int p1] μ (some (.int r)) F := by
  refine dtMet.of (by decide +kernel) (Nat.le_of_ble_eq_true rfl) (show dtW yX3_hasRoom cX3_hasRoom 2 (some .boolean) 1 (some (.int r)) F 0 [some (.ref p0), some (.int p1)] [] μ from ?_)
  rw [f_X3_hasRoom] at h
  refine dr_iload_n p1 dX3_hasRoom_0 rfl ?_
  obtain ⟨ht2, hf3⟩ := dtIte h
  refine dr_if_lt 16 dX3_hasRoom_1 (by decide) (fun hc1 => ?_) (fun hc1 => ?_)
  · have h := ht2 hc1
    refine dr_mask [] [] rfl ?_
    exact c_X3_hasRoom_16 μ h
  · have h := hf3 hc1
    refine dr_iload_n p1 dX3_hasRoom_4 rfl ?_
    refine dr_aload_n p0 dX3_hasRoom_5 rfl ?_
    obtain ⟨x4, e5, h⟩ := dtBind h
    refine dr_getI x4 dX3_hasRoom_6 fl_RX3_53 e5 ?_
    obtain ⟨ht7, hf8⟩ := dtIte h
    refine dr_icmp_ge 16 dX3_hasRoom_9 (by decide) (fun hc6 => ?_) (fun hc6 => ?_)
    · have h := ht7 hc6
      refine dr_mask [] [] rfl ?_
      exact c_X3_hasRoom_16 μ h
    · have h := hf8 hc6
      refine dr_iconst (1 : Int32) dX3_hasRoom_12 (by decide) ?_
      refine dr_goto 17 dX3_hasRoom_13 (by decide) ?_
      refine dr_mask [] [] rfl ?_
      exact c_X3_hasRoom_17 (1 : Int32) μ h
/-! X3_hasDoor -/
theorem dX3_hasDoor_0 : decode cX3_hasDoor 0 = .ok (.iload_n 1, 1) := by decide +kernel
theorem dX3_hasDoor_1 : decode cX3_hasDoor 1 = .ok (.ifCond .lt 15, 3) := by decide +kernel
theorem dX3_hasDoor_4 : decode cX3_hasDoor 4 = .ok (.iload_n 1, 1) := by decide +kernel
theorem dX3_hasDoor_5 : decode cX3_hasDoor 5 = .ok (.aload_n 0, 1) := by decide +kernel
theorem dX3_hasDoor_6 : decode cX3_hasDoor 6 = .ok (.getfield 56, 3) := by decide +kernel
theorem dX3_hasDoor_9 : decode cX3_hasDoor 9 = .ok (.if_icmp .ge 7, 3) := by decide +kernel
theorem dX3_hasDoor_12 : decode cX3_hasDoor 12 = .ok (.iconst 1, 1) := by decide +kernel
theorem dX3_hasDoor_13 : decode cX3_hasDoor 13 = .ok (.goto 4, 3) := by decide +kernel
theorem dX3_hasDoor_16 : decode cX3_hasDoor 16 = .ok (.iconst 0, 1) := by decide +kernel
theorem dX3_hasDoor_17 : decode cX3_hasDoor 17 = .ok (.ireturn, 1) := by decide +kernel
set_option maxRecDepth 100000 in
def f_X3_hasDoor_17 (s0 : Int32) (μ : dtM) : Option (Int32 × dtM) :=
  opRet s0 μ
set_option maxRecDepth 100000 in
def f_X3_hasDoor_16  (μ : dtM) : Option (Int32 × dtM) :=
  f_X3_hasDoor_17 (0 : Int32) μ
set_option maxRecDepth 100000 in
def f_X3_hasDoor (p0 : Nat) (p1 : Int32) (μ : dtM) : Option (Int32 × dtM) :=
  if p1 < 0 then (f_X3_hasDoor_16 μ) else ((opGI 3 1 μ p0).bind fun x4 => if x4 ≤ p1 then (f_X3_hasDoor_16 μ) else (f_X3_hasDoor_17 (1 : Int32) μ))
set_option maxRecDepth 100000 in
theorem c_X3_hasDoor_17 {r : Int32} {F : dtM} (s0 : Int32) (μ : dtM) (h : f_X3_hasDoor_17 s0 μ = some (r, F)) : dtW yX3_hasDoor cX3_hasDoor 2 (some .boolean) 1 (some (.int r)) F 17 [] [.int s0] μ := by
  rw [f_X3_hasDoor_17] at h
  obtain ⟨hz, rfl, rfl⟩ := dtRet h
  exact dr_ireturn dX3_hasDoor_17 (dtNz hz)
set_option maxRecDepth 100000 in
theorem c_X3_hasDoor_16 {r : Int32} {F : dtM}  (μ : dtM) (h : f_X3_hasDoor_16  μ = some (r, F)) : dtW yX3_hasDoor cX3_hasDoor 2 (some .boolean) 1 (some (.int r)) F 16 [] [] μ := by
  rw [f_X3_hasDoor_16] at h
  refine dr_iconst (0 : Int32) dX3_hasDoor_16 (by decide) ?_
  exact c_X3_hasDoor_17 (0 : Int32) μ h
set_option maxRecDepth 100000 in
theorem c_X3_hasDoor {r : Int32} {F : dtM} (p0 : Nat) (p1 : Int32) (μ : dtM) (h : f_X3_hasDoor p0 p1 μ = some (r, F)) : dtMet yX3_hasDoor cX3_hasDoor 2 (some .boolean) 1 [.ref p0, .int p1] μ (some (.int r)) F := by
  refine dtMet.of (by decide +kernel) (Nat.le_of_ble_eq_true rfl) (show dtW yX3_hasDoor cX3_hasDoor 2 (some .boolean) 1 (some (.int r)) F 0 [some (.ref p0), some (.int p1)] [] μ from ?_)
  rw [f_X3_hasDoor] at h
  refine dr_iload_n p1 dX3_hasDoor_0 rfl ?_
  obtain ⟨ht2, hf3⟩ := dtIte h
  refine dr_if_lt 16 dX3_hasDoor_1 (by decide) (fun hc1 => ?_) (fun hc1 => ?_)
  · have h := ht2 hc1
    refine dr_mask [] [] rfl ?_
    exact c_X3_hasDoor_16 μ h
  · have h := hf3 hc1
    refine dr_iload_n p1 dX3_hasDoor_4 rfl ?_
    refine dr_aload_n p0 dX3_hasDoor_5 rfl ?_
    obtain ⟨x4, e5, h⟩ := dtBind h
    refine dr_getI x4 dX3_hasDoor_6 fl_RX3_56 e5 ?_
    obtain ⟨ht7, hf8⟩ := dtIte h
    refine dr_icmp_ge 16 dX3_hasDoor_9 (by decide) (fun hc6 => ?_) (fun hc6 => ?_)
    · have h := ht7 hc6
      refine dr_mask [] [] rfl ?_
      exact c_X3_hasDoor_16 μ h
    · have h := hf8 hc6
      refine dr_iconst (1 : Int32) dX3_hasDoor_12 (by decide) ?_
      refine dr_goto 17 dX3_hasDoor_13 (by decide) ?_
      refine dr_mask [] [] rfl ?_
      exact c_X3_hasDoor_17 (1 : Int32) μ h
/-! X3_hasWord -/
theorem dX3_hasWord_0 : decode cX3_hasWord 0 = .ok (.iload_n 1, 1) := by decide +kernel
theorem dX3_hasWord_1 : decode cX3_hasWord 1 = .ok (.ifCond .lt 15, 3) := by decide +kernel
theorem dX3_hasWord_4 : decode cX3_hasWord 4 = .ok (.iload_n 1, 1) := by decide +kernel
theorem dX3_hasWord_5 : decode cX3_hasWord 5 = .ok (.aload_n 0, 1) := by decide +kernel
theorem dX3_hasWord_6 : decode cX3_hasWord 6 = .ok (.getfield 59, 3) := by decide +kernel
theorem dX3_hasWord_9 : decode cX3_hasWord 9 = .ok (.if_icmp .ge 7, 3) := by decide +kernel
theorem dX3_hasWord_12 : decode cX3_hasWord 12 = .ok (.iconst 1, 1) := by decide +kernel
theorem dX3_hasWord_13 : decode cX3_hasWord 13 = .ok (.goto 4, 3) := by decide +kernel
theorem dX3_hasWord_16 : decode cX3_hasWord 16 = .ok (.iconst 0, 1) := by decide +kernel
theorem dX3_hasWord_17 : decode cX3_hasWord 17 = .ok (.ireturn, 1) := by decide +kernel
set_option maxRecDepth 100000 in
def f_X3_hasWord_17 (s0 : Int32) (μ : dtM) : Option (Int32 × dtM) :=
  opRet s0 μ
set_option maxRecDepth 100000 in
def f_X3_hasWord_16  (μ : dtM) : Option (Int32 × dtM) :=
  f_X3_hasWord_17 (0 : Int32) μ
set_option maxRecDepth 100000 in
def f_X3_hasWord (p0 : Nat) (p1 : Int32) (μ : dtM) : Option (Int32 × dtM) :=
  if p1 < 0 then (f_X3_hasWord_16 μ) else ((opGI 3 2 μ p0).bind fun x4 => if x4 ≤ p1 then (f_X3_hasWord_16 μ) else (f_X3_hasWord_17 (1 : Int32) μ))
set_option maxRecDepth 100000 in
theorem c_X3_hasWord_17 {r : Int32} {F : dtM} (s0 : Int32) (μ : dtM) (h : f_X3_hasWord_17 s0 μ = some (r, F)) : dtW yX3_hasWord cX3_hasWord 2 (some .boolean) 1 (some (.int r)) F 17 [] [.int s0] μ := by
  rw [f_X3_hasWord_17] at h
  obtain ⟨hz, rfl, rfl⟩ := dtRet h
  exact dr_ireturn dX3_hasWord_17 (dtNz hz)
set_option maxRecDepth 100000 in
theorem c_X3_hasWord_16 {r : Int32} {F : dtM}  (μ : dtM) (h : f_X3_hasWord_16  μ = some (r, F)) : dtW yX3_hasWord cX3_hasWord 2 (some .boolean) 1 (some (.int r)) F 16 [] [] μ := by
  rw [f_X3_hasWord_16] at h
  refine dr_iconst (0 : Int32) dX3_hasWord_16 (by decide) ?_
  exact c_X3_hasWord_17 (0 : Int32) μ h
set_option maxRecDepth 100000 in
theorem c_X3_hasWord {r : Int32} {F : dtM} (p0 : Nat) (p1 : Int32) (μ : dtM) (h : f_X3_hasWord p0 p1 μ = some (r, F)) : dtMet yX3_hasWord cX3_hasWord 2 (some .boolean) 1 [.ref p0, .int p1] μ (some (.int r)) F := by
  refine dtMet.of (by decide +kernel) (Nat.le_of_ble_eq_true rfl) (show dtW yX3_hasWord cX3_hasWord 2 (some .boolean) 1 (some (.int r)) F 0 [some (.ref p0), some (.int p1)] [] μ from ?_)
  rw [f_X3_hasWord] at h
  refine dr_iload_n p1 dX3_hasWord_0 rfl ?_
  obtain ⟨ht2, hf3⟩ := dtIte h
  refine dr_if_lt 16 dX3_hasWord_1 (by decide) (fun hc1 => ?_) (fun hc1 => ?_)
  · have h := ht2 hc1
    refine dr_mask [] [] rfl ?_
    exact c_X3_hasWord_16 μ h
  · have h := hf3 hc1
    refine dr_iload_n p1 dX3_hasWord_4 rfl ?_
    refine dr_aload_n p0 dX3_hasWord_5 rfl ?_
    obtain ⟨x4, e5, h⟩ := dtBind h
    refine dr_getI x4 dX3_hasWord_6 fl_RX3_59 e5 ?_
    obtain ⟨ht7, hf8⟩ := dtIte h
    refine dr_icmp_ge 16 dX3_hasWord_9 (by decide) (fun hc6 => ?_) (fun hc6 => ?_)
    · have h := ht7 hc6
      refine dr_mask [] [] rfl ?_
      exact c_X3_hasWord_16 μ h
    · have h := hf8 hc6
      refine dr_iconst (1 : Int32) dX3_hasWord_12 (by decide) ?_
      refine dr_goto 17 dX3_hasWord_13 (by decide) ?_
      refine dr_mask [] [] rfl ?_
      exact c_X3_hasWord_17 (1 : Int32) μ h
/-! X3_hasPerson -/
theorem dX3_hasPerson_0 : decode cX3_hasPerson 0 = .ok (.iload_n 1, 1) := by decide +kernel
theorem dX3_hasPerson_1 : decode cX3_hasPerson 1 = .ok (.ifCond .lt 15, 3) := by decide +kernel
theorem dX3_hasPerson_4 : decode cX3_hasPerson 4 = .ok (.iload_n 1, 1) := by decide +kernel
theorem dX3_hasPerson_5 : decode cX3_hasPerson 5 = .ok (.aload_n 0, 1) := by decide +kernel
theorem dX3_hasPerson_6 : decode cX3_hasPerson 6 = .ok (.getfield 62, 3) := by decide +kernel
theorem dX3_hasPerson_9 : decode cX3_hasPerson 9 = .ok (.if_icmp .ge 7, 3) := by decide +kernel
theorem dX3_hasPerson_12 : decode cX3_hasPerson 12 = .ok (.iconst 1, 1) := by decide +kernel
theorem dX3_hasPerson_13 : decode cX3_hasPerson 13 = .ok (.goto 4, 3) := by decide +kernel
theorem dX3_hasPerson_16 : decode cX3_hasPerson 16 = .ok (.iconst 0, 1) := by decide +kernel
theorem dX3_hasPerson_17 : decode cX3_hasPerson 17 = .ok (.ireturn, 1) := by decide +kernel
set_option maxRecDepth 100000 in
def f_X3_hasPerson_17 (s0 : Int32) (μ : dtM) : Option (Int32 × dtM) :=
  opRet s0 μ
set_option maxRecDepth 100000 in
def f_X3_hasPerson_16  (μ : dtM) : Option (Int32 × dtM) :=
  f_X3_hasPerson_17 (0 : Int32) μ
set_option maxRecDepth 100000 in
def f_X3_hasPerson (p0 : Nat) (p1 : Int32) (μ : dtM) : Option (Int32 × dtM) :=
  if p1 < 0 then (f_X3_hasPerson_16 μ) else ((opGI 3 3 μ p0).bind fun x4 => if x4 ≤ p1 then (f_X3_hasPerson_16 μ) else (f_X3_hasPerson_17 (1 : Int32) μ))
set_option maxRecDepth 100000 in
theorem c_X3_hasPerson_17 {r : Int32} {F : dtM} (s0 : Int32) (μ : dtM) (h : f_X3_hasPerson_17 s0 μ = some (r, F)) : dtW yX3_hasPerson cX3_hasPerson 2 (some .boolean) 1 (some (.int r)) F 17 [] [.int s0] μ := by
  rw [f_X3_hasPerson_17] at h
  obtain ⟨hz, rfl, rfl⟩ := dtRet h
  exact dr_ireturn dX3_hasPerson_17 (dtNz hz)
set_option maxRecDepth 100000 in
theorem c_X3_hasPerson_16 {r : Int32} {F : dtM}  (μ : dtM) (h : f_X3_hasPerson_16  μ = some (r, F)) : dtW yX3_hasPerson cX3_hasPerson 2 (some .boolean) 1 (some (.int r)) F 16 [] [] μ := by
  rw [f_X3_hasPerson_16] at h
  refine dr_iconst (0 : Int32) dX3_hasPerson_16 (by decide) ?_
  exact c_X3_hasPerson_17 (0 : Int32) μ h
set_option maxRecDepth 100000 in
theorem c_X3_hasPerson {r : Int32} {F : dtM} (p0 : Nat) (p1 : Int32) (μ : dtM) (h : f_X3_hasPerson p0 p1 μ = some (r, F)) : dtMet yX3_hasPerson cX3_hasPerson 2 (some .boolean) 1 [.ref p0, .int p1] μ (some (.int r)) F := by
  refine dtMet.of (by decide +kernel) (Nat.le_of_ble_eq_true rfl) (show dtW yX3_hasPerson cX3_hasPerson 2 (some .boolean) 1 (some (.int r)) F 0 [some (.ref p0), some (.int p1)] [] μ from ?_)
  rw [f_X3_hasPerson] at h
  refine dr_iload_n p1 dX3_hasPerson_0 rfl ?_
  obtain ⟨ht2, hf3⟩ := dtIte h
  refine dr_if_lt 16 dX3_hasPerson_1 (by decide) (fun hc1 => ?_) (fun hc1 => ?_)
  · have h := ht2 hc1
    refine dr_mask [] [] rfl ?_
    exact c_X3_hasPerson_16 μ h
  · have h := hf3 hc1
    refine dr_iload_n p1 dX3_hasPerson_4 rfl ?_
    refine dr_aload_n p0 dX3_hasPerson_5 rfl ?_
    obtain ⟨x4, e5, h⟩ := dtBind h
    refine dr_getI x4 dX3_hasPerson_6 fl_RX3_62 e5 ?_
    obtain ⟨ht7, hf8⟩ := dtIte h
    refine dr_icmp_ge 16 dX3_hasPerson_9 (by decide) (fun hc6 => ?_) (fun hc6 => ?_)
    · have h := ht7 hc6
      refine dr_mask [] [] rfl ?_
      exact c_X3_hasPerson_16 μ h
    · have h := hf8 hc6
      refine dr_iconst (1 : Int32) dX3_hasPerson_12 (by decide) ?_
      refine dr_goto 17 dX3_hasPerson_13 (by decide) ?_
      refine dr_mask [] [] rfl ?_
      exact c_X3_hasPerson_17 (1 : Int32) μ h
/-! X3_isAt -/
theorem dX3_isAt_0 : decode cX3_isAt 0 = .ok (.aload_n 0, 1) := by decide +kernel
theorem dX3_isAt_1 : decode cX3_isAt 1 = .ok (.iload_n 1, 1) := by decide +kernel
theorem dX3_isAt_2 : decode cX3_isAt 2 = .ok (.invokevirtual 81, 3) := by decide +kernel
theorem dX3_isAt_5 : decode cX3_isAt 5 = .ok (.ifCond .eq 11, 3) := by decide +kernel
theorem dX3_isAt_8 : decode cX3_isAt 8 = .ok (.aload_n 0, 1) := by decide +kernel
theorem dX3_isAt_9 : decode cX3_isAt 9 = .ok (.iload_n 2, 1) := by decide +kernel
theorem dX3_isAt_10 : decode cX3_isAt 10 = .ok (.invokevirtual 85, 3) := by decide +kernel
theorem dX3_isAt_13 : decode cX3_isAt 13 = .ok (.ifCond .ne 5, 3) := by decide +kernel
theorem dX3_isAt_16 : decode cX3_isAt 16 = .ok (.iconst 0, 1) := by decide +kernel
theorem dX3_isAt_17 : decode cX3_isAt 17 = .ok (.ireturn, 1) := by decide +kernel
theorem dX3_isAt_18 : decode cX3_isAt 18 = .ok (.aload_n 0, 1) := by decide +kernel
theorem dX3_isAt_19 : decode cX3_isAt 19 = .ok (.getfield 38, 3) := by decide +kernel
theorem dX3_isAt_22 : decode cX3_isAt 22 = .ok (.iload_n 1, 1) := by decide +kernel
theorem dX3_isAt_23 : decode cX3_isAt 23 = .ok (.iaload, 1) := by decide +kernel
theorem dX3_isAt_24 : decode cX3_isAt 24 = .ok (.istore_n 3, 1) := by decide +kernel
theorem dX3_isAt_25 : decode cX3_isAt 25 = .ok (.iload_n 3, 1) := by decide +kernel
theorem dX3_isAt_26 : decode cX3_isAt 26 = .ok (.aload_n 0, 1) := by decide +kernel
theorem dX3_isAt_27 : decode cX3_isAt 27 = .ok (.getfield 22, 3) := by decide +kernel
theorem dX3_isAt_30 : decode cX3_isAt 30 = .ok (.iload_n 2, 1) := by decide +kernel
theorem dX3_isAt_31 : decode cX3_isAt 31 = .ok (.iaload, 1) := by decide +kernel
theorem dX3_isAt_32 : decode cX3_isAt 32 = .ok (.if_icmp .eq 13, 3) := by decide +kernel
theorem dX3_isAt_35 : decode cX3_isAt 35 = .ok (.iload_n 3, 1) := by decide +kernel
theorem dX3_isAt_36 : decode cX3_isAt 36 = .ok (.aload_n 0, 1) := by decide +kernel
theorem dX3_isAt_37 : decode cX3_isAt 37 = .ok (.getfield 26, 3) := by decide +kernel
theorem dX3_isAt_40 : decode cX3_isAt 40 = .ok (.iload_n 2, 1) := by decide +kernel
theorem dX3_isAt_41 : decode cX3_isAt 41 = .ok (.iaload, 1) := by decide +kernel
theorem dX3_isAt_42 : decode cX3_isAt 42 = .ok (.if_icmp .ne 7, 3) := by decide +kernel
theorem dX3_isAt_45 : decode cX3_isAt 45 = .ok (.iconst 1, 1) := by decide +kernel
theorem dX3_isAt_46 : decode cX3_isAt 46 = .ok (.goto 4, 3) := by decide +kernel
theorem dX3_isAt_49 : decode cX3_isAt 49 = .ok (.iconst 0, 1) := by decide +kernel
theorem dX3_isAt_50 : decode cX3_isAt 50 = .ok (.ireturn, 1) := by decide +kernel
set_option maxRecDepth 100000 in
def f_X3_isAt_16  (μ : dtM) : Option (Int32 × dtM) :=
  opRet (0 : Int32) μ
set_option maxRecDepth 100000 in
def f_X3_isAt_50 (s0 : Int32) (μ : dtM) : Option (Int32 × dtM) :=
  opRet s0 μ
set_option maxRecDepth 100000 in
def f_X3_isAt_45  (μ : dtM) : Option (Int32 × dtM) :=
  f_X3_isAt_50 (1 : Int32) μ
set_option maxRecDepth 100000 in
def f_X3_isAt (p0 : Nat) (p1 : Int32) (p2 : Int32) (μ : dtM) : Option (Int32 × dtM) :=
  (opRv 3 μ p0).bind fun _ => opCall (f_X3_hasPerson p0 p1 μ) fun x4 μ2 => if x4 = 0 then (f_X3_isAt_16 μ2) else ((opRv 3 μ2 p0).bind fun _ => opCall (f_X3_hasDoor p0 p2 μ2) fun x11 μ9 => if x11 = 0 then (f_X3_isAt_16 μ9) else ((opGR 3 14 μ9 p0).bind fun x15 => (opLI 1 μ9 x15 p1).bind fun x17 => (opGR 3 9 μ9 p0).bind fun x19 => (opLI 1 μ9 x19 p2).bind fun x21 => if x17 = x21 then (f_X3_isAt_45 μ9) else ((opGR 3 10 μ9 p0).bind fun x26 => (opLI 1 μ9 x26 p2).bind fun x28 => if x17 = x28 then (f_X3_isAt_45 μ9) else (f_X3_isAt_50 (0 : Int32) μ9))))
set_option maxRecDepth 100000 in
theorem c_X3_isAt_16 {r : Int32} {F : dtM}  (μ : dtM) (h : f_X3_isAt_16  μ = some (r, F)) : dtW yX3_isAt cX3_isAt 4 (some .boolean) 2 (some (.int r)) F 16 [] [] μ := by
  rw [f_X3_isAt_16] at h
  refine dr_iconst (0 : Int32) dX3_isAt_16 (by decide) ?_
  obtain ⟨hz, rfl, rfl⟩ := dtRet h
  exact dr_ireturn dX3_isAt_17 (dtNz hz)
set_option maxRecDepth 100000 in
theorem c_X3_isAt_50 {r : Int32} {F : dtM} (s0 : Int32) (μ : dtM) (h : f_X3_isAt_50 s0 μ = some (r, F)) : dtW yX3_isAt cX3_isAt 4 (some .boolean) 2 (some (.int r)) F 50 [] [.int s0] μ := by
  rw [f_X3_isAt_50] at h
  obtain ⟨hz, rfl, rfl⟩ := dtRet h
  exact dr_ireturn dX3_isAt_50 (dtNz hz)
set_option maxRecDepth 100000 in
theorem c_X3_isAt_45 {r : Int32} {F : dtM}  (μ : dtM) (h : f_X3_isAt_45  μ = some (r, F)) : dtW yX3_isAt cX3_isAt 4 (some .boolean) 2 (some (.int r)) F 45 [] [] μ := by
  rw [f_X3_isAt_45] at h
  refine dr_iconst (1 : Int32) dX3_isAt_45 (by decide) ?_
  refine dr_goto 50 dX3_isAt_46 (by decide) ?_
  exact c_X3_isAt_50 (1 : Int32) μ h
set_option maxRecDepth 100000 in
theorem c_X3_isAt {r : Int32} {F : dtM} (p0 : Nat) (p1 : Int32) (p2 : Int32) (μ : dtM) (h : f_X3_isAt p0 p1 p2 μ = some (r, F)) : dtMet yX3_isAt cX3_isAt 4 (some .boolean) 2 [.ref p0, .int p1, .int p2] μ (some (.int r)) F := by
  refine dtMet.of (by decide +kernel) (Nat.le_of_ble_eq_true rfl) (show dtW yX3_isAt cX3_isAt 4 (some .boolean) 2 (some (.int r)) F 0 [some (.ref p0), some (.int p1), some (.int p2)] [] μ from ?_)
  rw [f_X3_isAt] at h
  refine dr_aload_n p0 dX3_isAt_0 rfl ?_
  refine dr_iload_n p1 dX3_isAt_1 rfl ?_
  obtain ⟨_, hb1, h⟩ := dtBind h
  obtain ⟨x4, μ2, e3, h⟩ := dtCall h
  refine dr_callV_i (S0 := []) [.int p1] x4 μ2 dX3_isAt_2 (c_X3_hasPerson p0 p1 μ e3) mf_X3_hasPerson wt_867 wt_868 wt_885 rfl (dtRv hb1) (by decide) rfl (Nat.le_of_ble_eq_true rfl) (Nat.le_of_ble_eq_true rfl) rfl ?_
  obtain ⟨ht6, hf7⟩ := dtIte h
  refine dr_if_eq 16 dX3_isAt_5 (by decide) (fun hc5 => ?_) (fun hc5 => ?_)
  · have h := ht6 hc5
    refine dr_mask [] [] rfl ?_
    exact c_X3_isAt_16 μ2 h
  · have h := hf7 hc5
    refine dr_aload_n p0 dX3_isAt_8 rfl ?_
    refine dr_iload_n p2 dX3_isAt_9 rfl ?_
    obtain ⟨_, hb8, h⟩ := dtBind h
    obtain ⟨x11, μ9, e10, h⟩ := dtCall h
    refine dr_callV_i (S0 := []) [.int p2] x11 μ9 dX3_isAt_10 (c_X3_hasDoor p0 p2 μ2 e10) mf_X3_hasDoor wt_841 wt_842 wt_886 rfl (dtRv hb8) (by decide) rfl (Nat.le_of_ble_eq_true rfl) (Nat.le_of_ble_eq_true rfl) rfl ?_
    obtain ⟨ht13, hf14⟩ := dtIte h
    refine dr_if_ne 18 dX3_isAt_13 (by decide) (fun hc12 => ?_) (fun hc12 => ?_)
    · have h := hf14 hc12
      refine dr_aload_n p0 dX3_isAt_18 rfl ?_
      obtain ⟨x15, e16, h⟩ := dtBind h
      refine dr_getR x15 dX3_isAt_19 fl_RX3_38 e16 ?_
      refine dr_iload_n p1 dX3_isAt_22 rfl ?_
      obtain ⟨x17, e18, h⟩ := dtBind h
      refine dr_iaload x17 dX3_isAt_23 e18 ?_
      refine dr_istore_n 3 [some (.ref p0), some (.int p1), some (.int p2), some (.int x17)] dX3_isAt_24 rfl rfl rfl rfl ?_
      refine dr_iload_n x17 dX3_isAt_25 rfl ?_
      refine dr_aload_n p0 dX3_isAt_26 rfl ?_
      obtain ⟨x19, e20, h⟩ := dtBind h
      refine dr_getR x19 dX3_isAt_27 fl_RX3_22 e20 ?_
      refine dr_iload_n p2 dX3_isAt_30 rfl ?_
      obtain ⟨x21, e22, h⟩ := dtBind h
      refine dr_iaload x21 dX3_isAt_31 e22 ?_
      obtain ⟨ht24, hf25⟩ := dtIte h
      refine dr_icmp_eq 45 dX3_isAt_32 (by decide) (fun hc23 => ?_) (fun hc23 => ?_)
      · have h := ht24 hc23
        refine dr_mask [] [] rfl ?_
        exact c_X3_isAt_45 μ9 h
      · have h := hf25 hc23
        refine dr_iload_n x17 dX3_isAt_35 rfl ?_
        refine dr_aload_n p0 dX3_isAt_36 rfl ?_
        obtain ⟨x26, e27, h⟩ := dtBind h
        refine dr_getR x26 dX3_isAt_37 fl_RX3_26 e27 ?_
        refine dr_iload_n p2 dX3_isAt_40 rfl ?_
        obtain ⟨x28, e29, h⟩ := dtBind h
        refine dr_iaload x28 dX3_isAt_41 e29 ?_
        obtain ⟨ht31, hf32⟩ := dtIte h
        refine dr_icmp_ne 49 dX3_isAt_42 (by decide) (fun hc30 => ?_) (fun hc30 => ?_)
        · have h := hf32 hc30
          refine dr_iconst (0 : Int32) dX3_isAt_49 (by decide) ?_
          refine dr_mask [] [] rfl ?_
          exact c_X3_isAt_50 (0 : Int32) μ9 h
        · have h := ht31 hc30
          refine dr_mask [] [] rfl ?_
          exact c_X3_isAt_45 μ9 h
    · have h := ht13 hc12
      refine dr_mask [] [] rfl ?_
      exact c_X3_isAt_16 μ9 h
/-! X3_unshut -/
theorem dX3_unshut_0 : decode cX3_unshut 0 = .ok (.aload_n 0, 1) := by decide +kernel
theorem dX3_unshut_1 : decode cX3_unshut 1 = .ok (.dup, 1) := by decide +kernel
theorem dX3_unshut_2 : decode cX3_unshut 2 = .ok (.getfield 65, 3) := by decide +kernel
theorem dX3_unshut_5 : decode cX3_unshut 5 = .ok (.iconst 1, 1) := by decide +kernel
theorem dX3_unshut_6 : decode cX3_unshut 6 = .ok (.iload_n 1, 1) := by decide +kernel
theorem dX3_unshut_7 : decode cX3_unshut 7 = .ok (.ishl, 1) := by decide +kernel
theorem dX3_unshut_8 : decode cX3_unshut 8 = .ok (.ior, 1) := by decide +kernel
theorem dX3_unshut_9 : decode cX3_unshut 9 = .ok (.putfield 65, 3) := by decide +kernel
theorem dX3_unshut_12 : decode cX3_unshut 12 = .ok (.return_, 1) := by decide +kernel
set_option maxRecDepth 100000 in
def f_X3_unshut (p0 : Nat) (p1 : Int32) (μ : dtM) : Option dtM :=
  (opGI 3 5 μ p0).bind fun x1 => (opPI 3 5 μ p0 (x1 ||| ((1 : Int32) <<< (p1 &&& 31)))).bind fun μ3 => some μ3
set_option maxRecDepth 100000 in
theorem c_X3_unshut {F : dtM} (p0 : Nat) (p1 : Int32) (μ : dtM) (h : f_X3_unshut p0 p1 μ = some F) : dtMet yX3_unshut cX3_unshut 2 (none) 1 [.ref p0, .int p1] μ (none) F := by
  refine dtMet.of (by decide +kernel) (Nat.le_of_ble_eq_true rfl) (show dtW yX3_unshut cX3_unshut 2 (none) 1 (none) F 0 [some (.ref p0), some (.int p1)] [] μ from ?_)
  rw [f_X3_unshut] at h
  refine dr_aload_n p0 dX3_unshut_0 rfl ?_
  refine dr_dup dX3_unshut_1 rfl ?_
  obtain ⟨x1, e2, h⟩ := dtBind h
  refine dr_getI x1 dX3_unshut_2 fl_RX3_65 e2 ?_
  refine dr_iconst (1 : Int32) dX3_unshut_5 (by decide) ?_
  refine dr_iload_n p1 dX3_unshut_6 rfl ?_
  refine dr_ishl dX3_unshut_7 ?_
  refine dr_ior dX3_unshut_8 ?_
  obtain ⟨μ3, e4, h⟩ := dtBind h
  refine dr_putI μ3 dX3_unshut_9 fl_RX3_65 rfl e4 ?_
  cases h
  exact dr_return dX3_unshut_12
/-! X3_passThrough -/
theorem dX3_passThrough_0 : decode cX3_passThrough 0 = .ok (.aload_n 0, 1) := by decide +kernel
theorem dX3_passThrough_1 : decode cX3_passThrough 1 = .ok (.getfield 38, 3) := by decide +kernel
theorem dX3_passThrough_4 : decode cX3_passThrough 4 = .ok (.iload_n 1, 1) := by decide +kernel
theorem dX3_passThrough_5 : decode cX3_passThrough 5 = .ok (.aload_n 0, 1) := by decide +kernel
theorem dX3_passThrough_6 : decode cX3_passThrough 6 = .ok (.getfield 38, 3) := by decide +kernel
theorem dX3_passThrough_9 : decode cX3_passThrough 9 = .ok (.iload_n 1, 1) := by decide +kernel
theorem dX3_passThrough_10 : decode cX3_passThrough 10 = .ok (.iaload, 1) := by decide +kernel
theorem dX3_passThrough_11 : decode cX3_passThrough 11 = .ok (.aload_n 0, 1) := by decide +kernel
theorem dX3_passThrough_12 : decode cX3_passThrough 12 = .ok (.getfield 22, 3) := by decide +kernel
theorem dX3_passThrough_15 : decode cX3_passThrough 15 = .ok (.iload_n 2, 1) := by decide +kernel
theorem dX3_passThrough_16 : decode cX3_passThrough 16 = .ok (.iaload, 1) := by decide +kernel
theorem dX3_passThrough_17 : decode cX3_passThrough 17 = .ok (.if_icmp .ne 12, 3) := by decide +kernel
theorem dX3_passThrough_20 : decode cX3_passThrough 20 = .ok (.aload_n 0, 1) := by decide +kernel
theorem dX3_passThrough_21 : decode cX3_passThrough 21 = .ok (.getfield 26, 3) := by decide +kernel
theorem dX3_passThrough_24 : decode cX3_passThrough 24 = .ok (.iload_n 2, 1) := by decide +kernel
theorem dX3_passThrough_25 : decode cX3_passThrough 25 = .ok (.iaload, 1) := by decide +kernel
theorem dX3_passThrough_26 : decode cX3_passThrough 26 = .ok (.goto 9, 3) := by decide +kernel
theorem dX3_passThrough_29 : decode cX3_passThrough 29 = .ok (.aload_n 0, 1) := by decide +kernel
theorem dX3_passThrough_30 : decode cX3_passThrough 30 = .ok (.getfield 22, 3) := by decide +kernel
theorem dX3_passThrough_33 : decode cX3_passThrough 33 = .ok (.iload_n 2, 1) := by decide +kernel
theorem dX3_passThrough_34 : decode cX3_passThrough 34 = .ok (.iaload, 1) := by decide +kernel
theorem dX3_passThrough_35 : decode cX3_passThrough 35 = .ok (.iastore, 1) := by decide +kernel
theorem dX3_passThrough_36 : decode cX3_passThrough 36 = .ok (.return_, 1) := by decide +kernel
set_option maxRecDepth 100000 in
def f_X3_passThrough_35 (s0 : Nat) (s1 : Int32) (s2 : Int32) (μ : dtM) : Option dtM :=
  (opSI μ s0 s1 s2).bind fun μ1 => some μ1
set_option maxRecDepth 100000 in
def f_X3_passThrough (p0 : Nat) (p1 : Int32) (p2 : Int32) (μ : dtM) : Option dtM :=
  (opGR 3 14 μ p0).bind fun x1 => (opGR 3 14 μ p0).bind fun x3 => (opLI 1 μ x3 p1).bind fun x5 => (opGR 3 9 μ p0).bind fun x7 => (opLI 1 μ x7 p2).bind fun x9 => if x5 = x9 then ((opGR 3 10 μ p0).bind fun x18 => (opLI 1 μ x18 p2).bind fun x20 => f_X3_passThrough_35 x1 p1 x20 μ) else ((opGR 3 9 μ p0).bind fun x14 => (opLI 1 μ x14 p2).bind fun x16 => f_X3_passThrough_35 x1 p1 x16 μ)
set_option maxRecDepth 100000 in
theorem c_X3_passThrough_35 {F : dtM} (s0 : Nat) (s1 : Int32) (s2 : Int32) (μ : dtM) (h : f_X3_passThrough_35 s0 s1 s2 μ = some F) : dtW yX3_passThrough cX3_passThrough 3 (none) 1 (none) F 35 [] [.int s2, .int s1, .ref s0] μ := by
  rw [f_X3_passThrough_35] at h
  obtain ⟨μ1, e2, h⟩ := dtBind h
  refine dr_iastore μ1 dX3_passThrough_35 e2 ?_
  cases h
  exact dr_return dX3_passThrough_36
set_option maxRecDepth 100000 in
theorem c_X3_passThrough {F : dtM} (p0 : Nat) (p1 : Int32) (p2 : Int32) (μ : dtM) (h : f_X3_passThrough p0 p1 p2 μ = some F) : dtMet yX3_passThrough cX3_passThrough 3 (none) 1 [.ref p0, .int p1, .int p2] μ (none) F := by
  refine dtMet.of (by decide +kernel) (Nat.le_of_ble_eq_true rfl) (show dtW yX3_passThrough cX3_passThrough 3 (none) 1 (none) F 0 [some (.ref p0), some (.int p1), some (.int p2)] [] μ from ?_)
  rw [f_X3_passThrough] at h
  refine dr_aload_n p0 dX3_passThrough_0 rfl ?_
  obtain ⟨x1, e2, h⟩ := dtBind h
  refine dr_getR x1 dX3_passThrough_1 fl_RX3_38 e2 ?_
  refine dr_iload_n p1 dX3_passThrough_4 rfl ?_
  refine dr_aload_n p0 dX3_passThrough_5 rfl ?_
  obtain ⟨x3, e4, h⟩ := dtBind h
  refine dr_getR x3 dX3_passThrough_6 fl_RX3_38 e4 ?_
  refine dr_iload_n p1 dX3_passThrough_9 rfl ?_
  obtain ⟨x5, e6, h⟩ := dtBind h
  refine dr_iaload x5 dX3_passThrough_10 e6 ?_
  refine dr_aload_n p0 dX3_passThrough_11 rfl ?_
  obtain ⟨x7, e8, h⟩ := dtBind h
  refine dr_getR x7 dX3_passThrough_12 fl_RX3_22 e8 ?_
  refine dr_iload_n p2 dX3_passThrough_15 rfl ?_
  obtain ⟨x9, e10, h⟩ := dtBind h
  refine dr_iaload x9 dX3_passThrough_16 e10 ?_
  obtain ⟨ht12, hf13⟩ := dtIte h
  refine dr_icmp_ne 29 dX3_passThrough_17 (by decide) (fun hc11 => ?_) (fun hc11 => ?_)
  · have h := hf13 hc11
    refine dr_aload_n p0 dX3_passThrough_29 rfl ?_
    obtain ⟨x14, e15, h⟩ := dtBind h
    refine dr_getR x14 dX3_passThrough_30 fl_RX3_22 e15 ?_
    refine dr_iload_n p2 dX3_passThrough_33 rfl ?_
    obtain ⟨x16, e17, h⟩ := dtBind h
    refine dr_iaload x16 dX3_passThrough_34 e17 ?_
    refine dr_mask [] [] rfl ?_
    exact c_X3_passThrough_35 x1 p1 x16 μ h
  · have h := ht12 hc11
    refine dr_aload_n p0 dX3_passThrough_20 rfl ?_
    obtain ⟨x18, e19, h⟩ := dtBind h
    refine dr_getR x18 dX3_passThrough_21 fl_RX3_26 e19 ?_
    refine dr_iload_n p2 dX3_passThrough_24 rfl ?_
    obtain ⟨x20, e21, h⟩ := dtBind h
    refine dr_iaload x20 dX3_passThrough_25 e21 ?_
    refine dr_goto 35 dX3_passThrough_26 (by decide) ?_
    refine dr_mask [] [] rfl ?_
    exact c_X3_passThrough_35 x1 p1 x20 μ h
/-! X3_soundOfWord -/
theorem dX3_soundOfWord_0 : decode cX3_soundOfWord 0 = .ok (.aload_n 0, 1) := by decide +kernel
theorem dX3_soundOfWord_1 : decode cX3_soundOfWord 1 = .ok (.getfield 35, 3) := by decide +kernel
theorem dX3_soundOfWord_4 : decode cX3_soundOfWord 4 = .ok (.iload_n 1, 1) := by decide +kernel
theorem dX3_soundOfWord_5 : decode cX3_soundOfWord 5 = .ok (.iconst 4, 1) := by decide +kernel
theorem dX3_soundOfWord_6 : decode cX3_soundOfWord 6 = .ok (.imul, 1) := by decide +kernel
theorem dX3_soundOfWord_7 : decode cX3_soundOfWord 7 = .ok (.iload_n 2, 1) := by decide +kernel
theorem dX3_soundOfWord_8 : decode cX3_soundOfWord 8 = .ok (.iadd, 1) := by decide +kernel
theorem dX3_soundOfWord_9 : decode cX3_soundOfWord 9 = .ok (.iaload, 1) := by decide +kernel
theorem dX3_soundOfWord_10 : decode cX3_soundOfWord 10 = .ok (.ireturn, 1) := by decide +kernel
set_option maxRecDepth 100000 in
def f_X3_soundOfWord (p0 : Nat) (p1 : Int32) (p2 : Int32) (μ : dtM) : Option (Int32 × dtM) :=
  (opGR 3 13 μ p0).bind fun x1 => (opLI 1 μ x1 ((p1 * (4 : Int32)) + p2)).bind fun x3 => some (x3, μ)
set_option maxRecDepth 100000 in
theorem c_X3_soundOfWord {r : Int32} {F : dtM} (p0 : Nat) (p1 : Int32) (p2 : Int32) (μ : dtM) (h : f_X3_soundOfWord p0 p1 p2 μ = some (r, F)) : dtMet yX3_soundOfWord cX3_soundOfWord 3 (some .int) 1 [.ref p0, .int p1, .int p2] μ (some (.int r)) F := by
  refine dtMet.of (by decide +kernel) (Nat.le_of_ble_eq_true rfl) (show dtW yX3_soundOfWord cX3_soundOfWord 3 (some .int) 1 (some (.int r)) F 0 [some (.ref p0), some (.int p1), some (.int p2)] [] μ from ?_)
  rw [f_X3_soundOfWord] at h
  refine dr_aload_n p0 dX3_soundOfWord_0 rfl ?_
  obtain ⟨x1, e2, h⟩ := dtBind h
  refine dr_getR x1 dX3_soundOfWord_1 fl_RX3_35 e2 ?_
  refine dr_iload_n p1 dX3_soundOfWord_4 rfl ?_
  refine dr_iconst (4 : Int32) dX3_soundOfWord_5 (by decide) ?_
  refine dr_imul dX3_soundOfWord_6 ?_
  refine dr_iload_n p2 dX3_soundOfWord_7 rfl ?_
  refine dr_iadd dX3_soundOfWord_8 ?_
  obtain ⟨x3, e4, h⟩ := dtBind h
  refine dr_iaload x3 dX3_soundOfWord_9 e4 ?_
  cases h
  exact dr_ireturn dX3_soundOfWord_10 rfl
/-! X3_addRoom -/
theorem dX3_addRoom_0 : decode cX3_addRoom 0 = .ok (.aload_n 0, 1) := by decide +kernel
theorem dX3_addRoom_1 : decode cX3_addRoom 1 = .ok (.getfield 53, 3) := by decide +kernel
theorem dX3_addRoom_4 : decode cX3_addRoom 4 = .ok (.bipush 7, 2) := by decide +kernel
theorem dX3_addRoom_6 : decode cX3_addRoom 6 = .ok (.if_icmp .ge 23, 3) := by decide +kernel
theorem dX3_addRoom_9 : decode cX3_addRoom 9 = .ok (.aload_n 0, 1) := by decide +kernel
theorem dX3_addRoom_10 : decode cX3_addRoom 10 = .ok (.getfield 15, 3) := by decide +kernel
theorem dX3_addRoom_13 : decode cX3_addRoom 13 = .ok (.aload_n 0, 1) := by decide +kernel
theorem dX3_addRoom_14 : decode cX3_addRoom 14 = .ok (.getfield 53, 3) := by decide +kernel
theorem dX3_addRoom_17 : decode cX3_addRoom 17 = .ok (.lload_n 1, 1) := by decide +kernel
theorem dX3_addRoom_18 : decode cX3_addRoom 18 = .ok (.lastore, 1) := by decide +kernel
theorem dX3_addRoom_19 : decode cX3_addRoom 19 = .ok (.aload_n 0, 1) := by decide +kernel
theorem dX3_addRoom_20 : decode cX3_addRoom 20 = .ok (.dup, 1) := by decide +kernel
theorem dX3_addRoom_21 : decode cX3_addRoom 21 = .ok (.getfield 53, 3) := by decide +kernel
theorem dX3_addRoom_24 : decode cX3_addRoom 24 = .ok (.iconst 1, 1) := by decide +kernel
theorem dX3_addRoom_25 : decode cX3_addRoom 25 = .ok (.iadd, 1) := by decide +kernel
theorem dX3_addRoom_26 : decode cX3_addRoom 26 = .ok (.putfield 53, 3) := by decide +kernel
theorem dX3_addRoom_29 : decode cX3_addRoom 29 = .ok (.return_, 1) := by decide +kernel
set_option maxRecDepth 100000 in
def f_X3_addRoom_29  (μ : dtM) : Option dtM :=
  some μ
set_option maxRecDepth 100000 in
def f_X3_addRoom (p0 : Nat) (p1 : Int64) (μ : dtM) : Option dtM :=
  (opGI 3 0 μ p0).bind fun x1 => if (7 : Int32) ≤ x1 then (f_X3_addRoom_29 μ) else ((opGR 3 7 μ p0).bind fun x6 => (opGI 3 0 μ p0).bind fun x8 => (opSJ μ x6 x8 p1).bind fun μ10 => (opGI 3 0 μ10 p0).bind fun x12 => (opPI 3 0 μ10 p0 (x12 + (1 : Int32))).bind fun μ14 => f_X3_addRoom_29 μ14)
set_option maxRecDepth 100000 in
theorem c_X3_addRoom_29 {F : dtM}  (μ : dtM) (h : f_X3_addRoom_29  μ = some F) : dtW yX3_addRoom cX3_addRoom 3 (none) 1 (none) F 29 [] [] μ := by
  rw [f_X3_addRoom_29] at h
  cases h
  exact dr_return dX3_addRoom_29
set_option maxRecDepth 100000 in
theorem c_X3_addRoom {F : dtM} (p0 : Nat) (p1 : Int64) (μ : dtM) (h : f_X3_addRoom p0 p1 μ = some F) : dtMet yX3_addRoom cX3_addRoom 3 (none) 1 [.ref p0, .long p1] μ (none) F := by
  refine dtMet.of (by decide +kernel) (Nat.le_of_ble_eq_true rfl) (show dtW yX3_addRoom cX3_addRoom 3 (none) 1 (none) F 0 [some (.ref p0), some (.long p1), none] [] μ from ?_)
  rw [f_X3_addRoom] at h
  refine dr_aload_n p0 dX3_addRoom_0 rfl ?_
  obtain ⟨x1, e2, h⟩ := dtBind h
  refine dr_getI x1 dX3_addRoom_1 fl_RX3_53 e2 ?_
  refine dr_bipush (7 : Int32) dX3_addRoom_4 (by decide) ?_
  obtain ⟨ht4, hf5⟩ := dtIte h
  refine dr_icmp_ge 29 dX3_addRoom_6 (by decide) (fun hc3 => ?_) (fun hc3 => ?_)
  · have h := ht4 hc3
    refine dr_mask [] [] rfl ?_
    exact c_X3_addRoom_29 μ h
  · have h := hf5 hc3
    refine dr_aload_n p0 dX3_addRoom_9 rfl ?_
    obtain ⟨x6, e7, h⟩ := dtBind h
    refine dr_getR x6 dX3_addRoom_10 fl_RX3_15 e7 ?_
    refine dr_aload_n p0 dX3_addRoom_13 rfl ?_
    obtain ⟨x8, e9, h⟩ := dtBind h
    refine dr_getI x8 dX3_addRoom_14 fl_RX3_53 e9 ?_
    refine dr_lload_n p1 dX3_addRoom_17 rfl ?_
    obtain ⟨μ10, e11, h⟩ := dtBind h
    refine dr_lastore μ10 dX3_addRoom_18 e11 ?_
    refine dr_aload_n p0 dX3_addRoom_19 rfl ?_
    refine dr_dup dX3_addRoom_20 rfl ?_
    obtain ⟨x12, e13, h⟩ := dtBind h
    refine dr_getI x12 dX3_addRoom_21 fl_RX3_53 e13 ?_
    refine dr_iconst (1 : Int32) dX3_addRoom_24 (by decide) ?_
    refine dr_iadd dX3_addRoom_25 ?_
    obtain ⟨μ14, e15, h⟩ := dtBind h
    refine dr_putI μ14 dX3_addRoom_26 fl_RX3_53 rfl e15 ?_
    refine dr_mask [] [] rfl ?_
    exact c_X3_addRoom_29 μ14 h
/-! X3_addDoor -/
theorem dX3_addDoor_0 : decode cX3_addDoor 0 = .ok (.aload_n 0, 1) := by decide +kernel
theorem dX3_addDoor_1 : decode cX3_addDoor 1 = .ok (.getfield 56, 3) := by decide +kernel
theorem dX3_addDoor_4 : decode cX3_addDoor 4 = .ok (.bipush 10, 2) := by decide +kernel
theorem dX3_addDoor_6 : decode cX3_addDoor 6 = .ok (.if_icmp .ge 56, 3) := by decide +kernel
theorem dX3_addDoor_9 : decode cX3_addDoor 9 = .ok (.aload_n 0, 1) := by decide +kernel
theorem dX3_addDoor_10 : decode cX3_addDoor 10 = .ok (.getfield 22, 3) := by decide +kernel
theorem dX3_addDoor_13 : decode cX3_addDoor 13 = .ok (.aload_n 0, 1) := by decide +kernel
theorem dX3_addDoor_14 : decode cX3_addDoor 14 = .ok (.getfield 56, 3) := by decide +kernel
theorem dX3_addDoor_17 : decode cX3_addDoor 17 = .ok (.iload_n 1, 1) := by decide +kernel
theorem dX3_addDoor_18 : decode cX3_addDoor 18 = .ok (.iastore, 1) := by decide +kernel
theorem dX3_addDoor_19 : decode cX3_addDoor 19 = .ok (.aload_n 0, 1) := by decide +kernel
theorem dX3_addDoor_20 : decode cX3_addDoor 20 = .ok (.getfield 26, 3) := by decide +kernel
theorem dX3_addDoor_23 : decode cX3_addDoor 23 = .ok (.aload_n 0, 1) := by decide +kernel
theorem dX3_addDoor_24 : decode cX3_addDoor 24 = .ok (.getfield 56, 3) := by decide +kernel
theorem dX3_addDoor_27 : decode cX3_addDoor 27 = .ok (.iload_n 2, 1) := by decide +kernel
theorem dX3_addDoor_28 : decode cX3_addDoor 28 = .ok (.iastore, 1) := by decide +kernel
theorem dX3_addDoor_29 : decode cX3_addDoor 29 = .ok (.aload_n 0, 1) := by decide +kernel
theorem dX3_addDoor_30 : decode cX3_addDoor 30 = .ok (.getfield 29, 3) := by decide +kernel
theorem dX3_addDoor_33 : decode cX3_addDoor 33 = .ok (.aload_n 0, 1) := by decide +kernel
theorem dX3_addDoor_34 : decode cX3_addDoor 34 = .ok (.getfield 56, 3) := by decide +kernel
theorem dX3_addDoor_37 : decode cX3_addDoor 37 = .ok (.iload_n 3, 1) := by decide +kernel
theorem dX3_addDoor_38 : decode cX3_addDoor 38 = .ok (.iastore, 1) := by decide +kernel
theorem dX3_addDoor_39 : decode cX3_addDoor 39 = .ok (.iload 4, 2) := by decide +kernel
theorem dX3_addDoor_41 : decode cX3_addDoor 41 = .ok (.ifCond .eq 11, 3) := by decide +kernel
theorem dX3_addDoor_44 : decode cX3_addDoor 44 = .ok (.aload_n 0, 1) := by decide +kernel
theorem dX3_addDoor_45 : decode cX3_addDoor 45 = .ok (.aload_n 0, 1) := by decide +kernel
theorem dX3_addDoor_46 : decode cX3_addDoor 46 = .ok (.getfield 56, 3) := by decide +kernel
theorem dX3_addDoor_49 : decode cX3_addDoor 49 = .ok (.invokevirtual 88, 3) := by decide +kernel
theorem dX3_addDoor_52 : decode cX3_addDoor 52 = .ok (.aload_n 0, 1) := by decide +kernel
theorem dX3_addDoor_53 : decode cX3_addDoor 53 = .ok (.dup, 1) := by decide +kernel
theorem dX3_addDoor_54 : decode cX3_addDoor 54 = .ok (.getfield 56, 3) := by decide +kernel
theorem dX3_addDoor_57 : decode cX3_addDoor 57 = .ok (.iconst 1, 1) := by decide +kernel
theorem dX3_addDoor_58 : decode cX3_addDoor 58 = .ok (.iadd, 1) := by decide +kernel
theorem dX3_addDoor_59 : decode cX3_addDoor 59 = .ok (.putfield 56, 3) := by decide +kernel
theorem dX3_addDoor_62 : decode cX3_addDoor 62 = .ok (.return_, 1) := by decide +kernel
set_option maxRecDepth 100000 in
def f_X3_addDoor_62  (μ : dtM) : Option dtM :=
  some μ
set_option maxRecDepth 100000 in
def f_X3_addDoor_52 (l0 : Nat) (μ : dtM) : Option dtM :=
  (opGI 3 1 μ l0).bind fun x1 => (opPI 3 1 μ l0 (x1 + (1 : Int32))).bind fun μ3 => f_X3_addDoor_62 μ3
set_option maxRecDepth 100000 in
def f_X3_addDoor (p0 : Nat) (p1 : Int32) (p2 : Int32) (p3 : Int32) (p4 : Int32) (μ : dtM) : Option dtM :=
  (opGI 3 1 μ p0).bind fun x1 => if (10 : Int32) ≤ x1 then (f_X3_addDoor_62 μ) else ((opGR 3 9 μ p0).bind fun x6 => (opGI 3 1 μ p0).bind fun x8 => (opSI μ x6 x8 p1).bind fun μ10 => (opGR 3 10 μ10 p0).bind fun x12 => (opGI 3 1 μ10 p0).bind fun x14 => (opSI μ10 x12 x14 p2).bind fun μ16 => (opGR 3 11 μ16 p0).bind fun x18 => (opGI 3 1 μ16 p0).bind fun x20 => (opSI μ16 x18 x20 p3).bind fun μ22 => if p4 = 0 then (f_X3_addDoor_52 p0 μ22) else ((opGI 3 1 μ22 p0).bind fun x27 => (opRv 3 μ22 p0).bind fun _ => (f_X3_unshut p0 x27 μ22).bind fun μ30 => f_X3_addDoor_52 p0 μ30))
set_option maxRecDepth 100000 in
theorem c_X3_addDoor_62 {F : dtM}  (μ : dtM) (h : f_X3_addDoor_62  μ = some F) : dtW yX3_addDoor cX3_addDoor 5 (none) 2 (none) F 62 [] [] μ := by
  rw [f_X3_addDoor_62] at h
  cases h
  exact dr_return dX3_addDoor_62
set_option maxRecDepth 100000 in
theorem c_X3_addDoor_52 {F : dtM} (l0 : Nat) (μ : dtM) (h : f_X3_addDoor_52 l0 μ = some F) : dtW yX3_addDoor cX3_addDoor 5 (none) 2 (none) F 52 [some (.ref l0)] [] μ := by
  rw [f_X3_addDoor_52] at h
  refine dr_aload_n l0 dX3_addDoor_52 rfl ?_
  refine dr_dup dX3_addDoor_53 rfl ?_
  obtain ⟨x1, e2, h⟩ := dtBind h
  refine dr_getI x1 dX3_addDoor_54 fl_RX3_56 e2 ?_
  refine dr_iconst (1 : Int32) dX3_addDoor_57 (by decide) ?_
  refine dr_iadd dX3_addDoor_58 ?_
  obtain ⟨μ3, e4, h⟩ := dtBind h
  refine dr_putI μ3 dX3_addDoor_59 fl_RX3_56 rfl e4 ?_
  refine dr_mask [] [] rfl ?_
  exact c_X3_addDoor_62 μ3 h
set_option maxRecDepth 100000 in
theorem c_X3_addDoor {F : dtM} (p0 : Nat) (p1 : Int32) (p2 : Int32) (p3 : Int32) (p4 : Int32) (μ : dtM) (h : f_X3_addDoor p0 p1 p2 p3 p4 μ = some F) : dtMet yX3_addDoor cX3_addDoor 5 (none) 2 [.ref p0, .int p1, .int p2, .int p3, .int p4] μ (none) F := by
  refine dtMet.of (by decide +kernel) (Nat.le_of_ble_eq_true rfl) (show dtW yX3_addDoor cX3_addDoor 5 (none) 2 (none) F 0 [some (.ref p0), some (.int p1), some (.int p2), some (.int p3), some (.int p4)] [] μ from ?_)
  rw [f_X3_addDoor] at h
  refine dr_aload_n p0 dX3_addDoor_0 rfl ?_
  obtain ⟨x1, e2, h⟩ := dtBind h
  refine dr_getI x1 dX3_addDoor_1 fl_RX3_56 e2 ?_
  refine dr_bipush (10 : Int32) dX3_addDoor_4 (by decide) ?_
  obtain ⟨ht4, hf5⟩ := dtIte h
  refine dr_icmp_ge 62 dX3_addDoor_6 (by decide) (fun hc3 => ?_) (fun hc3 => ?_)
  · have h := ht4 hc3
    refine dr_mask [] [] rfl ?_
    exact c_X3_addDoor_62 μ h
  · have h := hf5 hc3
    refine dr_aload_n p0 dX3_addDoor_9 rfl ?_
    obtain ⟨x6, e7, h⟩ := dtBind h
    refine dr_getR x6 dX3_addDoor_10 fl_RX3_22 e7 ?_
    refine dr_aload_n p0 dX3_addDoor_13 rfl ?_
    obtain ⟨x8, e9, h⟩ := dtBind h
    refine dr_getI x8 dX3_addDoor_14 fl_RX3_56 e9 ?_
    refine dr_iload_n p1 dX3_addDoor_17 rfl ?_
    obtain ⟨μ10, e11, h⟩ := dtBind h
    refine dr_iastore μ10 dX3_addDoor_18 e11 ?_
    refine dr_aload_n p0 dX3_addDoor_19 rfl ?_
    obtain ⟨x12, e13, h⟩ := dtBind h
    refine dr_getR x12 dX3_addDoor_20 fl_RX3_26 e13 ?_
    refine dr_aload_n p0 dX3_addDoor_23 rfl ?_
    obtain ⟨x14, e15, h⟩ := dtBind h
    refine dr_getI x14 dX3_addDoor_24 fl_RX3_56 e15 ?_
    refine dr_iload_n p2 dX3_addDoor_27 rfl ?_
    obtain ⟨μ16, e17, h⟩ := dtBind h
    refine dr_iastore μ16 dX3_addDoor_28 e17 ?_
    refine dr_aload_n p0 dX3_addDoor_29 rfl ?_
    obtain ⟨x18, e19, h⟩ := dtBind h
    refine dr_getR x18 dX3_addDoor_30 fl_RX3_29 e19 ?_
    refine dr_aload_n p0 dX3_addDoor_33 rfl ?_
    obtain ⟨x20, e21, h⟩ := dtBind h
    refine dr_getI x20 dX3_addDoor_34 fl_RX3_56 e21 ?_
    refine dr_iload_n p3 dX3_addDoor_37 rfl ?_
    obtain ⟨μ22, e23, h⟩ := dtBind h
    refine dr_iastore μ22 dX3_addDoor_38 e23 ?_
    refine dr_iload p4 dX3_addDoor_39 rfl ?_
    obtain ⟨ht25, hf26⟩ := dtIte h
    refine dr_if_eq 52 dX3_addDoor_41 (by decide) (fun hc24 => ?_) (fun hc24 => ?_)
    · have h := ht25 hc24
      refine dr_mask [true] [some (.ref p0)] rfl ?_
      exact c_X3_addDoor_52 p0 μ22 h
    · have h := hf26 hc24
      refine dr_aload_n p0 dX3_addDoor_44 rfl ?_
      refine dr_aload_n p0 dX3_addDoor_45 rfl ?_
      obtain ⟨x27, e28, h⟩ := dtBind h
      refine dr_getI x27 dX3_addDoor_46 fl_RX3_56 e28 ?_
      obtain ⟨_, hb29, h⟩ := dtBind h
      obtain ⟨μ30, e31, h⟩ := dtBind h
      refine dr_callV_v (S0 := []) [.int x27] μ30 dX3_addDoor_49 (c_X3_unshut p0 x27 μ22 e31) mf_X3_unshut wt_694 wt_695 wt_693 rfl (dtRv hb29) (by decide) rfl (Nat.le_of_ble_eq_true rfl) (Nat.le_of_ble_eq_true rfl) rfl ?_
      refine dr_mask [true] [some (.ref p0)] rfl ?_
      exact c_X3_addDoor_52 p0 μ30 h
/-! X3_addPerson -/
theorem dX3_addPerson_0 : decode cX3_addPerson 0 = .ok (.aload_n 0, 1) := by decide +kernel
theorem dX3_addPerson_1 : decode cX3_addPerson 1 = .ok (.getfield 62, 3) := by decide +kernel
theorem dX3_addPerson_4 : decode cX3_addPerson 4 = .ok (.iconst 5, 1) := by decide +kernel
theorem dX3_addPerson_5 : decode cX3_addPerson 5 = .ok (.if_icmp .ge 63, 3) := by decide +kernel
theorem dX3_addPerson_8 : decode cX3_addPerson 8 = .ok (.aload_n 0, 1) := by decide +kernel
theorem dX3_addPerson_9 : decode cX3_addPerson 9 = .ok (.getfield 19, 3) := by decide +kernel
theorem dX3_addPerson_12 : decode cX3_addPerson 12 = .ok (.aload_n 0, 1) := by decide +kernel
theorem dX3_addPerson_13 : decode cX3_addPerson 13 = .ok (.getfield 62, 3) := by decide +kernel
theorem dX3_addPerson_16 : decode cX3_addPerson 16 = .ok (.lload_n 1, 1) := by decide +kernel
theorem dX3_addPerson_17 : decode cX3_addPerson 17 = .ok (.lastore, 1) := by decide +kernel
theorem dX3_addPerson_18 : decode cX3_addPerson 18 = .ok (.aload_n 0, 1) := by decide +kernel
theorem dX3_addPerson_19 : decode cX3_addPerson 19 = .ok (.getfield 38, 3) := by decide +kernel
theorem dX3_addPerson_22 : decode cX3_addPerson 22 = .ok (.aload_n 0, 1) := by decide +kernel
theorem dX3_addPerson_23 : decode cX3_addPerson 23 = .ok (.getfield 62, 3) := by decide +kernel
theorem dX3_addPerson_26 : decode cX3_addPerson 26 = .ok (.iload_n 3, 1) := by decide +kernel
theorem dX3_addPerson_27 : decode cX3_addPerson 27 = .ok (.iastore, 1) := by decide +kernel
theorem dX3_addPerson_28 : decode cX3_addPerson 28 = .ok (.aload_n 0, 1) := by decide +kernel
theorem dX3_addPerson_29 : decode cX3_addPerson 29 = .ok (.getfield 41, 3) := by decide +kernel
theorem dX3_addPerson_32 : decode cX3_addPerson 32 = .ok (.aload_n 0, 1) := by decide +kernel
theorem dX3_addPerson_33 : decode cX3_addPerson 33 = .ok (.getfield 62, 3) := by decide +kernel
theorem dX3_addPerson_36 : decode cX3_addPerson 36 = .ok (.iconst 0, 1) := by decide +kernel
theorem dX3_addPerson_37 : decode cX3_addPerson 37 = .ok (.iastore, 1) := by decide +kernel
theorem dX3_addPerson_38 : decode cX3_addPerson 38 = .ok (.aload_n 0, 1) := by decide +kernel
theorem dX3_addPerson_39 : decode cX3_addPerson 39 = .ok (.getfield 44, 3) := by decide +kernel
theorem dX3_addPerson_42 : decode cX3_addPerson 42 = .ok (.aload_n 0, 1) := by decide +kernel
theorem dX3_addPerson_43 : decode cX3_addPerson 43 = .ok (.getfield 62, 3) := by decide +kernel
theorem dX3_addPerson_46 : decode cX3_addPerson 46 = .ok (.iconst 0, 1) := by decide +kernel
theorem dX3_addPerson_47 : decode cX3_addPerson 47 = .ok (.iastore, 1) := by decide +kernel
theorem dX3_addPerson_48 : decode cX3_addPerson 48 = .ok (.aload_n 0, 1) := by decide +kernel
theorem dX3_addPerson_49 : decode cX3_addPerson 49 = .ok (.getfield 47, 3) := by decide +kernel
theorem dX3_addPerson_52 : decode cX3_addPerson 52 = .ok (.aload_n 0, 1) := by decide +kernel
theorem dX3_addPerson_53 : decode cX3_addPerson 53 = .ok (.getfield 62, 3) := by decide +kernel
theorem dX3_addPerson_56 : decode cX3_addPerson 56 = .ok (.iconst 0, 1) := by decide +kernel
theorem dX3_addPerson_57 : decode cX3_addPerson 57 = .ok (.iastore, 1) := by decide +kernel
theorem dX3_addPerson_58 : decode cX3_addPerson 58 = .ok (.aload_n 0, 1) := by decide +kernel
theorem dX3_addPerson_59 : decode cX3_addPerson 59 = .ok (.dup, 1) := by decide +kernel
theorem dX3_addPerson_60 : decode cX3_addPerson 60 = .ok (.getfield 62, 3) := by decide +kernel
theorem dX3_addPerson_63 : decode cX3_addPerson 63 = .ok (.iconst 1, 1) := by decide +kernel
theorem dX3_addPerson_64 : decode cX3_addPerson 64 = .ok (.iadd, 1) := by decide +kernel
theorem dX3_addPerson_65 : decode cX3_addPerson 65 = .ok (.putfield 62, 3) := by decide +kernel
theorem dX3_addPerson_68 : decode cX3_addPerson 68 = .ok (.return_, 1) := by decide +kernel
set_option maxRecDepth 100000 in
def f_X3_addPerson_68  (μ : dtM) : Option dtM :=
  some μ
set_option maxRecDepth 100000 in
def f_X3_addPerson (p0 : Nat) (p1 : Int64) (p3 : Int32) (μ : dtM) : Option dtM :=
  (opGI 3 3 μ p0).bind fun x1 => if (5 : Int32) ≤ x1 then (f_X3_addPerson_68 μ) else ((opGR 3 8 μ p0).bind fun x6 => (opGI 3 3 μ p0).bind fun x8 => (opSJ μ x6 x8 p1).bind fun μ10 => (opGR 3 14 μ10 p0).bind fun x12 => (opGI 3 3 μ10 p0).bind fun x14 => (opSI μ10 x12 x14 p3).bind fun μ16 => (opGR 3 15 μ16 p0).bind fun x18 => (opGI 3 3 μ16 p0).bind fun x20 => (opSI μ16 x18 x20 (0 : Int32)).bind fun μ22 => (opGR 3 16 μ22 p0).bind fun x24 => (opGI 3 3 μ22 p0).bind fun x26 => (opSI μ22 x24 x26 (0 : Int32)).bind fun μ28 => (opGR 3 17 μ28 p0).bind fun x30 => (opGI 3 3 μ28 p0).bind fun x32 => (opSI μ28 x30 x32 (0 : Int32)).bind fun μ34 => (opGI 3 3 μ34 p0).bind fun x36 => (opPI 3 3 μ34 p0 (x36 + (1 : Int32))).bind fun μ38 => f_X3_addPerson_68 μ38)
set_option maxRecDepth 100000 in
theorem c_X3_addPerson_68 {F : dtM}  (μ : dtM) (h : f_X3_addPerson_68  μ = some F) : dtW yX3_addPerson cX3_addPerson 4 (none) 1 (none) F 68 [] [] μ := by
  rw [f_X3_addPerson_68] at h
  cases h
  exact dr_return dX3_addPerson_68
set_option maxRecDepth 100000 in
theorem c_X3_addPerson {F : dtM} (p0 : Nat) (p1 : Int64) (p3 : Int32) (μ : dtM) (h : f_X3_addPerson p0 p1 p3 μ = some F) : dtMet yX3_addPerson cX3_addPerson 4 (none) 1 [.ref p0, .long p1, .int p3] μ (none) F := by
  refine dtMet.of (by decide +kernel) (Nat.le_of_ble_eq_true rfl) (show dtW yX3_addPerson cX3_addPerson 4 (none) 1 (none) F 0 [some (.ref p0), some (.long p1), none, some (.int p3)] [] μ from ?_)
  rw [f_X3_addPerson] at h
  refine dr_aload_n p0 dX3_addPerson_0 rfl ?_
  obtain ⟨x1, e2, h⟩ := dtBind h
  refine dr_getI x1 dX3_addPerson_1 fl_RX3_62 e2 ?_
  refine dr_iconst (5 : Int32) dX3_addPerson_4 (by decide) ?_
  obtain ⟨ht4, hf5⟩ := dtIte h
  refine dr_icmp_ge 68 dX3_addPerson_5 (by decide) (fun hc3 => ?_) (fun hc3 => ?_)
  · have h := ht4 hc3
    refine dr_mask [] [] rfl ?_
    exact c_X3_addPerson_68 μ h
  · have h := hf5 hc3
    refine dr_aload_n p0 dX3_addPerson_8 rfl ?_
    obtain ⟨x6, e7, h⟩ := dtBind h
    refine dr_getR x6 dX3_addPerson_9 fl_RX3_19 e7 ?_
    refine dr_aload_n p0 dX3_addPerson_12 rfl ?_
    obtain ⟨x8, e9, h⟩ := dtBind h
    refine dr_getI x8 dX3_addPerson_13 fl_RX3_62 e9 ?_
    refine dr_lload_n p1 dX3_addPerson_16 rfl ?_
    obtain ⟨μ10, e11, h⟩ := dtBind h
    refine dr_lastore μ10 dX3_addPerson_17 e11 ?_
    refine dr_aload_n p0 dX3_addPerson_18 rfl ?_
    obtain ⟨x12, e13, h⟩ := dtBind h
    refine dr_getR x12 dX3_addPerson_19 fl_RX3_38 e13 ?_
    refine dr_aload_n p0 dX3_addPerson_22 rfl ?_
    obtain ⟨x14, e15, h⟩ := dtBind h
    refine dr_getI x14 dX3_addPerson_23 fl_RX3_62 e15 ?_
    refine dr_iload_n p3 dX3_addPerson_26 rfl ?_
    obtain ⟨μ16, e17, h⟩ := dtBind h
    refine dr_iastore μ16 dX3_addPerson_27 e17 ?_
    refine dr_aload_n p0 dX3_addPerson_28 rfl ?_
    obtain ⟨x18, e19, h⟩ := dtBind h
    refine dr_getR x18 dX3_addPerson_29 fl_RX3_41 e19 ?_
    refine dr_aload_n p0 dX3_addPerson_32 rfl ?_
    obtain ⟨x20, e21, h⟩ := dtBind h
    refine dr_getI x20 dX3_addPerson_33 fl_RX3_62 e21 ?_
    refine dr_iconst (0 : Int32) dX3_addPerson_36 (by decide) ?_
    obtain ⟨μ22, e23, h⟩ := dtBind h
    refine dr_iastore μ22 dX3_addPerson_37 e23 ?_
    refine dr_aload_n p0 dX3_addPerson_38 rfl ?_
    obtain ⟨x24, e25, h⟩ := dtBind h
    refine dr_getR x24 dX3_addPerson_39 fl_RX3_44 e25 ?_
    refine dr_aload_n p0 dX3_addPerson_42 rfl ?_
    obtain ⟨x26, e27, h⟩ := dtBind h
    refine dr_getI x26 dX3_addPerson_43 fl_RX3_62 e27 ?_
    refine dr_iconst (0 : Int32) dX3_addPerson_46 (by decide) ?_
    obtain ⟨μ28, e29, h⟩ := dtBind h
    refine dr_iastore μ28 dX3_addPerson_47 e29 ?_
    refine dr_aload_n p0 dX3_addPerson_48 rfl ?_
    obtain ⟨x30, e31, h⟩ := dtBind h
    refine dr_getR x30 dX3_addPerson_49 fl_RX3_47 e31 ?_
    refine dr_aload_n p0 dX3_addPerson_52 rfl ?_
    obtain ⟨x32, e33, h⟩ := dtBind h
    refine dr_getI x32 dX3_addPerson_53 fl_RX3_62 e33 ?_
    refine dr_iconst (0 : Int32) dX3_addPerson_56 (by decide) ?_
    obtain ⟨μ34, e35, h⟩ := dtBind h
    refine dr_iastore μ34 dX3_addPerson_57 e35 ?_
    refine dr_aload_n p0 dX3_addPerson_58 rfl ?_
    refine dr_dup dX3_addPerson_59 rfl ?_
    obtain ⟨x36, e37, h⟩ := dtBind h
    refine dr_getI x36 dX3_addPerson_60 fl_RX3_62 e37 ?_
    refine dr_iconst (1 : Int32) dX3_addPerson_63 (by decide) ?_
    refine dr_iadd dX3_addPerson_64 ?_
    obtain ⟨μ38, e39, h⟩ := dtBind h
    refine dr_putI μ38 dX3_addPerson_65 fl_RX3_62 rfl e39 ?_
    refine dr_mask [] [] rfl ?_
    exact c_X3_addPerson_68 μ38 h
/-! X3_beginWord -/
theorem dX3_beginWord_0 : decode cX3_beginWord 0 = .ok (.aload_n 0, 1) := by decide +kernel
theorem dX3_beginWord_1 : decode cX3_beginWord 1 = .ok (.getfield 59, 3) := by decide +kernel
theorem dX3_beginWord_4 : decode cX3_beginWord 4 = .ok (.bipush 7, 2) := by decide +kernel
theorem dX3_beginWord_6 : decode cX3_beginWord 6 = .ok (.if_icmp .ge 13, 3) := by decide +kernel
theorem dX3_beginWord_9 : decode cX3_beginWord 9 = .ok (.aload_n 0, 1) := by decide +kernel
theorem dX3_beginWord_10 : decode cX3_beginWord 10 = .ok (.getfield 32, 3) := by decide +kernel
theorem dX3_beginWord_13 : decode cX3_beginWord 13 = .ok (.aload_n 0, 1) := by decide +kernel
theorem dX3_beginWord_14 : decode cX3_beginWord 14 = .ok (.getfield 59, 3) := by decide +kernel
theorem dX3_beginWord_17 : decode cX3_beginWord 17 = .ok (.iconst 0, 1) := by decide +kernel
theorem dX3_beginWord_18 : decode cX3_beginWord 18 = .ok (.iastore, 1) := by decide +kernel
theorem dX3_beginWord_19 : decode cX3_beginWord 19 = .ok (.return_, 1) := by decide +kernel
set_option maxRecDepth 100000 in
def f_X3_beginWord_19  (μ : dtM) : Option dtM :=
  some μ
set_option maxRecDepth 100000 in
def f_X3_beginWord (p0 : Nat) (μ : dtM) : Option dtM :=
  (opGI 3 2 μ p0).bind fun x1 => if (7 : Int32) ≤ x1 then (f_X3_beginWord_19 μ) else ((opGR 3 12 μ p0).bind fun x6 => (opGI 3 2 μ p0).bind fun x8 => (opSI μ x6 x8 (0 : Int32)).bind fun μ10 => f_X3_beginWord_19 μ10)
set_option maxRecDepth 100000 in
theorem c_X3_beginWord_19 {F : dtM}  (μ : dtM) (h : f_X3_beginWord_19  μ = some F) : dtW yX3_beginWord cX3_beginWord 1 (none) 1 (none) F 19 [] [] μ := by
  rw [f_X3_beginWord_19] at h
  cases h
  exact dr_return dX3_beginWord_19
set_option maxRecDepth 100000 in
theorem c_X3_beginWord {F : dtM} (p0 : Nat) (μ : dtM) (h : f_X3_beginWord p0 μ = some F) : dtMet yX3_beginWord cX3_beginWord 1 (none) 1 [.ref p0] μ (none) F := by
  refine dtMet.of (by decide +kernel) (Nat.le_of_ble_eq_true rfl) (show dtW yX3_beginWord cX3_beginWord 1 (none) 1 (none) F 0 [some (.ref p0)] [] μ from ?_)
  rw [f_X3_beginWord] at h
  refine dr_aload_n p0 dX3_beginWord_0 rfl ?_
  obtain ⟨x1, e2, h⟩ := dtBind h
  refine dr_getI x1 dX3_beginWord_1 fl_RX3_59 e2 ?_
  refine dr_bipush (7 : Int32) dX3_beginWord_4 (by decide) ?_
  obtain ⟨ht4, hf5⟩ := dtIte h
  refine dr_icmp_ge 19 dX3_beginWord_6 (by decide) (fun hc3 => ?_) (fun hc3 => ?_)
  · have h := ht4 hc3
    refine dr_mask [] [] rfl ?_
    exact c_X3_beginWord_19 μ h
  · have h := hf5 hc3
    refine dr_aload_n p0 dX3_beginWord_9 rfl ?_
    obtain ⟨x6, e7, h⟩ := dtBind h
    refine dr_getR x6 dX3_beginWord_10 fl_RX3_32 e7 ?_
    refine dr_aload_n p0 dX3_beginWord_13 rfl ?_
    obtain ⟨x8, e9, h⟩ := dtBind h
    refine dr_getI x8 dX3_beginWord_14 fl_RX3_59 e9 ?_
    refine dr_iconst (0 : Int32) dX3_beginWord_17 (by decide) ?_
    obtain ⟨μ10, e11, h⟩ := dtBind h
    refine dr_iastore μ10 dX3_beginWord_18 e11 ?_
    refine dr_mask [] [] rfl ?_
    exact c_X3_beginWord_19 μ10 h
/-! X3_addSound -/
theorem dX3_addSound_0 : decode cX3_addSound 0 = .ok (.aload_n 0, 1) := by decide +kernel
theorem dX3_addSound_1 : decode cX3_addSound 1 = .ok (.getfield 59, 3) := by decide +kernel
theorem dX3_addSound_4 : decode cX3_addSound 4 = .ok (.bipush 7, 2) := by decide +kernel
theorem dX3_addSound_6 : decode cX3_addSound 6 = .ok (.if_icmp .ge 51, 3) := by decide +kernel
theorem dX3_addSound_9 : decode cX3_addSound 9 = .ok (.aload_n 0, 1) := by decide +kernel
theorem dX3_addSound_10 : decode cX3_addSound 10 = .ok (.getfield 32, 3) := by decide +kernel
theorem dX3_addSound_13 : decode cX3_addSound 13 = .ok (.aload_n 0, 1) := by decide +kernel
theorem dX3_addSound_14 : decode cX3_addSound 14 = .ok (.getfield 59, 3) := by decide +kernel
theorem dX3_addSound_17 : decode cX3_addSound 17 = .ok (.iaload, 1) := by decide +kernel
theorem dX3_addSound_18 : decode cX3_addSound 18 = .ok (.iconst 4, 1) := by decide +kernel
theorem dX3_addSound_19 : decode cX3_addSound 19 = .ok (.if_icmp .ge 38, 3) := by decide +kernel
theorem dX3_addSound_22 : decode cX3_addSound 22 = .ok (.aload_n 0, 1) := by decide +kernel
theorem dX3_addSound_23 : decode cX3_addSound 23 = .ok (.getfield 35, 3) := by decide +kernel
theorem dX3_addSound_26 : decode cX3_addSound 26 = .ok (.aload_n 0, 1) := by decide +kernel
theorem dX3_addSound_27 : decode cX3_addSound 27 = .ok (.getfield 59, 3) := by decide +kernel
theorem dX3_addSound_30 : decode cX3_addSound 30 = .ok (.iconst 4, 1) := by decide +kernel
theorem dX3_addSound_31 : decode cX3_addSound 31 = .ok (.imul, 1) := by decide +kernel
theorem dX3_addSound_32 : decode cX3_addSound 32 = .ok (.aload_n 0, 1) := by decide +kernel
theorem dX3_addSound_33 : decode cX3_addSound 33 = .ok (.getfield 32, 3) := by decide +kernel
theorem dX3_addSound_36 : decode cX3_addSound 36 = .ok (.aload_n 0, 1) := by decide +kernel
theorem dX3_addSound_37 : decode cX3_addSound 37 = .ok (.getfield 59, 3) := by decide +kernel
theorem dX3_addSound_40 : decode cX3_addSound 40 = .ok (.iaload, 1) := by decide +kernel
theorem dX3_addSound_41 : decode cX3_addSound 41 = .ok (.iadd, 1) := by decide +kernel
theorem dX3_addSound_42 : decode cX3_addSound 42 = .ok (.iload_n 1, 1) := by decide +kernel
theorem dX3_addSound_43 : decode cX3_addSound 43 = .ok (.iastore, 1) := by decide +kernel
theorem dX3_addSound_44 : decode cX3_addSound 44 = .ok (.aload_n 0, 1) := by decide +kernel
theorem dX3_addSound_45 : decode cX3_addSound 45 = .ok (.getfield 32, 3) := by decide +kernel
theorem dX3_addSound_48 : decode cX3_addSound 48 = .ok (.aload_n 0, 1) := by decide +kernel
theorem dX3_addSound_49 : decode cX3_addSound 49 = .ok (.getfield 59, 3) := by decide +kernel
theorem dX3_addSound_52 : decode cX3_addSound 52 = .ok (.dup2, 1) := by decide +kernel
theorem dX3_addSound_53 : decode cX3_addSound 53 = .ok (.iaload, 1) := by decide +kernel
theorem dX3_addSound_54 : decode cX3_addSound 54 = .ok (.iconst 1, 1) := by decide +kernel
theorem dX3_addSound_55 : decode cX3_addSound 55 = .ok (.iadd, 1) := by decide +kernel
theorem dX3_addSound_56 : decode cX3_addSound 56 = .ok (.iastore, 1) := by decide +kernel
theorem dX3_addSound_57 : decode cX3_addSound 57 = .ok (.return_, 1) := by decide +kernel
set_option maxRecDepth 100000 in
def f_X3_addSound_57  (μ : dtM) : Option dtM :=
  some μ
set_option maxRecDepth 100000 in
def f_X3_addSound (p0 : Nat) (p1 : Int32) (μ : dtM) : Option dtM :=
  (opGI 3 2 μ p0).bind fun x1 => if (7 : Int32) ≤ x1 then (f_X3_addSound_57 μ) else ((opGR 3 12 μ p0).bind fun x6 => (opGI 3 2 μ p0).bind fun x8 => (opLI 1 μ x6 x8).bind fun x10 => if (4 : Int32) ≤ x10 then (f_X3_addSound_57 μ) else ((opGR 3 13 μ p0).bind fun x15 => (opGI 3 2 μ p0).bind fun x17 => (opGR 3 12 μ p0).bind fun x19 => (opGI 3 2 μ p0).bind fun x21 => (opLI 1 μ x19 x21).bind fun x23 => (opSI μ x15 ((x17 * (4 : Int32)) + x23) p1).bind fun μ25 => (opGR 3 12 μ25 p0).bind fun x27 => (opGI 3 2 μ25 p0).bind fun x29 => (opLI 1 μ25 x27 x29).bind fun x31 => (opSI μ25 x27 x29 (x31 + (1 : Int32))).bind fun μ33 => f_X3_addSound_57 μ33))
set_option maxRecDepth 100000 in
theorem c_X3_addSound_57 {F : dtM}  (μ : dtM) (h : f_X3_addSound_57  μ = some F) : dtW yX3_addSound cX3_addSound 2 (none) 1 (none) F 57 [] [] μ := by
  rw [f_X3_addSound_57] at h
  cases h
  exact dr_return dX3_addSound_57
set_option maxRecDepth 100000 in
theorem c_X3_addSound {F : dtM} (p0 : Nat) (p1 : Int32) (μ : dtM) (h : f_X3_addSound p0 p1 μ = some F) : dtMet yX3_addSound cX3_addSound 2 (none) 1 [.ref p0, .int p1] μ (none) F := by
  refine dtMet.of (by decide +kernel) (Nat.le_of_ble_eq_true rfl) (show dtW yX3_addSound cX3_addSound 2 (none) 1 (none) F 0 [some (.ref p0), some (.int p1)] [] μ from ?_)
  rw [f_X3_addSound] at h
  refine dr_aload_n p0 dX3_addSound_0 rfl ?_
  obtain ⟨x1, e2, h⟩ := dtBind h
  refine dr_getI x1 dX3_addSound_1 fl_RX3_59 e2 ?_
  refine dr_bipush (7 : Int32) dX3_addSound_4 (by decide) ?_
  obtain ⟨ht4, hf5⟩ := dtIte h
  refine dr_icmp_ge 57 dX3_addSound_6 (by decide) (fun hc3 => ?_) (fun hc3 => ?_)
  · have h := ht4 hc3
    refine dr_mask [] [] rfl ?_
    exact c_X3_addSound_57 μ h
  · have h := hf5 hc3
    refine dr_aload_n p0 dX3_addSound_9 rfl ?_
    obtain ⟨x6, e7, h⟩ := dtBind h
    refine dr_getR x6 dX3_addSound_10 fl_RX3_32 e7 ?_
    refine dr_aload_n p0 dX3_addSound_13 rfl ?_
    obtain ⟨x8, e9, h⟩ := dtBind h
    refine dr_getI x8 dX3_addSound_14 fl_RX3_59 e9 ?_
    obtain ⟨x10, e11, h⟩ := dtBind h
    refine dr_iaload x10 dX3_addSound_17 e11 ?_
    refine dr_iconst (4 : Int32) dX3_addSound_18 (by decide) ?_
    obtain ⟨ht13, hf14⟩ := dtIte h
    refine dr_icmp_ge 57 dX3_addSound_19 (by decide) (fun hc12 => ?_) (fun hc12 => ?_)
    · have h := ht13 hc12
      refine dr_mask [] [] rfl ?_
      exact c_X3_addSound_57 μ h
    · have h := hf14 hc12
      refine dr_aload_n p0 dX3_addSound_22 rfl ?_
      obtain ⟨x15, e16, h⟩ := dtBind h
      refine dr_getR x15 dX3_addSound_23 fl_RX3_35 e16 ?_
      refine dr_aload_n p0 dX3_addSound_26 rfl ?_
      obtain ⟨x17, e18, h⟩ := dtBind h
      refine dr_getI x17 dX3_addSound_27 fl_RX3_59 e18 ?_
      refine dr_iconst (4 : Int32) dX3_addSound_30 (by decide) ?_
      refine dr_imul dX3_addSound_31 ?_
      refine dr_aload_n p0 dX3_addSound_32 rfl ?_
      obtain ⟨x19, e20, h⟩ := dtBind h
      refine dr_getR x19 dX3_addSound_33 fl_RX3_32 e20 ?_
      refine dr_aload_n p0 dX3_addSound_36 rfl ?_
      obtain ⟨x21, e22, h⟩ := dtBind h
      refine dr_getI x21 dX3_addSound_37 fl_RX3_59 e22 ?_
      obtain ⟨x23, e24, h⟩ := dtBind h
      refine dr_iaload x23 dX3_addSound_40 e24 ?_
      refine dr_iadd dX3_addSound_41 ?_
      refine dr_iload_n p1 dX3_addSound_42 rfl ?_
      obtain ⟨μ25, e26, h⟩ := dtBind h
      refine dr_iastore μ25 dX3_addSound_43 e26 ?_
      refine dr_aload_n p0 dX3_addSound_44 rfl ?_
      obtain ⟨x27, e28, h⟩ := dtBind h
      refine dr_getR x27 dX3_addSound_45 fl_RX3_32 e28 ?_
      refine dr_aload_n p0 dX3_addSound_48 rfl ?_
      obtain ⟨x29, e30, h⟩ := dtBind h
      refine dr_getI x29 dX3_addSound_49 fl_RX3_59 e30 ?_
      refine dr_dup2 dX3_addSound_52 rfl rfl ?_
      obtain ⟨x31, e32, h⟩ := dtBind h
      refine dr_iaload x31 dX3_addSound_53 e32 ?_
      refine dr_iconst (1 : Int32) dX3_addSound_54 (by decide) ?_
      refine dr_iadd dX3_addSound_55 ?_
      obtain ⟨μ33, e34, h⟩ := dtBind h
      refine dr_iastore μ33 dX3_addSound_56 e34 ?_
      refine dr_mask [] [] rfl ?_
      exact c_X3_addSound_57 μ33 h
/-! X3_saysTheNew -/
theorem dX3_saysTheNew_0 : decode cX3_saysTheNew 0 = .ok (.iconst 0, 1) := by decide +kernel
theorem dX3_saysTheNew_1 : decode cX3_saysTheNew 1 = .ok (.istore_n 2, 1) := by decide +kernel
theorem dX3_saysTheNew_2 : decode cX3_saysTheNew 2 = .ok (.iload_n 2, 1) := by decide +kernel
theorem dX3_saysTheNew_3 : decode cX3_saysTheNew 3 = .ok (.aload_n 0, 1) := by decide +kernel
theorem dX3_saysTheNew_4 : decode cX3_saysTheNew 4 = .ok (.getfield 32, 3) := by decide +kernel
theorem dX3_saysTheNew_7 : decode cX3_saysTheNew 7 = .ok (.iload_n 1, 1) := by decide +kernel
theorem dX3_saysTheNew_8 : decode cX3_saysTheNew 8 = .ok (.iaload, 1) := by decide +kernel
theorem dX3_saysTheNew_9 : decode cX3_saysTheNew 9 = .ok (.if_icmp .ge 29, 3) := by decide +kernel
theorem dX3_saysTheNew_12 : decode cX3_saysTheNew 12 = .ok (.aload_n 0, 1) := by decide +kernel
theorem dX3_saysTheNew_13 : decode cX3_saysTheNew 13 = .ok (.iload_n 1, 1) := by decide +kernel
theorem dX3_saysTheNew_14 : decode cX3_saysTheNew 14 = .ok (.iload_n 2, 1) := by decide +kernel
theorem dX3_saysTheNew_15 : decode cX3_saysTheNew 15 = .ok (.invokevirtual 95, 3) := by decide +kernel
theorem dX3_saysTheNew_18 : decode cX3_saysTheNew 18 = .ok (.aload_n 0, 1) := by decide +kernel
theorem dX3_saysTheNew_19 : decode cX3_saysTheNew 19 = .ok (.aload_n 0, 1) := by decide +kernel
theorem dX3_saysTheNew_20 : decode cX3_saysTheNew 20 = .ok (.getfield 59, 3) := by decide +kernel
theorem dX3_saysTheNew_23 : decode cX3_saysTheNew 23 = .ok (.iload_n 2, 1) := by decide +kernel
theorem dX3_saysTheNew_24 : decode cX3_saysTheNew 24 = .ok (.invokevirtual 95, 3) := by decide +kernel
theorem dX3_saysTheNew_27 : decode cX3_saysTheNew 27 = .ok (.if_icmp .eq 5, 3) := by decide +kernel
theorem dX3_saysTheNew_30 : decode cX3_saysTheNew 30 = .ok (.iconst 0, 1) := by decide +kernel
theorem dX3_saysTheNew_31 : decode cX3_saysTheNew 31 = .ok (.ireturn, 1) := by decide +kernel
theorem dX3_saysTheNew_32 : decode cX3_saysTheNew 32 = .ok (.iinc 2 1, 3) := by decide +kernel
theorem dX3_saysTheNew_35 : decode cX3_saysTheNew 35 = .ok (.goto (-33), 3) := by decide +kernel
theorem dX3_saysTheNew_38 : decode cX3_saysTheNew 38 = .ok (.iconst 1, 1) := by decide +kernel
theorem dX3_saysTheNew_39 : decode cX3_saysTheNew 39 = .ok (.ireturn, 1) := by decide +kernel
set_option maxRecDepth 100000 in
def f_X3_saysTheNew_2 : Nat → Nat → Int32 → Int32 → dtM → Option (Int32 × dtM)
  | 0, _, _, _, _ => none
  | n + 1, l0, l1, l2, μ =>
    (opGR 3 12 μ l0).bind fun x1 => (opLI 1 μ x1 l1).bind fun x3 => if x3 ≤ l2 then (opRet (1 : Int32) μ) else ((opRv 3 μ l0).bind fun _ => opCall (f_X3_soundOfWord l0 l1 l2 μ) fun x11 μ9 => (opGI 3 2 μ9 l0).bind fun x12 => (opRv 3 μ9 l0).bind fun _ => opCall (f_X3_soundOfWord l0 x12 l2 μ9) fun x17 μ15 => if x11 = x17 then (f_X3_saysTheNew_2 n l0 l1 (l2 + 1) μ15) else (opRet (0 : Int32) μ15))
set_option maxRecDepth 100000 in
def f_X3_saysTheNew (p0 : Nat) (p1 : Int32) (μ : dtM) : Option (Int32 × dtM) :=
  f_X3_saysTheNew_2 dtFuel p0 p1 (0 : Int32) μ
set_option maxRecDepth 100000 in
theorem c_X3_saysTheNew_2 {r : Int32} {F : dtM} : ∀ (n : Nat) (l0 : Nat) (l1 : Int32) (l2 : Int32) (μ : dtM), f_X3_saysTheNew_2 n l0 l1 l2 μ = some (r, F) → dtW yX3_saysTheNew cX3_saysTheNew 3 (some .boolean) 2 (some (.int r)) F 2 [some (.ref l0), some (.int l1), some (.int l2)] [] μ := by
  intro n
  induction n with
  | zero => intro l0 l1 l2 μ h; cases h
  | succ n ih =>
    intro l0 l1 l2 μ h
    have h := (show f_X3_saysTheNew_2 (n + 1) l0 l1 l2 μ = some _ from h)
    rw [f_X3_saysTheNew_2] at h
    refine dr_iload_n l2 dX3_saysTheNew_2 rfl ?_
    refine dr_aload_n l0 dX3_saysTheNew_3 rfl ?_
    obtain ⟨x1, e2, h⟩ := dtBind h
    refine dr_getR x1 dX3_saysTheNew_4 fl_RX3_32 e2 ?_
    refine dr_iload_n l1 dX3_saysTheNew_7 rfl ?_
    obtain ⟨x3, e4, h⟩ := dtBind h
    refine dr_iaload x3 dX3_saysTheNew_8 e4 ?_
    obtain ⟨ht6, hf7⟩ := dtIte h
    refine dr_icmp_ge 38 dX3_saysTheNew_9 (by decide) (fun hc5 => ?_) (fun hc5 => ?_)
    · have h := ht6 hc5
      refine dr_iconst (1 : Int32) dX3_saysTheNew_38 (by decide) ?_
      obtain ⟨hz, rfl, rfl⟩ := dtRet h
      exact dr_ireturn dX3_saysTheNew_39 (dtNz hz)
    · have h := hf7 hc5
      refine dr_aload_n l0 dX3_saysTheNew_12 rfl ?_
      refine dr_iload_n l1 dX3_saysTheNew_13 rfl ?_
      refine dr_iload_n l2 dX3_saysTheNew_14 rfl ?_
      obtain ⟨_, hb8, h⟩ := dtBind h
      obtain ⟨x11, μ9, e10, h⟩ := dtCall h
      refine dr_callV_i (S0 := []) [.int l1, .int l2] x11 μ9 dX3_saysTheNew_15 (c_X3_soundOfWord l0 l1 l2 μ e10) mf_X3_soundOfWord wt_736 wt_737 wt_735 rfl (dtRv hb8) (by decide) rfl (Nat.le_of_ble_eq_true rfl) (Nat.le_of_ble_eq_true rfl) rfl ?_
      refine dr_aload_n l0 dX3_saysTheNew_18 rfl ?_
      refine dr_aload_n l0 dX3_saysTheNew_19 rfl ?_
      obtain ⟨x12, e13, h⟩ := dtBind h
      refine dr_getI x12 dX3_saysTheNew_20 fl_RX3_59 e13 ?_
      refine dr_iload_n l2 dX3_saysTheNew_23 rfl ?_
      obtain ⟨_, hb14, h⟩ := dtBind h
      obtain ⟨x17, μ15, e16, h⟩ := dtCall h
      refine dr_callV_i (S0 := [.int x11]) [.int x12, .int l2] x17 μ15 dX3_saysTheNew_24 (c_X3_soundOfWord l0 x12 l2 μ9 e16) mf_X3_soundOfWord wt_736 wt_737 wt_735 rfl (dtRv hb14) (by decide) rfl (Nat.le_of_ble_eq_true rfl) (Nat.le_of_ble_eq_true rfl) rfl ?_
      obtain ⟨ht19, hf20⟩ := dtIte h
      refine dr_icmp_eq 32 dX3_saysTheNew_27 (by decide) (fun hc18 => ?_) (fun hc18 => ?_)
      · have h := ht19 hc18
        refine dr_iinc l2 (l2 + 1) [some (.ref l0), some (.int l1), some (.int (l2 + 1))] dX3_saysTheNew_32 rfl rfl rfl rfl rfl ?_
        refine dr_goto 2 dX3_saysTheNew_35 (by decide) ?_
        exact ih l0 l1 (l2 + 1) μ15 h
      · have h := hf20 hc18
        refine dr_iconst (0 : Int32) dX3_saysTheNew_30 (by decide) ?_
        obtain ⟨hz, rfl, rfl⟩ := dtRet h
        exact dr_ireturn dX3_saysTheNew_31 (dtNz hz)
set_option maxRecDepth 100000 in
theorem c_X3_saysTheNew {r : Int32} {F : dtM} (p0 : Nat) (p1 : Int32) (μ : dtM) (h : f_X3_saysTheNew p0 p1 μ = some (r, F)) : dtMet yX3_saysTheNew cX3_saysTheNew 3 (some .boolean) 2 [.ref p0, .int p1] μ (some (.int r)) F := by
  refine dtMet.of (by decide +kernel) (Nat.le_of_ble_eq_true rfl) (show dtW yX3_saysTheNew cX3_saysTheNew 3 (some .boolean) 2 (some (.int r)) F 0 [some (.ref p0), some (.int p1)] [] μ from ?_)
  rw [f_X3_saysTheNew] at h
  refine dr_iconst (0 : Int32) dX3_saysTheNew_0 (by decide) ?_
  refine dr_istore_n 2 [some (.ref p0), some (.int p1), some (.int (0 : Int32))] dX3_saysTheNew_1 rfl rfl rfl rfl ?_
  exact c_X3_saysTheNew_2 dtFuel p0 p1 (0 : Int32) μ h
/-! X3_isNewWordSaid -/
theorem dX3_isNewWordSaid_0 : decode cX3_isNewWordSaid 0 = .ok (.aload_n 0, 1) := by decide +kernel
theorem dX3_isNewWordSaid_1 : decode cX3_isNewWordSaid 1 = .ok (.getfield 59, 3) := by decide +kernel
theorem dX3_isNewWordSaid_4 : decode cX3_isNewWordSaid 4 = .ok (.bipush 7, 2) := by decide +kernel
theorem dX3_isNewWordSaid_6 : decode cX3_isNewWordSaid 6 = .ok (.if_icmp .lt 5, 3) := by decide +kernel
theorem dX3_isNewWordSaid_9 : decode cX3_isNewWordSaid 9 = .ok (.iconst 1, 1) := by decide +kernel
theorem dX3_isNewWordSaid_10 : decode cX3_isNewWordSaid 10 = .ok (.ireturn, 1) := by decide +kernel
theorem dX3_isNewWordSaid_11 : decode cX3_isNewWordSaid 11 = .ok (.iconst 0, 1) := by decide +kernel
theorem dX3_isNewWordSaid_12 : decode cX3_isNewWordSaid 12 = .ok (.istore_n 1, 1) := by decide +kernel
theorem dX3_isNewWordSaid_13 : decode cX3_isNewWordSaid 13 = .ok (.iload_n 1, 1) := by decide +kernel
theorem dX3_isNewWordSaid_14 : decode cX3_isNewWordSaid 14 = .ok (.aload_n 0, 1) := by decide +kernel
theorem dX3_isNewWordSaid_15 : decode cX3_isNewWordSaid 15 = .ok (.getfield 59, 3) := by decide +kernel
theorem dX3_isNewWordSaid_18 : decode cX3_isNewWordSaid 18 = .ok (.if_icmp .ge 37, 3) := by decide +kernel
theorem dX3_isNewWordSaid_21 : decode cX3_isNewWordSaid 21 = .ok (.aload_n 0, 1) := by decide +kernel
theorem dX3_isNewWordSaid_22 : decode cX3_isNewWordSaid 22 = .ok (.getfield 32, 3) := by decide +kernel
theorem dX3_isNewWordSaid_25 : decode cX3_isNewWordSaid 25 = .ok (.iload_n 1, 1) := by decide +kernel
theorem dX3_isNewWordSaid_26 : decode cX3_isNewWordSaid 26 = .ok (.iaload, 1) := by decide +kernel
theorem dX3_isNewWordSaid_27 : decode cX3_isNewWordSaid 27 = .ok (.aload_n 0, 1) := by decide +kernel
theorem dX3_isNewWordSaid_28 : decode cX3_isNewWordSaid 28 = .ok (.getfield 32, 3) := by decide +kernel
theorem dX3_isNewWordSaid_31 : decode cX3_isNewWordSaid 31 = .ok (.aload_n 0, 1) := by decide +kernel
theorem dX3_isNewWordSaid_32 : decode cX3_isNewWordSaid 32 = .ok (.getfield 59, 3) := by decide +kernel
theorem dX3_isNewWordSaid_35 : decode cX3_isNewWordSaid 35 = .ok (.iaload, 1) := by decide +kernel
theorem dX3_isNewWordSaid_36 : decode cX3_isNewWordSaid 36 = .ok (.if_icmp .ne 13, 3) := by decide +kernel
theorem dX3_isNewWordSaid_39 : decode cX3_isNewWordSaid 39 = .ok (.aload_n 0, 1) := by decide +kernel
theorem dX3_isNewWordSaid_40 : decode cX3_isNewWordSaid 40 = .ok (.iload_n 1, 1) := by decide +kernel
theorem dX3_isNewWordSaid_41 : decode cX3_isNewWordSaid 41 = .ok (.invokevirtual 92, 3) := by decide +kernel
theorem dX3_isNewWordSaid_44 : decode cX3_isNewWordSaid 44 = .ok (.ifCond .eq 5, 3) := by decide +kernel
theorem dX3_isNewWordSaid_47 : decode cX3_isNewWordSaid 47 = .ok (.iconst 1, 1) := by decide +kernel
theorem dX3_isNewWordSaid_48 : decode cX3_isNewWordSaid 48 = .ok (.ireturn, 1) := by decide +kernel
theorem dX3_isNewWordSaid_49 : decode cX3_isNewWordSaid 49 = .ok (.iinc 1 1, 3) := by decide +kernel
theorem dX3_isNewWordSaid_52 : decode cX3_isNewWordSaid 52 = .ok (.goto (-39), 3) := by decide +kernel
theorem dX3_isNewWordSaid_55 : decode cX3_isNewWordSaid 55 = .ok (.iconst 0, 1) := by decide +kernel
theorem dX3_isNewWordSaid_56 : decode cX3_isNewWordSaid 56 = .ok (.ireturn, 1) := by decide +kernel
set_option maxRecDepth 100000 in
def f_X3_isNewWordSaid_49 (k13 : Nat → Int32 → dtM → Option (Int32 × dtM)) (l0 : Nat) (l1 : Int32) (μ : dtM) : Option (Int32 × dtM) :=
  k13 l0 (l1 + 1) μ
set_option maxRecDepth 100000 in
def f_X3_isNewWordSaid_13 : Nat → Nat → Int32 → dtM → Option (Int32 × dtM)
  | 0, _, _, _ => none
  | n + 1, l0, l1, μ =>
    (opGI 3 2 μ l0).bind fun x1 => if x1 ≤ l1 then (opRet (0 : Int32) μ) else ((opGR 3 12 μ l0).bind fun x6 => (opLI 1 μ x6 l1).bind fun x8 => (opGR 3 12 μ l0).bind fun x10 => (opGI 3 2 μ l0).bind fun x12 => (opLI 1 μ x10 x12).bind fun x14 => if x8 = x14 then ((opRv 3 μ l0).bind fun _ => opCall (f_X3_saysTheNew l0 l1 μ) fun x22 μ20 => if x22 = 0 then (f_X3_isNewWordSaid_49 (f_X3_isNewWordSaid_13 n) l0 l1 μ20) else (opRet (1 : Int32) μ20)) else (f_X3_isNewWordSaid_49 (f_X3_isNewWordSaid_13 n) l0 l1 μ))
set_option maxRecDepth 100000 in
def f_X3_isNewWordSaid (p0 : Nat) (μ : dtM) : Option (Int32 × dtM) :=
  (opGI 3 2 μ p0).bind fun x1 => if x1 < (7 : Int32) then (f_X3_isNewWordSaid_13 dtFuel p0 (0 : Int32) μ) else (opRet (1 : Int32) μ)
set_option maxRecDepth 100000 in
theorem c_X3_isNewWordSaid_49 {r : Int32} {F : dtM} (k13 : Nat → Int32 → dtM → Option (Int32 × dtM)) (hk13 : ∀ (l0 : Nat) (l1 : Int32) (μ : dtM), k13 l0 l1 μ = some (r, F) → dtW yX3_isNewWordSaid cX3_isNewWordSaid 2 (some .boolean) 3 (some (.int r)) F 13 [some (.ref l0), some (.int l1)] [] μ) (l0 : Nat) (l1 : Int32) (μ : dtM) (h : f_X3_isNewWordSaid_49 k13 l0 l1 μ = some (r, F)) : dtW yX3_isNewWordSaid cX3_isNewWordSaid 2 (some .boolean) 3 (some (.int r)) F 49 [some (.ref l0), some (.int l1)] [] μ := by
  rw [f_X3_isNewWordSaid_49] at h
  refine dr_iinc l1 (l1 + 1) [some (.ref l0), some (.int (l1 + 1))] dX3_isNewWordSaid_49 rfl rfl rfl rfl rfl ?_
  refine dr_goto 13 dX3_isNewWordSaid_52 (by decide) ?_
  exact hk13 l0 (l1 + 1) μ h
set_option maxRecDepth 100000 in
theorem c_X3_isNewWordSaid_13 {r : Int32} {F : dtM} : ∀ (n : Nat) (l0 : Nat) (l1 : Int32) (μ : dtM), f_X3_isNewWordSaid_13 n l0 l1 μ = some (r, F) → dtW yX3_isNewWordSaid cX3_isNewWordSaid 2 (some .boolean) 3 (some (.int r)) F 13 [some (.ref l0), some (.int l1)] [] μ := by
  intro n
  induction n with
  | zero => intro l0 l1 μ h; cases h
  | succ n ih =>
    intro l0 l1 μ h
    have h := (show f_X3_isNewWordSaid_13 (n + 1) l0 l1 μ = some _ from h)
    rw [f_X3_isNewWordSaid_13] at h
    refine dr_iload_n l1 dX3_isNewWordSaid_13 rfl ?_
    refine dr_aload_n l0 dX3_isNewWordSaid_14 rfl ?_
    obtain ⟨x1, e2, h⟩ := dtBind h
    refine dr_getI x1 dX3_isNewWordSaid_15 fl_RX3_59 e2 ?_
    obtain ⟨ht4, hf5⟩ := dtIte h
    refine dr_icmp_ge 55 dX3_isNewWordSaid_18 (by decide) (fun hc3 => ?_) (fun hc3 => ?_)
    · have h := ht4 hc3
      refine dr_iconst (0 : Int32) dX3_isNewWordSaid_55 (by decide) ?_
      obtain ⟨hz, rfl, rfl⟩ := dtRet h
      exact dr_ireturn dX3_isNewWordSaid_56 (dtNz hz)
    · have h := hf5 hc3
      refine dr_aload_n l0 dX3_isNewWordSaid_21 rfl ?_
      obtain ⟨x6, e7, h⟩ := dtBind h
      refine dr_getR x6 dX3_isNewWordSaid_22 fl_RX3_32 e7 ?_
      refine dr_iload_n l1 dX3_isNewWordSaid_25 rfl ?_
      obtain ⟨x8, e9, h⟩ := dtBind h
      refine dr_iaload x8 dX3_isNewWordSaid_26 e9 ?_
      refine dr_aload_n l0 dX3_isNewWordSaid_27 rfl ?_
      obtain ⟨x10, e11, h⟩ := dtBind h
      refine dr_getR x10 dX3_isNewWordSaid_28 fl_RX3_32 e11 ?_
      refine dr_aload_n l0 dX3_isNewWordSaid_31 rfl ?_
      obtain ⟨x12, e13, h⟩ := dtBind h
      refine dr_getI x12 dX3_isNewWordSaid_32 fl_RX3_59 e13 ?_
      obtain ⟨x14, e15, h⟩ := dtBind h
      refine dr_iaload x14 dX3_isNewWordSaid_35 e15 ?_
      obtain ⟨ht17, hf18⟩ := dtIte h
      refine dr_icmp_ne 49 dX3_isNewWordSaid_36 (by decide) (fun hc16 => ?_) (fun hc16 => ?_)
      · have h := hf18 hc16
        exact c_X3_isNewWordSaid_49 (f_X3_isNewWordSaid_13 n) ih l0 l1 μ h
      · have h := ht17 hc16
        refine dr_aload_n l0 dX3_isNewWordSaid_39 rfl ?_
        refine dr_iload_n l1 dX3_isNewWordSaid_40 rfl ?_
        obtain ⟨_, hb19, h⟩ := dtBind h
        obtain ⟨x22, μ20, e21, h⟩ := dtCall h
        refine dr_callV_i (S0 := []) [.int l1] x22 μ20 dX3_isNewWordSaid_41 (c_X3_saysTheNew l0 l1 μ e21) mf_X3_saysTheNew wt_733 ws_16 wt_731 rfl (dtRv hb19) (by decide) rfl (Nat.le_of_ble_eq_true rfl) (Nat.le_of_ble_eq_true rfl) rfl ?_
        obtain ⟨ht24, hf25⟩ := dtIte h
        refine dr_if_eq 49 dX3_isNewWordSaid_44 (by decide) (fun hc23 => ?_) (fun hc23 => ?_)
        · have h := ht24 hc23
          exact c_X3_isNewWordSaid_49 (f_X3_isNewWordSaid_13 n) ih l0 l1 μ20 h
        · have h := hf25 hc23
          refine dr_iconst (1 : Int32) dX3_isNewWordSaid_47 (by decide) ?_
          obtain ⟨hz, rfl, rfl⟩ := dtRet h
          exact dr_ireturn dX3_isNewWordSaid_48 (dtNz hz)
set_option maxRecDepth 100000 in
theorem c_X3_isNewWordSaid {r : Int32} {F : dtM} (p0 : Nat) (μ : dtM) (h : f_X3_isNewWordSaid p0 μ = some (r, F)) : dtMet yX3_isNewWordSaid cX3_isNewWordSaid 2 (some .boolean) 3 [.ref p0] μ (some (.int r)) F := by
  refine dtMet.of (by decide +kernel) (Nat.le_of_ble_eq_true rfl) (show dtW yX3_isNewWordSaid cX3_isNewWordSaid 2 (some .boolean) 3 (some (.int r)) F 0 [some (.ref p0)] [] μ from ?_)
  rw [f_X3_isNewWordSaid] at h
  refine dr_aload_n p0 dX3_isNewWordSaid_0 rfl ?_
  obtain ⟨x1, e2, h⟩ := dtBind h
  refine dr_getI x1 dX3_isNewWordSaid_1 fl_RX3_59 e2 ?_
  refine dr_bipush (7 : Int32) dX3_isNewWordSaid_4 (by decide) ?_
  obtain ⟨ht4, hf5⟩ := dtIte h
  refine dr_icmp_lt 11 dX3_isNewWordSaid_6 (by decide) (fun hc3 => ?_) (fun hc3 => ?_)
  · have h := ht4 hc3
    refine dr_iconst (0 : Int32) dX3_isNewWordSaid_11 (by decide) ?_
    refine dr_istore_n 1 [some (.ref p0), some (.int (0 : Int32))] dX3_isNewWordSaid_12 rfl rfl rfl rfl ?_
    exact c_X3_isNewWordSaid_13 dtFuel p0 (0 : Int32) μ h
  · have h := hf5 hc3
    refine dr_iconst (1 : Int32) dX3_isNewWordSaid_9 (by decide) ?_
    obtain ⟨hz, rfl, rfl⟩ := dtRet h
    exact dr_ireturn dX3_isNewWordSaid_10 (dtNz hz)
/-! X4_init -/
theorem dX4_init_0 : decode cX4_init 0 = .ok (.aload_n 0, 1) := by decide +kernel
theorem dX4_init_1 : decode cX4_init 1 = .ok (.invokespecial 3, 3) := by decide +kernel
theorem dX4_init_4 : decode cX4_init 4 = .ok (.aload_n 0, 1) := by decide +kernel
theorem dX4_init_5 : decode cX4_init 5 = .ok (.new 9, 3) := by decide +kernel
theorem dX4_init_8 : decode cX4_init 8 = .ok (.dup, 1) := by decide +kernel
theorem dX4_init_9 : decode cX4_init 9 = .ok (.invokespecial 11, 3) := by decide +kernel
theorem dX4_init_12 : decode cX4_init 12 = .ok (.putfield 12, 3) := by decide +kernel
theorem dX4_init_15 : decode cX4_init 15 = .ok (.aload_n 0, 1) := by decide +kernel
theorem dX4_init_16 : decode cX4_init 16 = .ok (.bipush 7, 2) := by decide +kernel
theorem dX4_init_18 : decode cX4_init 18 = .ok (.newarray .long, 2) := by decide +kernel
theorem dX4_init_20 : decode cX4_init 20 = .ok (.putfield 18, 3) := by decide +kernel
theorem dX4_init_23 : decode cX4_init 23 = .ok (.return_, 1) := by decide +kernel
set_option maxRecDepth 100000 in
def f_X4_init (p0 : Nat) (μ : dtM) : Option dtM :=
  (opLt p0).bind fun _ => opCall (opNew 8 μ) fun q2 μ3 => (opLt q2).bind fun _ => (f_X8_init q2 μ3).bind fun μ6 => (opPR 4 0 μ6 p0 q2).bind fun μ8 => opCall (opNA 3 μ8 (7 : Int32)) fun q10 μ11 => (opPR 4 1 μ11 p0 q10).bind fun μ13 => some μ13
set_option maxRecDepth 100000 in
theorem c_X4_init {F : dtM} (p0 : Nat) (μ : dtM) (h : f_X4_init p0 μ = some F) : dtMet yX4_init cX4_init 1 (none) 2 [.ref p0] μ (none) F := by
  refine dtMet.of (by decide +kernel) (Nat.le_of_ble_eq_true rfl) (show dtW yX4_init cX4_init 1 (none) 2 (none) F 0 [some (.ref p0)] [] μ from ?_)
  rw [f_X4_init] at h
  refine dr_aload_n p0 dX4_init_0 rfl ?_
  obtain ⟨_, hb1, h⟩ := dtBind h
  refine dr_objInit dX4_init_1 wt_251 wt_27 wt_28 (dtLt hb1) (Nat.le_of_ble_eq_true rfl) rfl ?_
  refine dr_aload_n p0 dX4_init_4 rfl ?_
  obtain ⟨q2, μ3, e4, h⟩ := dtCall h
  refine dr_new (ci := 8) q2 μ3 dX4_init_5 wt_252 wt_253 wt_7 (by decide) e4 ?_
  refine dr_dup dX4_init_8 rfl ?_
  obtain ⟨_, hb5, h⟩ := dtBind h
  obtain ⟨μ6, e7, h⟩ := dtBind h
  refine dr_callIN (S0 := [.ref q2, .ref p0]) μ6 [] dX4_init_9 (c_X8_init q2 μ3 e7) mf_X8_init rfl wt_255 wn_254 rfl (dtLt hb5) (Nat.le_of_ble_eq_true rfl) rfl rfl ?_
  obtain ⟨μ8, e9, h⟩ := dtBind h
  refine dr_putRF μ8 dX4_init_12 fl_RX4_12 rfl rfl rfl e9 ?_
  refine dr_aload_n p0 dX4_init_15 rfl ?_
  refine dr_bipush (7 : Int32) dX4_init_16 (by decide) ?_
  obtain ⟨q10, μ11, e12, h⟩ := dtCall h
  refine dr_newarray_l q10 μ11 dX4_init_18 wt_53 e12 ?_
  obtain ⟨μ13, e14, h⟩ := dtBind h
  refine dr_putRF μ13 dX4_init_20 fl_RX4_18 rfl rfl rfl e14 ?_
  cases h
  exact dr_return dX4_init_23
/-! X4_readChoice -/
theorem dX4_readChoice_0 : decode cX4_readChoice 0 = .ok (.aload_n 0, 1) := by decide +kernel
theorem dX4_readChoice_1 : decode cX4_readChoice 1 = .ok (.getfield 12, 3) := by decide +kernel
theorem dX4_readChoice_4 : decode cX4_readChoice 4 = .ok (.getfield 39, 3) := by decide +kernel
theorem dX4_readChoice_7 : decode cX4_readChoice 7 = .ok (.iload_n 1, 1) := by decide +kernel
theorem dX4_readChoice_8 : decode cX4_readChoice 8 = .ok (.if_icmp .eq 5, 3) := by decide +kernel
theorem dX4_readChoice_11 : decode cX4_readChoice 11 = .ok (.iconst 0, 1) := by decide +kernel
theorem dX4_readChoice_12 : decode cX4_readChoice 12 = .ok (.ireturn, 1) := by decide +kernel
theorem dX4_readChoice_13 : decode cX4_readChoice 13 = .ok (.aload_n 0, 1) := by decide +kernel
theorem dX4_readChoice_14 : decode cX4_readChoice 14 = .ok (.getfield 12, 3) := by decide +kernel
theorem dX4_readChoice_17 : decode cX4_readChoice 17 = .ok (.invokevirtual 63, 3) := by decide +kernel
theorem dX4_readChoice_20 : decode cX4_readChoice 20 = .ok (.aload_n 0, 1) := by decide +kernel
theorem dX4_readChoice_21 : decode cX4_readChoice 21 = .ok (.getfield 12, 3) := by decide +kernel
theorem dX4_readChoice_24 : decode cX4_readChoice 24 = .ok (.iconst 0, 1) := by decide +kernel
theorem dX4_readChoice_25 : decode cX4_readChoice 25 = .ok (.iload_n 2, 1) := by decide +kernel
theorem dX4_readChoice_26 : decode cX4_readChoice 26 = .ok (.invokevirtual 66, 3) := by decide +kernel
theorem dX4_readChoice_29 : decode cX4_readChoice 29 = .ok (.ireturn, 1) := by decide +kernel
set_option maxRecDepth 100000 in
def f_X4_readChoice (p0 : Nat) (p1 : Int32) (p2 : Int32) (μ : dtM) : Option (Int32 × dtM) :=
  (opGR 4 0 μ p0).bind fun x1 => (opGI 8 6 μ x1).bind fun x3 => if x3 = p1 then ((opGR 4 0 μ p0).bind fun x8 => (opRv 8 μ x8).bind fun _ => (f_X8_advance x8 μ).bind fun μ11 => (opGR 4 0 μ11 p0).bind fun x13 => (opRv 8 μ11 x13).bind fun _ => opCall (f_X8_passNumber x13 (0 : Int32) p2 μ11) fun x18 μ16 => some (x18, μ16)) else (some ((0 : Int32), μ))
set_option maxRecDepth 100000 in
theorem c_X4_readChoice {r : Int32} {F : dtM} (p0 : Nat) (p1 : Int32) (p2 : Int32) (μ : dtM) (h : f_X4_readChoice p0 p1 p2 μ = some (r, F)) : dtMet yX4_readChoice cX4_readChoice 3 (some .int) 9 [.ref p0, .int p1, .int p2] μ (some (.int r)) F := by
  refine dtMet.of (by decide +kernel) (Nat.le_of_ble_eq_true rfl) (show dtW yX4_readChoice cX4_readChoice 3 (some .int) 9 (some (.int r)) F 0 [some (.ref p0), some (.int p1), some (.int p2)] [] μ from ?_)
  rw [f_X4_readChoice] at h
  refine dr_aload_n p0 dX4_readChoice_0 rfl ?_
  obtain ⟨x1, e2, h⟩ := dtBind h
  refine dr_getR x1 dX4_readChoice_1 fl_RX4_12 e2 ?_
  obtain ⟨x3, e4, h⟩ := dtBind h
  refine dr_getI x3 dX4_readChoice_4 fl_RX4_39 e4 ?_
  refine dr_iload_n p1 dX4_readChoice_7 rfl ?_
  obtain ⟨ht6, hf7⟩ := dtIte h
  refine dr_icmp_eq 13 dX4_readChoice_8 (by decide) (fun hc5 => ?_) (fun hc5 => ?_)
  · have h := ht6 hc5
    refine dr_aload_n p0 dX4_readChoice_13 rfl ?_
    obtain ⟨x8, e9, h⟩ := dtBind h
    refine dr_getR x8 dX4_readChoice_14 fl_RX4_12 e9 ?_
    obtain ⟨_, hb10, h⟩ := dtBind h
    obtain ⟨μ11, e12, h⟩ := dtBind h
    refine dr_callV_v (S0 := []) [] μ11 dX4_readChoice_17 (c_X8_advance x8 μ e12) mf_X8_advance wt_551 wt_552 wt_632 rfl (dtRv hb10) (by decide) rfl (Nat.le_of_ble_eq_true rfl) (Nat.le_of_ble_eq_true rfl) rfl ?_
    refine dr_aload_n p0 dX4_readChoice_20 rfl ?_
    obtain ⟨x13, e14, h⟩ := dtBind h
    refine dr_getR x13 dX4_readChoice_21 fl_RX4_12 e14 ?_
    refine dr_iconst (0 : Int32) dX4_readChoice_24 (by decide) ?_
    refine dr_iload_n p2 dX4_readChoice_25 rfl ?_
    obtain ⟨_, hb15, h⟩ := dtBind h
    obtain ⟨x18, μ16, e17, h⟩ := dtCall h
    refine dr_callV_i (S0 := []) [.int (0 : Int32), .int p2] x18 μ16 dX4_readChoice_26 (c_X8_passNumber x13 (0 : Int32) p2 μ11 e17) mf_X8_passNumber wt_634 wt_635 wt_633 rfl (dtRv hb15) (by decide) rfl (Nat.le_of_ble_eq_true rfl) (Nat.le_of_ble_eq_true rfl) rfl ?_
    cases h
    exact dr_ireturn dX4_readChoice_29 rfl
  · have h := hf7 hc5
    refine dr_iconst (0 : Int32) dX4_readChoice_11 (by decide) ?_
    cases h
    exact dr_ireturn dX4_readChoice_12 rfl
/-! X4_readDoor -/
theorem dX4_readDoor_0 : decode cX4_readDoor 0 = .ok (.aload_n 1, 1) := by decide +kernel
theorem dX4_readDoor_1 : decode cX4_readDoor 1 = .ok (.getfield 88, 3) := by decide +kernel
theorem dX4_readDoor_4 : decode cX4_readDoor 4 = .ok (.bipush 10, 2) := by decide +kernel
theorem dX4_readDoor_6 : decode cX4_readDoor 6 = .ok (.if_icmp .lt 13, 3) := by decide +kernel
theorem dX4_readDoor_9 : decode cX4_readDoor 9 = .ok (.aload_n 0, 1) := by decide +kernel
theorem dX4_readDoor_10 : decode cX4_readDoor 10 = .ok (.getfield 12, 3) := by decide +kernel
theorem dX4_readDoor_13 : decode cX4_readDoor 13 = .ok (.bipush 6, 2) := by decide +kernel
theorem dX4_readDoor_15 : decode cX4_readDoor 15 = .ok (.invokevirtual 59, 3) := by decide +kernel
theorem dX4_readDoor_18 : decode cX4_readDoor 18 = .ok (.ireturn, 1) := by decide +kernel
theorem dX4_readDoor_19 : decode cX4_readDoor 19 = .ok (.aload_n 0, 1) := by decide +kernel
theorem dX4_readDoor_20 : decode cX4_readDoor 20 = .ok (.getfield 12, 3) := by decide +kernel
theorem dX4_readDoor_23 : decode cX4_readDoor 23 = .ok (.invokevirtual 63, 3) := by decide +kernel
theorem dX4_readDoor_26 : decode cX4_readDoor 26 = .ok (.aload_n 0, 1) := by decide +kernel
theorem dX4_readDoor_27 : decode cX4_readDoor 27 = .ok (.getfield 12, 3) := by decide +kernel
theorem dX4_readDoor_30 : decode cX4_readDoor 30 = .ok (.aload_n 1, 1) := by decide +kernel
theorem dX4_readDoor_31 : decode cX4_readDoor 31 = .ok (.getfield 91, 3) := by decide +kernel
theorem dX4_readDoor_34 : decode cX4_readDoor 34 = .ok (.aload_n 1, 1) := by decide +kernel
theorem dX4_readDoor_35 : decode cX4_readDoor 35 = .ok (.getfield 77, 3) := by decide +kernel
theorem dX4_readDoor_38 : decode cX4_readDoor 38 = .ok (.invokevirtual 94, 3) := by decide +kernel
theorem dX4_readDoor_41 : decode cX4_readDoor 41 = .ok (.istore_n 2, 1) := by decide +kernel
theorem dX4_readDoor_42 : decode cX4_readDoor 42 = .ok (.iload_n 2, 1) := by decide +kernel
theorem dX4_readDoor_43 : decode cX4_readDoor 43 = .ok (.iconst (-1), 1) := by decide +kernel
theorem dX4_readDoor_44 : decode cX4_readDoor 44 = .ok (.if_icmp .ne 5, 3) := by decide +kernel
theorem dX4_readDoor_47 : decode cX4_readDoor 47 = .ok (.iconst 0, 1) := by decide +kernel
theorem dX4_readDoor_48 : decode cX4_readDoor 48 = .ok (.ireturn, 1) := by decide +kernel
theorem dX4_readDoor_49 : decode cX4_readDoor 49 = .ok (.aload_n 0, 1) := by decide +kernel
theorem dX4_readDoor_50 : decode cX4_readDoor 50 = .ok (.getfield 12, 3) := by decide +kernel
theorem dX4_readDoor_53 : decode cX4_readDoor 53 = .ok (.aload_n 1, 1) := by decide +kernel
theorem dX4_readDoor_54 : decode cX4_readDoor 54 = .ok (.getfield 91, 3) := by decide +kernel
theorem dX4_readDoor_57 : decode cX4_readDoor 57 = .ok (.aload_n 1, 1) := by decide +kernel
theorem dX4_readDoor_58 : decode cX4_readDoor 58 = .ok (.getfield 77, 3) := by decide +kernel
theorem dX4_readDoor_61 : decode cX4_readDoor 61 = .ok (.invokevirtual 98, 3) := by decide +kernel
theorem dX4_readDoor_64 : decode cX4_readDoor 64 = .ok (.istore_n 3, 1) := by decide +kernel
theorem dX4_readDoor_65 : decode cX4_readDoor 65 = .ok (.iload_n 3, 1) := by decide +kernel
theorem dX4_readDoor_66 : decode cX4_readDoor 66 = .ok (.iconst (-1), 1) := by decide +kernel
theorem dX4_readDoor_67 : decode cX4_readDoor 67 = .ok (.if_icmp .ne 5, 3) := by decide +kernel
theorem dX4_readDoor_70 : decode cX4_readDoor 70 = .ok (.iconst 0, 1) := by decide +kernel
theorem dX4_readDoor_71 : decode cX4_readDoor 71 = .ok (.ireturn, 1) := by decide +kernel
theorem dX4_readDoor_72 : decode cX4_readDoor 72 = .ok (.iload_n 3, 1) := by decide +kernel
theorem dX4_readDoor_73 : decode cX4_readDoor 73 = .ok (.iload_n 2, 1) := by decide +kernel
theorem dX4_readDoor_74 : decode cX4_readDoor 74 = .ok (.if_icmp .ne 12, 3) := by decide +kernel
theorem dX4_readDoor_77 : decode cX4_readDoor 77 = .ok (.aload_n 0, 1) := by decide +kernel
theorem dX4_readDoor_78 : decode cX4_readDoor 78 = .ok (.getfield 12, 3) := by decide +kernel
theorem dX4_readDoor_81 : decode cX4_readDoor 81 = .ok (.iconst 5, 1) := by decide +kernel
theorem dX4_readDoor_82 : decode cX4_readDoor 82 = .ok (.invokevirtual 59, 3) := by decide +kernel
theorem dX4_readDoor_85 : decode cX4_readDoor 85 = .ok (.ireturn, 1) := by decide +kernel
theorem dX4_readDoor_86 : decode cX4_readDoor 86 = .ok (.aload_n 0, 1) := by decide +kernel
theorem dX4_readDoor_87 : decode cX4_readDoor 87 = .ok (.getfield 12, 3) := by decide +kernel
theorem dX4_readDoor_90 : decode cX4_readDoor 90 = .ok (.invokevirtual 63, 3) := by decide +kernel
theorem dX4_readDoor_93 : decode cX4_readDoor 93 = .ok (.aload_n 0, 1) := by decide +kernel
theorem dX4_readDoor_94 : decode cX4_readDoor 94 = .ok (.iconst 3, 1) := by decide +kernel
theorem dX4_readDoor_95 : decode cX4_readDoor 95 = .ok (.bipush 9, 2) := by decide +kernel
theorem dX4_readDoor_97 : decode cX4_readDoor 97 = .ok (.invokevirtual 101, 3) := by decide +kernel
theorem dX4_readDoor_100 : decode cX4_readDoor 100 = .ok (.istore 4, 2) := by decide +kernel
theorem dX4_readDoor_102 : decode cX4_readDoor 102 = .ok (.iload 4, 2) := by decide +kernel
theorem dX4_readDoor_104 : decode cX4_readDoor 104 = .ok (.iconst (-1), 1) := by decide +kernel
theorem dX4_readDoor_105 : decode cX4_readDoor 105 = .ok (.if_icmp .ne 5, 3) := by decide +kernel
theorem dX4_readDoor_108 : decode cX4_readDoor 108 = .ok (.iconst 0, 1) := by decide +kernel
theorem dX4_readDoor_109 : decode cX4_readDoor 109 = .ok (.ireturn, 1) := by decide +kernel
theorem dX4_readDoor_110 : decode cX4_readDoor 110 = .ok (.aload_n 0, 1) := by decide +kernel
theorem dX4_readDoor_111 : decode cX4_readDoor 111 = .ok (.getfield 12, 3) := by decide +kernel
theorem dX4_readDoor_114 : decode cX4_readDoor 114 = .ok (.getfield 39, 3) := by decide +kernel
theorem dX4_readDoor_117 : decode cX4_readDoor 117 = .ok (.iconst 4, 1) := by decide +kernel
theorem dX4_readDoor_118 : decode cX4_readDoor 118 = .ok (.if_icmp .ne 7, 3) := by decide +kernel
theorem dX4_readDoor_121 : decode cX4_readDoor 121 = .ok (.iconst 1, 1) := by decide +kernel
theorem dX4_readDoor_122 : decode cX4_readDoor 122 = .ok (.goto 4, 3) := by decide +kernel
theorem dX4_readDoor_125 : decode cX4_readDoor 125 = .ok (.iconst 0, 1) := by decide +kernel
theorem dX4_readDoor_126 : decode cX4_readDoor 126 = .ok (.istore 5, 2) := by decide +kernel
theorem dX4_readDoor_128 : decode cX4_readDoor 128 = .ok (.iload 5, 2) := by decide +kernel
theorem dX4_readDoor_130 : decode cX4_readDoor 130 = .ok (.ifCond .eq 10, 3) := by decide +kernel
theorem dX4_readDoor_133 : decode cX4_readDoor 133 = .ok (.aload_n 0, 1) := by decide +kernel
theorem dX4_readDoor_134 : decode cX4_readDoor 134 = .ok (.getfield 12, 3) := by decide +kernel
theorem dX4_readDoor_137 : decode cX4_readDoor 137 = .ok (.invokevirtual 63, 3) := by decide +kernel
theorem dX4_readDoor_140 : decode cX4_readDoor 140 = .ok (.aload_n 1, 1) := by decide +kernel
theorem dX4_readDoor_141 : decode cX4_readDoor 141 = .ok (.iload_n 2, 1) := by decide +kernel
theorem dX4_readDoor_142 : decode cX4_readDoor 142 = .ok (.iload_n 3, 1) := by decide +kernel
theorem dX4_readDoor_143 : decode cX4_readDoor 143 = .ok (.iload 4, 2) := by decide +kernel
theorem dX4_readDoor_145 : decode cX4_readDoor 145 = .ok (.iload 5, 2) := by decide +kernel
theorem dX4_readDoor_147 : decode cX4_readDoor 147 = .ok (.invokevirtual 104, 3) := by decide +kernel
theorem dX4_readDoor_150 : decode cX4_readDoor 150 = .ok (.aload_n 0, 1) := by decide +kernel
theorem dX4_readDoor_151 : decode cX4_readDoor 151 = .ok (.getfield 12, 3) := by decide +kernel
theorem dX4_readDoor_154 : decode cX4_readDoor 154 = .ok (.bipush 59, 2) := by decide +kernel
theorem dX4_readDoor_156 : decode cX4_readDoor 156 = .ok (.invokevirtual 73, 3) := by decide +kernel
theorem dX4_readDoor_159 : decode cX4_readDoor 159 = .ok (.ireturn, 1) := by decide +kernel
set_option maxRecDepth 100000 in
def f_X4_readDoor_140 (l0 : Nat) (l1 : Nat) (l2 : Int32) (l3 : Int32) (l4 : Int32) (l5 : Int32) (μ : dtM) : Option (Int32 × dtM) :=
  (opRv 3 μ l1).bind fun _ => (f_X3_addDoor l1 l2 l3 l4 l5 μ).bind fun μ2 => (opGR 4 0 μ2 l0).bind fun x4 => (opRv 8 μ2 x4).bind fun _ => opCall (f_X8_passSign x4 (59 : Int32) μ2) fun x9 μ7 => opRet x9 μ7
set_option maxRecDepth 100000 in
def f_X4_readDoor_126 (l0 : Nat) (l1 : Nat) (l2 : Int32) (l3 : Int32) (l4 : Int32) (s0 : Int32) (μ : dtM) : Option (Int32 × dtM) :=
  if s0 = 0 then (f_X4_readDoor_140 l0 l1 l2 l3 l4 s0 μ) else ((opGR 4 0 μ l0).bind fun x4 => (opRv 8 μ x4).bind fun _ => (f_X8_advance x4 μ).bind fun μ7 => f_X4_readDoor_140 l0 l1 l2 l3 l4 s0 μ7)
set_option maxRecDepth 100000 in
def f_X4_readDoor (p0 : Nat) (p1 : Nat) (μ : dtM) : Option (Int32 × dtM) :=
  (opGI 3 1 μ p1).bind fun x1 => if x1 < (10 : Int32) then ((opGR 4 0 μ p0).bind fun x6 => (opRv 8 μ x6).bind fun _ => (f_X8_advance x6 μ).bind fun μ9 => (opGR 4 0 μ9 p0).bind fun x11 => (opGR 3 7 μ9 p1).bind fun x13 => (opGI 3 0 μ9 p1).bind fun x15 => (opRv 8 μ9 x11).bind fun _ => opCall (f_X8_passAmong x11 x13 x15 μ9) fun x20 μ18 => if x20 = (-1 : Int32) then (opRet (0 : Int32) μ18) else ((opGR 4 0 μ18 p0).bind fun x24 => (opGR 3 7 μ18 p1).bind fun x26 => (opGI 3 0 μ18 p1).bind fun x28 => (opRv 8 μ18 x24).bind fun _ => opCall (f_X8_findAmong x24 x26 x28 μ18) fun x33 μ31 => if x33 = (-1 : Int32) then (opRet (0 : Int32) μ31) else (if x33 = x20 then ((opGR 4 0 μ31 p0).bind fun x59 => (opRv 8 μ31 x59).bind fun _ => opCall (f_X8_flaw x59 (5 : Int32) μ31) fun x64 μ62 => opRet x64 μ62) else ((opGR 4 0 μ31 p0).bind fun x40 => (opRv 8 μ31 x40).bind fun _ => (f_X8_advance x40 μ31).bind fun μ43 => (opRv 4 μ43 p0).bind fun _ => opCall (f_X4_readChoice p0 (3 : Int32) (9 : Int32) μ43) fun x48 μ46 => if x48 = (-1 : Int32) then (opRet (0 : Int32) μ46) else ((opGR 4 0 μ46 p0).bind fun x52 => (opGI 8 6 μ46 x52).bind fun x54 => if x54 = (4 : Int32) then (f_X4_readDoor_126 p0 p1 x20 x33 x48 (1 : Int32) μ46) else (f_X4_readDoor_126 p0 p1 x20 x33 x48 (0 : Int32) μ46)))))) else ((opGR 4 0 μ p0).bind fun x65 => (opRv 8 μ x65).bind fun _ => opCall (f_X8_flaw x65 (6 : Int32) μ) fun x70 μ68 => opRet x70 μ68)
set_option maxRecDepth 100000 in
theorem c_X4_readDoor_140 {r : Int32} {F : dtM} (l0 : Nat) (l1 : Nat) (l2 : Int32) (l3 : Int32) (l4 : Int32) (l5 : Int32) (μ : dtM) (h : f_X4_readDoor_140 l0 l1 l2 l3 l4 l5 μ = some (r, F)) : dtW yX4_readDoor cX4_readDoor 6 (some .boolean) 10 (some (.int r)) F 140 [some (.ref l0), some (.ref l1), some (.int l2), some (.int l3), some (.int l4), some (.int l5)] [] μ := by
  rw [f_X4_readDoor_140] at h
  refine dr_aload_n l1 dX4_readDoor_140 rfl ?_
  refine dr_iload_n l2 dX4_readDoor_141 rfl ?_
  refine dr_iload_n l3 dX4_readDoor_142 rfl ?_
  refine dr_iload l4 dX4_readDoor_143 rfl ?_
  refine dr_iload l5 dX4_readDoor_145 rfl ?_
  obtain ⟨_, hb1, h⟩ := dtBind h
  obtain ⟨μ2, e3, h⟩ := dtBind h
  refine dr_callV_v (S0 := []) [.int l2, .int l3, .int l4, .int l5] μ2 dX4_readDoor_147 (c_X3_addDoor l1 l2 l3 l4 l5 μ e3) mf_X3_addDoor wt_690 wt_691 wt_689 rfl (dtRv hb1) (by decide) rfl (Nat.le_of_ble_eq_true rfl) (Nat.le_of_ble_eq_true rfl) rfl ?_
  refine dr_aload_n l0 dX4_readDoor_150 rfl ?_
  obtain ⟨x4, e5, h⟩ := dtBind h
  refine dr_getR x4 dX4_readDoor_151 fl_RX4_12 e5 ?_
  refine dr_bipush (59 : Int32) dX4_readDoor_154 (by decide) ?_
  obtain ⟨_, hb6, h⟩ := dtBind h
  obtain ⟨x9, μ7, e8, h⟩ := dtCall h
  refine dr_callV_i (S0 := []) [.int (59 : Int32)] x9 μ7 dX4_readDoor_156 (c_X8_passSign x4 (59 : Int32) μ2 e8) mf_X8_passSign wt_639 wt_640 wt_638 rfl (dtRv hb6) (by decide) rfl (Nat.le_of_ble_eq_true rfl) (Nat.le_of_ble_eq_true rfl) rfl ?_
  obtain ⟨hz, rfl, rfl⟩ := dtRet h
  exact dr_ireturn dX4_readDoor_159 (dtNz hz)
set_option maxRecDepth 100000 in
theorem c_X4_readDoor_126 {r : Int32} {F : dtM} (l0 : Nat) (l1 : Nat) (l2 : Int32) (l3 : Int32) (l4 : Int32) (s0 : Int32) (μ : dtM) (h : f_X4_readDoor_126 l0 l1 l2 l3 l4 s0 μ = some (r, F)) : dtW yX4_readDoor cX4_readDoor 6 (some .boolean) 10 (some (.int r)) F 126 [some (.ref l0), some (.ref l1), some (.int l2), some (.int l3), some (.int l4)] [.int s0] μ := by
  rw [f_X4_readDoor_126] at h
  refine dr_istore [some (.ref l0), some (.ref l1), some (.int l2), some (.int l3), some (.int l4), some (.int s0)] dX4_readDoor_126 rfl rfl rfl ?_
  refine dr_iload s0 dX4_readDoor_128 rfl ?_
  obtain ⟨ht2, hf3⟩ := dtIte h
  refine dr_if_eq 140 dX4_readDoor_130 (by decide) (fun hc1 => ?_) (fun hc1 => ?_)
  · have h := ht2 hc1
    exact c_X4_readDoor_140 l0 l1 l2 l3 l4 s0 μ h
  · have h := hf3 hc1
    refine dr_aload_n l0 dX4_readDoor_133 rfl ?_
    obtain ⟨x4, e5, h⟩ := dtBind h
    refine dr_getR x4 dX4_readDoor_134 fl_RX4_12 e5 ?_
    obtain ⟨_, hb6, h⟩ := dtBind h
    obtain ⟨μ7, e8, h⟩ := dtBind h
    refine dr_callV_v (S0 := []) [] μ7 dX4_readDoor_137 (c_X8_advance x4 μ e8) mf_X8_advance wt_551 wt_552 wt_632 rfl (dtRv hb6) (by decide) rfl (Nat.le_of_ble_eq_true rfl) (Nat.le_of_ble_eq_true rfl) rfl ?_
    exact c_X4_readDoor_140 l0 l1 l2 l3 l4 s0 μ7 h
set_option maxRecDepth 100000 in
theorem c_X4_readDoor {r : Int32} {F : dtM} (p0 : Nat) (p1 : Nat) (μ : dtM) (h : f_X4_readDoor p0 p1 μ = some (r, F)) : dtMet yX4_readDoor cX4_readDoor 6 (some .boolean) 10 [.ref p0, .ref p1] μ (some (.int r)) F := by
  refine dtMet.of (by decide +kernel) (Nat.le_of_ble_eq_true rfl) (show dtW yX4_readDoor cX4_readDoor 6 (some .boolean) 10 (some (.int r)) F 0 [some (.ref p0), some (.ref p1)] [] μ from ?_)
  rw [f_X4_readDoor] at h
  refine dr_aload_n p1 dX4_readDoor_0 rfl ?_
  obtain ⟨x1, e2, h⟩ := dtBind h
  refine dr_getI x1 dX4_readDoor_1 fl_RX4_88 e2 ?_
  refine dr_bipush (10 : Int32) dX4_readDoor_4 (by decide) ?_
  obtain ⟨ht4, hf5⟩ := dtIte h
  refine dr_icmp_lt 19 dX4_readDoor_6 (by decide) (fun hc3 => ?_) (fun hc3 => ?_)
  · have h := ht4 hc3
    refine dr_aload_n p0 dX4_readDoor_19 rfl ?_
    obtain ⟨x6, e7, h⟩ := dtBind h
    refine dr_getR x6 dX4_readDoor_20 fl_RX4_12 e7 ?_
    obtain ⟨_, hb8, h⟩ := dtBind h
    obtain ⟨μ9, e10, h⟩ := dtBind h
    refine dr_callV_v (S0 := []) [] μ9 dX4_readDoor_23 (c_X8_advance x6 μ e10) mf_X8_advance wt_551 wt_552 wt_632 rfl (dtRv hb8) (by decide) rfl (Nat.le_of_ble_eq_true rfl) (Nat.le_of_ble_eq_true rfl) rfl ?_
    refine dr_aload_n p0 dX4_readDoor_26 rfl ?_
    obtain ⟨x11, e12, h⟩ := dtBind h
    refine dr_getR x11 dX4_readDoor_27 fl_RX4_12 e12 ?_
    refine dr_aload_n p1 dX4_readDoor_30 rfl ?_
    obtain ⟨x13, e14, h⟩ := dtBind h
    refine dr_getR x13 dX4_readDoor_31 fl_RX4_91 e14 ?_
    refine dr_aload_n p1 dX4_readDoor_34 rfl ?_
    obtain ⟨x15, e16, h⟩ := dtBind h
    refine dr_getI x15 dX4_readDoor_35 fl_RX4_77 e16 ?_
    obtain ⟨_, hb17, h⟩ := dtBind h
    obtain ⟨x20, μ18, e19, h⟩ := dtCall h
    refine dr_callV_i (S0 := []) [.ref x13, .int x15] x20 μ18 dX4_readDoor_38 (c_X8_passAmong x11 x13 x15 μ9 e19) mf_X8_passAmong wt_675 wt_676 wt_674 rfl (dtRv hb17) (by decide) rfl (Nat.le_of_ble_eq_true rfl) (Nat.le_of_ble_eq_true rfl) rfl ?_
    refine dr_istore_n 2 [some (.ref p0), some (.ref p1), some (.int x20)] dX4_readDoor_41 rfl rfl rfl rfl ?_
    refine dr_iload_n x20 dX4_readDoor_42 rfl ?_
    refine dr_iconst (-1 : Int32) dX4_readDoor_43 (by decide) ?_
    obtain ⟨ht22, hf23⟩ := dtIte h
    refine dr_icmp_ne 49 dX4_readDoor_44 (by decide) (fun hc21 => ?_) (fun hc21 => ?_)
    · have h := hf23 hc21
      refine dr_aload_n p0 dX4_readDoor_49 rfl ?_
      obtain ⟨x24, e25, h⟩ := dtBind h
      refine dr_getR x24 dX4_readDoor_50 fl_RX4_12 e25 ?_
      refine dr_aload_n p1 dX4_readDoor_53 rfl ?_
      obtain ⟨x26, e27, h⟩ := dtBind h
      refine dr_getR x26 dX4_readDoor_54 fl_RX4_91 e27 ?_
      refine dr_aload_n p1 dX4_readDoor_57 rfl ?_
      obtain ⟨x28, e29, h⟩ := dtBind h
      refine dr_getI x28 dX4_readDoor_58 fl_RX4_77 e29 ?_
      obtain ⟨_, hb30, h⟩ := dtBind h
      obtain ⟨x33, μ31, e32, h⟩ := dtCall h
      refine dr_callV_i (S0 := []) [.ref x26, .int x28] x33 μ31 dX4_readDoor_61 (c_X8_findAmong x24 x26 x28 μ18 e32) mf_X8_findAmong wt_679 wt_680 wt_684 rfl (dtRv hb30) (by decide) rfl (Nat.le_of_ble_eq_true rfl) (Nat.le_of_ble_eq_true rfl) rfl ?_
      refine dr_istore_n 3 [some (.ref p0), some (.ref p1), some (.int x20), some (.int x33)] dX4_readDoor_64 rfl rfl rfl rfl ?_
      refine dr_iload_n x33 dX4_readDoor_65 rfl ?_
      refine dr_iconst (-1 : Int32) dX4_readDoor_66 (by decide) ?_
      obtain ⟨ht35, hf36⟩ := dtIte h
      refine dr_icmp_ne 72 dX4_readDoor_67 (by decide) (fun hc34 => ?_) (fun hc34 => ?_)
      · have h := hf36 hc34
        refine dr_iload_n x33 dX4_readDoor_72 rfl ?_
        refine dr_iload_n x20 dX4_readDoor_73 rfl ?_
        obtain ⟨ht38, hf39⟩ := dtIte h
        refine dr_icmp_ne 86 dX4_readDoor_74 (by decide) (fun hc37 => ?_) (fun hc37 => ?_)
        · have h := hf39 hc37
          refine dr_aload_n p0 dX4_readDoor_86 rfl ?_
          obtain ⟨x40, e41, h⟩ := dtBind h
          refine dr_getR x40 dX4_readDoor_87 fl_RX4_12 e41 ?_
          obtain ⟨_, hb42, h⟩ := dtBind h
          obtain ⟨μ43, e44, h⟩ := dtBind h
          refine dr_callV_v (S0 := []) [] μ43 dX4_readDoor_90 (c_X8_advance x40 μ31 e44) mf_X8_advance wt_551 wt_552 wt_632 rfl (dtRv hb42) (by decide) rfl (Nat.le_of_ble_eq_true rfl) (Nat.le_of_ble_eq_true rfl) rfl ?_
          refine dr_aload_n p0 dX4_readDoor_93 rfl ?_
          refine dr_iconst (3 : Int32) dX4_readDoor_94 (by decide) ?_
          refine dr_bipush (9 : Int32) dX4_readDoor_95 (by decide) ?_
          obtain ⟨_, hb45, h⟩ := dtBind h
          obtain ⟨x48, μ46, e47, h⟩ := dtCall h
          refine dr_callV_i (S0 := []) [.int (3 : Int32), .int (9 : Int32)] x48 μ46 dX4_readDoor_97 (c_X4_readChoice p0 (3 : Int32) (9 : Int32) μ43 e47) mf_X4_readChoice wt_687 ws_13 wt_685 rfl (dtRv hb45) (by decide) rfl (Nat.le_of_ble_eq_true rfl) (Nat.le_of_ble_eq_true rfl) rfl ?_
          refine dr_istore [some (.ref p0), some (.ref p1), some (.int x20), some (.int x33), some (.int x48)] dX4_readDoor_100 rfl rfl rfl ?_
          refine dr_iload x48 dX4_readDoor_102 rfl ?_
          refine dr_iconst (-1 : Int32) dX4_readDoor_104 (by decide) ?_
          obtain ⟨ht50, hf51⟩ := dtIte h
          refine dr_icmp_ne 110 dX4_readDoor_105 (by decide) (fun hc49 => ?_) (fun hc49 => ?_)
          · have h := hf51 hc49
            refine dr_aload_n p0 dX4_readDoor_110 rfl ?_
            obtain ⟨x52, e53, h⟩ := dtBind h
            refine dr_getR x52 dX4_readDoor_111 fl_RX4_12 e53 ?_
            obtain ⟨x54, e55, h⟩ := dtBind h
            refine dr_getI x54 dX4_readDoor_114 fl_RX4_39 e55 ?_
            refine dr_iconst (4 : Int32) dX4_readDoor_117 (by decide) ?_
            obtain ⟨ht57, hf58⟩ := dtIte h
            refine dr_icmp_ne 125 dX4_readDoor_118 (by decide) (fun hc56 => ?_) (fun hc56 => ?_)
            · have h := hf58 hc56
              refine dr_iconst (0 : Int32) dX4_readDoor_125 (by decide) ?_
              exact c_X4_readDoor_126 p0 p1 x20 x33 x48 (0 : Int32) μ46 h
            · have h := ht57 hc56
              refine dr_iconst (1 : Int32) dX4_readDoor_121 (by decide) ?_
              refine dr_goto 126 dX4_readDoor_122 (by decide) ?_
              exact c_X4_readDoor_126 p0 p1 x20 x33 x48 (1 : Int32) μ46 h
          · have h := ht50 hc49
            refine dr_iconst (0 : Int32) dX4_readDoor_108 (by decide) ?_
            obtain ⟨hz, rfl, rfl⟩ := dtRet h
            exact dr_ireturn dX4_readDoor_109 (dtNz hz)
        · have h := ht38 hc37
          refine dr_aload_n p0 dX4_readDoor_77 rfl ?_
          obtain ⟨x59, e60, h⟩ := dtBind h
          refine dr_getR x59 dX4_readDoor_78 fl_RX4_12 e60 ?_
          refine dr_iconst (5 : Int32) dX4_readDoor_81 (by decide) ?_
          obtain ⟨_, hb61, h⟩ := dtBind h
          obtain ⟨x64, μ62, e63, h⟩ := dtCall h
          refine dr_callV_i (S0 := []) [.int (5 : Int32)] x64 μ62 dX4_readDoor_82 (c_X8_flaw x59 (5 : Int32) μ31 e63) mf_X8_flaw wt_629 wt_630 wt_628 rfl (dtRv hb61) (by decide) rfl (Nat.le_of_ble_eq_true rfl) (Nat.le_of_ble_eq_true rfl) rfl ?_
          obtain ⟨hz, rfl, rfl⟩ := dtRet h
          exact dr_ireturn dX4_readDoor_85 (dtNz hz)
      · have h := ht35 hc34
        refine dr_iconst (0 : Int32) dX4_readDoor_70 (by decide) ?_
        obtain ⟨hz, rfl, rfl⟩ := dtRet h
        exact dr_ireturn dX4_readDoor_71 (dtNz hz)
    · have h := ht22 hc21
      refine dr_iconst (0 : Int32) dX4_readDoor_47 (by decide) ?_
      obtain ⟨hz, rfl, rfl⟩ := dtRet h
      exact dr_ireturn dX4_readDoor_48 (dtNz hz)
  · have h := hf5 hc3
    refine dr_aload_n p0 dX4_readDoor_9 rfl ?_
    obtain ⟨x65, e66, h⟩ := dtBind h
    refine dr_getR x65 dX4_readDoor_10 fl_RX4_12 e66 ?_
    refine dr_bipush (6 : Int32) dX4_readDoor_13 (by decide) ?_
    obtain ⟨_, hb67, h⟩ := dtBind h
    obtain ⟨x70, μ68, e69, h⟩ := dtCall h
    refine dr_callV_i (S0 := []) [.int (6 : Int32)] x70 μ68 dX4_readDoor_15 (c_X8_flaw x65 (6 : Int32) μ e69) mf_X8_flaw wt_629 wt_630 wt_628 rfl (dtRv hb67) (by decide) rfl (Nat.le_of_ble_eq_true rfl) (Nat.le_of_ble_eq_true rfl) rfl ?_
    obtain ⟨hz, rfl, rfl⟩ := dtRet h
    exact dr_ireturn dX4_readDoor_18 (dtNz hz)
/-! X4_readOdds -/
theorem dX4_readOdds_0 : decode cX4_readOdds 0 = .ok (.aload_n 0, 1) := by decide +kernel
theorem dX4_readOdds_1 : decode cX4_readOdds 1 = .ok (.getfield 27, 3) := by decide +kernel
theorem dX4_readOdds_4 : decode cX4_readOdds 4 = .ok (.ifCond .eq 12, 3) := by decide +kernel
theorem dX4_readOdds_7 : decode cX4_readOdds 7 = .ok (.aload_n 0, 1) := by decide +kernel
theorem dX4_readOdds_8 : decode cX4_readOdds 8 = .ok (.getfield 12, 3) := by decide +kernel
theorem dX4_readOdds_11 : decode cX4_readOdds 11 = .ok (.iconst 5, 1) := by decide +kernel
theorem dX4_readOdds_12 : decode cX4_readOdds 12 = .ok (.invokevirtual 59, 3) := by decide +kernel
theorem dX4_readOdds_15 : decode cX4_readOdds 15 = .ok (.ireturn, 1) := by decide +kernel
theorem dX4_readOdds_16 : decode cX4_readOdds 16 = .ok (.aload_n 0, 1) := by decide +kernel
theorem dX4_readOdds_17 : decode cX4_readOdds 17 = .ok (.iconst 1, 1) := by decide +kernel
theorem dX4_readOdds_18 : decode cX4_readOdds 18 = .ok (.putfield 27, 3) := by decide +kernel
theorem dX4_readOdds_21 : decode cX4_readOdds 21 = .ok (.aload_n 0, 1) := by decide +kernel
theorem dX4_readOdds_22 : decode cX4_readOdds 22 = .ok (.getfield 12, 3) := by decide +kernel
theorem dX4_readOdds_25 : decode cX4_readOdds 25 = .ok (.invokevirtual 63, 3) := by decide +kernel
theorem dX4_readOdds_28 : decode cX4_readOdds 28 = .ok (.aload_n 0, 1) := by decide +kernel
theorem dX4_readOdds_29 : decode cX4_readOdds 29 = .ok (.getfield 12, 3) := by decide +kernel
theorem dX4_readOdds_32 : decode cX4_readOdds 32 = .ok (.iconst 0, 1) := by decide +kernel
theorem dX4_readOdds_33 : decode cX4_readOdds 33 = .ok (.bipush 16, 2) := by decide +kernel
theorem dX4_readOdds_35 : decode cX4_readOdds 35 = .ok (.invokevirtual 66, 3) := by decide +kernel
theorem dX4_readOdds_38 : decode cX4_readOdds 38 = .ok (.istore_n 2, 1) := by decide +kernel
theorem dX4_readOdds_39 : decode cX4_readOdds 39 = .ok (.iload_n 2, 1) := by decide +kernel
theorem dX4_readOdds_40 : decode cX4_readOdds 40 = .ok (.iconst (-1), 1) := by decide +kernel
theorem dX4_readOdds_41 : decode cX4_readOdds 41 = .ok (.if_icmp .ne 5, 3) := by decide +kernel
theorem dX4_readOdds_44 : decode cX4_readOdds 44 = .ok (.iconst 0, 1) := by decide +kernel
theorem dX4_readOdds_45 : decode cX4_readOdds 45 = .ok (.ireturn, 1) := by decide +kernel
theorem dX4_readOdds_46 : decode cX4_readOdds 46 = .ok (.aload_n 1, 1) := by decide +kernel
theorem dX4_readOdds_47 : decode cX4_readOdds 47 = .ok (.iload_n 2, 1) := by decide +kernel
theorem dX4_readOdds_48 : decode cX4_readOdds 48 = .ok (.putfield 70, 3) := by decide +kernel
theorem dX4_readOdds_51 : decode cX4_readOdds 51 = .ok (.aload_n 0, 1) := by decide +kernel
theorem dX4_readOdds_52 : decode cX4_readOdds 52 = .ok (.getfield 12, 3) := by decide +kernel
theorem dX4_readOdds_55 : decode cX4_readOdds 55 = .ok (.bipush 59, 2) := by decide +kernel
theorem dX4_readOdds_57 : decode cX4_readOdds 57 = .ok (.invokevirtual 73, 3) := by decide +kernel
theorem dX4_readOdds_60 : decode cX4_readOdds 60 = .ok (.ireturn, 1) := by decide +kernel
set_option maxRecDepth 100000 in
def f_X4_readOdds (p0 : Nat) (p1 : Nat) (μ : dtM) : Option (Int32 × dtM) :=
  (opGI 4 2 μ p0).bind fun x1 => if x1 = 0 then ((opPZ 4 2 μ p0 (1 : Int32)).bind fun μ6 => (opGR 4 0 μ6 p0).bind fun x8 => (opRv 8 μ6 x8).bind fun _ => (f_X8_advance x8 μ6).bind fun μ11 => (opGR 4 0 μ11 p0).bind fun x13 => (opRv 8 μ11 x13).bind fun _ => opCall (f_X8_passNumber x13 (0 : Int32) (16 : Int32) μ11) fun x18 μ16 => if x18 = (-1 : Int32) then (opRet (0 : Int32) μ16) else ((opPI 3 4 μ16 p1 x18).bind fun μ22 => (opGR 4 0 μ22 p0).bind fun x24 => (opRv 8 μ22 x24).bind fun _ => opCall (f_X8_passSign x24 (59 : Int32) μ22) fun x29 μ27 => opRet x29 μ27)) else ((opGR 4 0 μ p0).bind fun x30 => (opRv 8 μ x30).bind fun _ => opCall (f_X8_flaw x30 (5 : Int32) μ) fun x35 μ33 => opRet x35 μ33)
set_option maxRecDepth 100000 in
theorem c_X4_readOdds {r : Int32} {F : dtM} (p0 : Nat) (p1 : Nat) (μ : dtM) (h : f_X4_readOdds p0 p1 μ = some (r, F)) : dtMet yX4_readOdds cX4_readOdds 3 (some .boolean) 9 [.ref p0, .ref p1] μ (some (.int r)) F := by
  refine dtMet.of (by decide +kernel) (Nat.le_of_ble_eq_true rfl) (show dtW yX4_readOdds cX4_readOdds 3 (some .boolean) 9 (some (.int r)) F 0 [some (.ref p0), some (.ref p1)] [] μ from ?_)
  rw [f_X4_readOdds] at h
  refine dr_aload_n p0 dX4_readOdds_0 rfl ?_
  obtain ⟨x1, e2, h⟩ := dtBind h
  refine dr_getZ x1 dX4_readOdds_1 fl_RX4_27 e2 ?_
  obtain ⟨ht4, hf5⟩ := dtIte h
  refine dr_if_eq 16 dX4_readOdds_4 (by decide) (fun hc3 => ?_) (fun hc3 => ?_)
  · have h := ht4 hc3
    refine dr_aload_n p0 dX4_readOdds_16 rfl ?_
    refine dr_iconst (1 : Int32) dX4_readOdds_17 (by decide) ?_
    obtain ⟨μ6, e7, h⟩ := dtBind h
    refine dr_putZ μ6 dX4_readOdds_18 fl_RX4_27 rfl e7 ?_
    refine dr_aload_n p0 dX4_readOdds_21 rfl ?_
    obtain ⟨x8, e9, h⟩ := dtBind h
    refine dr_getR x8 dX4_readOdds_22 fl_RX4_12 e9 ?_
    obtain ⟨_, hb10, h⟩ := dtBind h
    obtain ⟨μ11, e12, h⟩ := dtBind h
    refine dr_callV_v (S0 := []) [] μ11 dX4_readOdds_25 (c_X8_advance x8 μ6 e12) mf_X8_advance wt_551 wt_552 wt_632 rfl (dtRv hb10) (by decide) rfl (Nat.le_of_ble_eq_true rfl) (Nat.le_of_ble_eq_true rfl) rfl ?_
    refine dr_aload_n p0 dX4_readOdds_28 rfl ?_
    obtain ⟨x13, e14, h⟩ := dtBind h
    refine dr_getR x13 dX4_readOdds_29 fl_RX4_12 e14 ?_
    refine dr_iconst (0 : Int32) dX4_readOdds_32 (by decide) ?_
    refine dr_bipush (16 : Int32) dX4_readOdds_33 (by decide) ?_
    obtain ⟨_, hb15, h⟩ := dtBind h
    obtain ⟨x18, μ16, e17, h⟩ := dtCall h
    refine dr_callV_i (S0 := []) [.int (0 : Int32), .int (16 : Int32)] x18 μ16 dX4_readOdds_35 (c_X8_passNumber x13 (0 : Int32) (16 : Int32) μ11 e17) mf_X8_passNumber wt_634 wt_635 wt_633 rfl (dtRv hb15) (by decide) rfl (Nat.le_of_ble_eq_true rfl) (Nat.le_of_ble_eq_true rfl) rfl ?_
    refine dr_istore_n 2 [some (.ref p0), some (.ref p1), some (.int x18)] dX4_readOdds_38 rfl rfl rfl rfl ?_
    refine dr_iload_n x18 dX4_readOdds_39 rfl ?_
    refine dr_iconst (-1 : Int32) dX4_readOdds_40 (by decide) ?_
    obtain ⟨ht20, hf21⟩ := dtIte h
    refine dr_icmp_ne 46 dX4_readOdds_41 (by decide) (fun hc19 => ?_) (fun hc19 => ?_)
    · have h := hf21 hc19
      refine dr_aload_n p1 dX4_readOdds_46 rfl ?_
      refine dr_iload_n x18 dX4_readOdds_47 rfl ?_
      obtain ⟨μ22, e23, h⟩ := dtBind h
      refine dr_putI μ22 dX4_readOdds_48 fl_RX4_70 rfl e23 ?_
      refine dr_aload_n p0 dX4_readOdds_51 rfl ?_
      obtain ⟨x24, e25, h⟩ := dtBind h
      refine dr_getR x24 dX4_readOdds_52 fl_RX4_12 e25 ?_
      refine dr_bipush (59 : Int32) dX4_readOdds_55 (by decide) ?_
      obtain ⟨_, hb26, h⟩ := dtBind h
      obtain ⟨x29, μ27, e28, h⟩ := dtCall h
      refine dr_callV_i (S0 := []) [.int (59 : Int32)] x29 μ27 dX4_readOdds_57 (c_X8_passSign x24 (59 : Int32) μ22 e28) mf_X8_passSign wt_639 wt_640 wt_638 rfl (dtRv hb26) (by decide) rfl (Nat.le_of_ble_eq_true rfl) (Nat.le_of_ble_eq_true rfl) rfl ?_
      obtain ⟨hz, rfl, rfl⟩ := dtRet h
      exact dr_ireturn dX4_readOdds_60 (dtNz hz)
    · have h := ht20 hc19
      refine dr_iconst (0 : Int32) dX4_readOdds_44 (by decide) ?_
      obtain ⟨hz, rfl, rfl⟩ := dtRet h
      exact dr_ireturn dX4_readOdds_45 (dtNz hz)
  · have h := hf5 hc3
    refine dr_aload_n p0 dX4_readOdds_7 rfl ?_
    obtain ⟨x30, e31, h⟩ := dtBind h
    refine dr_getR x30 dX4_readOdds_8 fl_RX4_12 e31 ?_
    refine dr_iconst (5 : Int32) dX4_readOdds_11 (by decide) ?_
    obtain ⟨_, hb32, h⟩ := dtBind h
    obtain ⟨x35, μ33, e34, h⟩ := dtCall h
    refine dr_callV_i (S0 := []) [.int (5 : Int32)] x35 μ33 dX4_readOdds_12 (c_X8_flaw x30 (5 : Int32) μ e34) mf_X8_flaw wt_629 wt_630 wt_628 rfl (dtRv hb32) (by decide) rfl (Nat.le_of_ble_eq_true rfl) (Nat.le_of_ble_eq_true rfl) rfl ?_
    obtain ⟨hz, rfl, rfl⟩ := dtRet h
    exact dr_ireturn dX4_readOdds_15 (dtNz hz)
/-! X4_isTaken -/
theorem dX4_isTaken_0 : decode cX4_isTaken 0 = .ok (.aload_n 0, 1) := by decide +kernel
theorem dX4_isTaken_1 : decode cX4_isTaken 1 = .ok (.getfield 12, 3) := by decide +kernel
theorem dX4_isTaken_4 : decode cX4_isTaken 4 = .ok (.aload_n 1, 1) := by decide +kernel
theorem dX4_isTaken_5 : decode cX4_isTaken 5 = .ok (.getfield 91, 3) := by decide +kernel
theorem dX4_isTaken_8 : decode cX4_isTaken 8 = .ok (.aload_n 1, 1) := by decide +kernel
theorem dX4_isTaken_9 : decode cX4_isTaken 9 = .ok (.getfield 77, 3) := by decide +kernel
theorem dX4_isTaken_12 : decode cX4_isTaken 12 = .ok (.invokevirtual 169, 3) := by decide +kernel
theorem dX4_isTaken_15 : decode cX4_isTaken 15 = .ok (.iconst (-1), 1) := by decide +kernel
theorem dX4_isTaken_16 : decode cX4_isTaken 16 = .ok (.if_icmp .ne 41, 3) := by decide +kernel
theorem dX4_isTaken_19 : decode cX4_isTaken 19 = .ok (.aload_n 0, 1) := by decide +kernel
theorem dX4_isTaken_20 : decode cX4_isTaken 20 = .ok (.getfield 12, 3) := by decide +kernel
theorem dX4_isTaken_23 : decode cX4_isTaken 23 = .ok (.aload_n 0, 1) := by decide +kernel
theorem dX4_isTaken_24 : decode cX4_isTaken 24 = .ok (.getfield 18, 3) := by decide +kernel
theorem dX4_isTaken_27 : decode cX4_isTaken 27 = .ok (.aload_n 1, 1) := by decide +kernel
theorem dX4_isTaken_28 : decode cX4_isTaken 28 = .ok (.getfield 108, 3) := by decide +kernel
theorem dX4_isTaken_31 : decode cX4_isTaken 31 = .ok (.invokevirtual 169, 3) := by decide +kernel
theorem dX4_isTaken_34 : decode cX4_isTaken 34 = .ok (.iconst (-1), 1) := by decide +kernel
theorem dX4_isTaken_35 : decode cX4_isTaken 35 = .ok (.if_icmp .ne 22, 3) := by decide +kernel
theorem dX4_isTaken_38 : decode cX4_isTaken 38 = .ok (.aload_n 0, 1) := by decide +kernel
theorem dX4_isTaken_39 : decode cX4_isTaken 39 = .ok (.getfield 12, 3) := by decide +kernel
theorem dX4_isTaken_42 : decode cX4_isTaken 42 = .ok (.aload_n 1, 1) := by decide +kernel
theorem dX4_isTaken_43 : decode cX4_isTaken 43 = .ok (.getfield 172, 3) := by decide +kernel
theorem dX4_isTaken_46 : decode cX4_isTaken 46 = .ok (.aload_n 1, 1) := by decide +kernel
theorem dX4_isTaken_47 : decode cX4_isTaken 47 = .ok (.getfield 137, 3) := by decide +kernel
theorem dX4_isTaken_50 : decode cX4_isTaken 50 = .ok (.invokevirtual 169, 3) := by decide +kernel
theorem dX4_isTaken_53 : decode cX4_isTaken 53 = .ok (.iconst (-1), 1) := by decide +kernel
theorem dX4_isTaken_54 : decode cX4_isTaken 54 = .ok (.if_icmp .eq 7, 3) := by decide +kernel
theorem dX4_isTaken_57 : decode cX4_isTaken 57 = .ok (.iconst 1, 1) := by decide +kernel
theorem dX4_isTaken_58 : decode cX4_isTaken 58 = .ok (.goto 4, 3) := by decide +kernel
theorem dX4_isTaken_61 : decode cX4_isTaken 61 = .ok (.iconst 0, 1) := by decide +kernel
theorem dX4_isTaken_62 : decode cX4_isTaken 62 = .ok (.ireturn, 1) := by decide +kernel
set_option maxRecDepth 100000 in
def f_X4_isTaken_62 (s0 : Int32) (μ : dtM) : Option (Int32 × dtM) :=
  opRet s0 μ
set_option maxRecDepth 100000 in
def f_X4_isTaken_57  (μ : dtM) : Option (Int32 × dtM) :=
  f_X4_isTaken_62 (1 : Int32) μ
set_option maxRecDepth 100000 in
def f_X4_isTaken (p0 : Nat) (p1 : Nat) (μ : dtM) : Option (Int32 × dtM) :=
  (opGR 4 0 μ p0).bind fun x1 => (opGR 3 7 μ p1).bind fun x3 => (opGI 3 0 μ p1).bind fun x5 => (opRv 8 μ x1).bind fun _ => opCall (f_X8_numberOf x1 x3 x5 μ) fun x10 μ8 => if x10 = (-1 : Int32) then ((opGR 4 0 μ8 p0).bind fun x14 => (opGR 4 1 μ8 p0).bind fun x16 => (opGI 3 2 μ8 p1).bind fun x18 => (opRv 8 μ8 x14).bind fun _ => opCall (f_X8_numberOf x14 x16 x18 μ8) fun x23 μ21 => if x23 = (-1 : Int32) then ((opGR 4 0 μ21 p0).bind fun x27 => (opGR 3 8 μ21 p1).bind fun x29 => (opGI 3 3 μ21 p1).bind fun x31 => (opRv 8 μ21 x27).bind fun _ => opCall (f_X8_numberOf x27 x29 x31 μ21) fun x36 μ34 => if x36 = (-1 : Int32) then (f_X4_isTaken_62 (0 : Int32) μ34) else (f_X4_isTaken_57 μ34)) else (f_X4_isTaken_57 μ21)) else (f_X4_isTaken_57 μ8)
set_option maxRecDepth 100000 in
theorem c_X4_isTaken_62 {r : Int32} {F : dtM} (s0 : Int32) (μ : dtM) (h : f_X4_isTaken_62 s0 μ = some (r, F)) : dtW yX4_isTaken cX4_isTaken 2 (some .boolean) 2 (some (.int r)) F 62 [] [.int s0] μ := by
  rw [f_X4_isTaken_62] at h
  obtain ⟨hz, rfl, rfl⟩ := dtRet h
  exact dr_ireturn dX4_isTaken_62 (dtNz hz)
set_option maxRecDepth 100000 in
theorem c_X4_isTaken_57 {r : Int32} {F : dtM}  (μ : dtM) (h : f_X4_isTaken_57  μ = some (r, F)) : dtW yX4_isTaken cX4_isTaken 2 (some .boolean) 2 (some (.int r)) F 57 [] [] μ := by
  rw [f_X4_isTaken_57] at h
  refine dr_iconst (1 : Int32) dX4_isTaken_57 (by decide) ?_
  refine dr_goto 62 dX4_isTaken_58 (by decide) ?_
  exact c_X4_isTaken_62 (1 : Int32) μ h
set_option maxRecDepth 100000 in
theorem c_X4_isTaken {r : Int32} {F : dtM} (p0 : Nat) (p1 : Nat) (μ : dtM) (h : f_X4_isTaken p0 p1 μ = some (r, F)) : dtMet yX4_isTaken cX4_isTaken 2 (some .boolean) 2 [.ref p0, .ref p1] μ (some (.int r)) F := by
  refine dtMet.of (by decide +kernel) (Nat.le_of_ble_eq_true rfl) (show dtW yX4_isTaken cX4_isTaken 2 (some .boolean) 2 (some (.int r)) F 0 [some (.ref p0), some (.ref p1)] [] μ from ?_)
  rw [f_X4_isTaken] at h
  refine dr_aload_n p0 dX4_isTaken_0 rfl ?_
  obtain ⟨x1, e2, h⟩ := dtBind h
  refine dr_getR x1 dX4_isTaken_1 fl_RX4_12 e2 ?_
  refine dr_aload_n p1 dX4_isTaken_4 rfl ?_
  obtain ⟨x3, e4, h⟩ := dtBind h
  refine dr_getR x3 dX4_isTaken_5 fl_RX4_91 e4 ?_
  refine dr_aload_n p1 dX4_isTaken_8 rfl ?_
  obtain ⟨x5, e6, h⟩ := dtBind h
  refine dr_getI x5 dX4_isTaken_9 fl_RX4_77 e6 ?_
  obtain ⟨_, hb7, h⟩ := dtBind h
  obtain ⟨x10, μ8, e9, h⟩ := dtCall h
  refine dr_callV_i (S0 := []) [.ref x3, .int x5] x10 μ8 dX4_isTaken_12 (c_X8_numberOf x1 x3 x5 μ e9) mf_X8_numberOf wt_663 wt_664 wt_662 rfl (dtRv hb7) (by decide) rfl (Nat.le_of_ble_eq_true rfl) (Nat.le_of_ble_eq_true rfl) rfl ?_
  refine dr_iconst (-1 : Int32) dX4_isTaken_15 (by decide) ?_
  obtain ⟨ht12, hf13⟩ := dtIte h
  refine dr_icmp_ne 57 dX4_isTaken_16 (by decide) (fun hc11 => ?_) (fun hc11 => ?_)
  · have h := hf13 hc11
    refine dr_mask [] [] rfl ?_
    exact c_X4_isTaken_57 μ8 h
  · have h := ht12 hc11
    refine dr_aload_n p0 dX4_isTaken_19 rfl ?_
    obtain ⟨x14, e15, h⟩ := dtBind h
    refine dr_getR x14 dX4_isTaken_20 fl_RX4_12 e15 ?_
    refine dr_aload_n p0 dX4_isTaken_23 rfl ?_
    obtain ⟨x16, e17, h⟩ := dtBind h
    refine dr_getR x16 dX4_isTaken_24 fl_RX4_18 e17 ?_
    refine dr_aload_n p1 dX4_isTaken_27 rfl ?_
    obtain ⟨x18, e19, h⟩ := dtBind h
    refine dr_getI x18 dX4_isTaken_28 fl_RX4_108 e19 ?_
    obtain ⟨_, hb20, h⟩ := dtBind h
    obtain ⟨x23, μ21, e22, h⟩ := dtCall h
    refine dr_callV_i (S0 := []) [.ref x16, .int x18] x23 μ21 dX4_isTaken_31 (c_X8_numberOf x14 x16 x18 μ8 e22) mf_X8_numberOf wt_663 wt_664 wt_662 rfl (dtRv hb20) (by decide) rfl (Nat.le_of_ble_eq_true rfl) (Nat.le_of_ble_eq_true rfl) rfl ?_
    refine dr_iconst (-1 : Int32) dX4_isTaken_34 (by decide) ?_
    obtain ⟨ht25, hf26⟩ := dtIte h
    refine dr_icmp_ne 57 dX4_isTaken_35 (by decide) (fun hc24 => ?_) (fun hc24 => ?_)
    · have h := hf26 hc24
      refine dr_mask [] [] rfl ?_
      exact c_X4_isTaken_57 μ21 h
    · have h := ht25 hc24
      refine dr_aload_n p0 dX4_isTaken_38 rfl ?_
      obtain ⟨x27, e28, h⟩ := dtBind h
      refine dr_getR x27 dX4_isTaken_39 fl_RX4_12 e28 ?_
      refine dr_aload_n p1 dX4_isTaken_42 rfl ?_
      obtain ⟨x29, e30, h⟩ := dtBind h
      refine dr_getR x29 dX4_isTaken_43 fl_RX4_172 e30 ?_
      refine dr_aload_n p1 dX4_isTaken_46 rfl ?_
      obtain ⟨x31, e32, h⟩ := dtBind h
      refine dr_getI x31 dX4_isTaken_47 fl_RX4_137 e32 ?_
      obtain ⟨_, hb33, h⟩ := dtBind h
      obtain ⟨x36, μ34, e35, h⟩ := dtCall h
      refine dr_callV_i (S0 := []) [.ref x29, .int x31] x36 μ34 dX4_isTaken_50 (c_X8_numberOf x27 x29 x31 μ21 e35) mf_X8_numberOf wt_663 wt_664 wt_662 rfl (dtRv hb33) (by decide) rfl (Nat.le_of_ble_eq_true rfl) (Nat.le_of_ble_eq_true rfl) rfl ?_
      refine dr_iconst (-1 : Int32) dX4_isTaken_53 (by decide) ?_
      obtain ⟨ht38, hf39⟩ := dtIte h
      refine dr_icmp_eq 61 dX4_isTaken_54 (by decide) (fun hc37 => ?_) (fun hc37 => ?_)
      · have h := ht38 hc37
        refine dr_iconst (0 : Int32) dX4_isTaken_61 (by decide) ?_
        refine dr_mask [] [] rfl ?_
        exact c_X4_isTaken_62 (0 : Int32) μ34 h
      · have h := hf39 hc37
        refine dr_mask [] [] rfl ?_
        exact c_X4_isTaken_57 μ34 h
/-! X4_passNewName -/
theorem dX4_passNewName_0 : decode cX4_passNewName 0 = .ok (.aload_n 0, 1) := by decide +kernel
theorem dX4_passNewName_1 : decode cX4_passNewName 1 = .ok (.getfield 12, 3) := by decide +kernel
theorem dX4_passNewName_4 : decode cX4_passNewName 4 = .ok (.invokevirtual 155, 3) := by decide +kernel
theorem dX4_passNewName_7 : decode cX4_passNewName 7 = .ok (.ifCond .ne 14, 3) := by decide +kernel
theorem dX4_passNewName_10 : decode cX4_passNewName 10 = .ok (.aload_n 0, 1) := by decide +kernel
theorem dX4_passNewName_11 : decode cX4_passNewName 11 = .ok (.getfield 12, 3) := by decide +kernel
theorem dX4_passNewName_14 : decode cX4_passNewName 14 = .ok (.iconst 2, 1) := by decide +kernel
theorem dX4_passNewName_15 : decode cX4_passNewName 15 = .ok (.invokevirtual 59, 3) := by decide +kernel
theorem dX4_passNewName_18 : decode cX4_passNewName 18 = .ok (.pop, 1) := by decide +kernel
theorem dX4_passNewName_19 : decode cX4_passNewName 19 = .ok (.lconst 0, 1) := by decide +kernel
theorem dX4_passNewName_20 : decode cX4_passNewName 20 = .ok (.lreturn, 1) := by decide +kernel
theorem dX4_passNewName_21 : decode cX4_passNewName 21 = .ok (.aload_n 0, 1) := by decide +kernel
theorem dX4_passNewName_22 : decode cX4_passNewName 22 = .ok (.aload_n 1, 1) := by decide +kernel
theorem dX4_passNewName_23 : decode cX4_passNewName 23 = .ok (.invokevirtual 162, 3) := by decide +kernel
theorem dX4_passNewName_26 : decode cX4_passNewName 26 = .ok (.ifCond .eq 14, 3) := by decide +kernel
theorem dX4_passNewName_29 : decode cX4_passNewName 29 = .ok (.aload_n 0, 1) := by decide +kernel
theorem dX4_passNewName_30 : decode cX4_passNewName 30 = .ok (.getfield 12, 3) := by decide +kernel
theorem dX4_passNewName_33 : decode cX4_passNewName 33 = .ok (.iconst 3, 1) := by decide +kernel
theorem dX4_passNewName_34 : decode cX4_passNewName 34 = .ok (.invokevirtual 59, 3) := by decide +kernel
theorem dX4_passNewName_37 : decode cX4_passNewName 37 = .ok (.pop, 1) := by decide +kernel
theorem dX4_passNewName_38 : decode cX4_passNewName 38 = .ok (.lconst 0, 1) := by decide +kernel
theorem dX4_passNewName_39 : decode cX4_passNewName 39 = .ok (.lreturn, 1) := by decide +kernel
theorem dX4_passNewName_40 : decode cX4_passNewName 40 = .ok (.aload_n 0, 1) := by decide +kernel
theorem dX4_passNewName_41 : decode cX4_passNewName 41 = .ok (.getfield 12, 3) := by decide +kernel
theorem dX4_passNewName_44 : decode cX4_passNewName 44 = .ok (.getfield 165, 3) := by decide +kernel
theorem dX4_passNewName_47 : decode cX4_passNewName 47 = .ok (.lstore_n 2, 1) := by decide +kernel
theorem dX4_passNewName_48 : decode cX4_passNewName 48 = .ok (.aload_n 0, 1) := by decide +kernel
theorem dX4_passNewName_49 : decode cX4_passNewName 49 = .ok (.getfield 12, 3) := by decide +kernel
theorem dX4_passNewName_52 : decode cX4_passNewName 52 = .ok (.invokevirtual 63, 3) := by decide +kernel
theorem dX4_passNewName_55 : decode cX4_passNewName 55 = .ok (.lload_n 2, 1) := by decide +kernel
theorem dX4_passNewName_56 : decode cX4_passNewName 56 = .ok (.lreturn, 1) := by decide +kernel
set_option maxRecDepth 100000 in
def f_X4_passNewName (p0 : Nat) (p1 : Nat) (μ : dtM) : Option (Int64 × dtM) :=
  (opGR 4 0 μ p0).bind fun x1 => (opRv 8 μ x1).bind fun _ => opCall (f_X8_isName x1 μ) fun x6 μ4 => if x6 = 0 then ((opGR 4 0 μ4 p0).bind fun x32 => (opRv 8 μ4 x32).bind fun _ => opCall (f_X8_flaw x32 (2 : Int32) μ4) fun x37 μ35 => some ((0 : Int64), μ35)) else ((opRv 4 μ4 p0).bind fun _ => opCall (f_X4_isTaken p0 p1 μ4) fun x13 μ11 => if x13 = 0 then ((opGR 4 0 μ11 p0).bind fun x17 => (opGJ 8 7 μ11 x17).bind fun x19 => (opGR 4 0 μ11 p0).bind fun x21 => (opRv 8 μ11 x21).bind fun _ => (f_X8_advance x21 μ11).bind fun μ24 => some (x19, μ24)) else ((opGR 4 0 μ11 p0).bind fun x26 => (opRv 8 μ11 x26).bind fun _ => opCall (f_X8_flaw x26 (3 : Int32) μ11) fun x31 μ29 => some ((0 : Int64), μ29)))
set_option maxRecDepth 100000 in
theorem c_X4_passNewName {r : Int64} {F : dtM} (p0 : Nat) (p1 : Nat) (μ : dtM) (h : f_X4_passNewName p0 p1 μ = some (r, F)) : dtMet yX4_passNewName cX4_passNewName 4 (some .long) 8 [.ref p0, .ref p1] μ (some (.long r)) F := by
  refine dtMet.of (by decide +kernel) (Nat.le_of_ble_eq_true rfl) (show dtW yX4_passNewName cX4_passNewName 4 (some .long) 8 (some (.long r)) F 0 [some (.ref p0), some (.ref p1)] [] μ from ?_)
  rw [f_X4_passNewName] at h
  refine dr_aload_n p0 dX4_passNewName_0 rfl ?_
  obtain ⟨x1, e2, h⟩ := dtBind h
  refine dr_getR x1 dX4_passNewName_1 fl_RX4_12 e2 ?_
  obtain ⟨_, hb3, h⟩ := dtBind h
  obtain ⟨x6, μ4, e5, h⟩ := dtCall h
  refine dr_callV_i (S0 := []) [] x6 μ4 dX4_passNewName_4 (c_X8_isName x1 μ e5) mf_X8_isName wt_655 wt_656 wt_654 rfl (dtRv hb3) (by decide) rfl (Nat.le_of_ble_eq_true rfl) (Nat.le_of_ble_eq_true rfl) rfl ?_
  obtain ⟨ht8, hf9⟩ := dtIte h
  refine dr_if_ne 21 dX4_passNewName_7 (by decide) (fun hc7 => ?_) (fun hc7 => ?_)
  · have h := hf9 hc7
    refine dr_aload_n p0 dX4_passNewName_21 rfl ?_
    refine dr_aload_n p1 dX4_passNewName_22 rfl ?_
    obtain ⟨_, hb10, h⟩ := dtBind h
    obtain ⟨x13, μ11, e12, h⟩ := dtCall h
    refine dr_callV_i (S0 := []) [.ref p1] x13 μ11 dX4_passNewName_23 (c_X4_isTaken p0 p1 μ4 e12) mf_X4_isTaken wt_660 ws_11 wt_658 rfl (dtRv hb10) (by decide) rfl (Nat.le_of_ble_eq_true rfl) (Nat.le_of_ble_eq_true rfl) rfl ?_
    obtain ⟨ht15, hf16⟩ := dtIte h
    refine dr_if_eq 40 dX4_passNewName_26 (by decide) (fun hc14 => ?_) (fun hc14 => ?_)
    · have h := ht15 hc14
      refine dr_aload_n p0 dX4_passNewName_40 rfl ?_
      obtain ⟨x17, e18, h⟩ := dtBind h
      refine dr_getR x17 dX4_passNewName_41 fl_RX4_12 e18 ?_
      obtain ⟨x19, e20, h⟩ := dtBind h
      refine dr_getJ x19 dX4_passNewName_44 fl_RX4_165 e20 ?_
      refine dr_lstore_n 2 [some (.ref p0), some (.ref p1), some (.long x19), none] dX4_passNewName_47 rfl rfl rfl rfl ?_
      refine dr_aload_n p0 dX4_passNewName_48 rfl ?_
      obtain ⟨x21, e22, h⟩ := dtBind h
      refine dr_getR x21 dX4_passNewName_49 fl_RX4_12 e22 ?_
      obtain ⟨_, hb23, h⟩ := dtBind h
      obtain ⟨μ24, e25, h⟩ := dtBind h
      refine dr_callV_v (S0 := []) [] μ24 dX4_passNewName_52 (c_X8_advance x21 μ11 e25) mf_X8_advance wt_551 wt_552 wt_632 rfl (dtRv hb23) (by decide) rfl (Nat.le_of_ble_eq_true rfl) (Nat.le_of_ble_eq_true rfl) rfl ?_
      refine dr_lload_n x19 dX4_passNewName_55 rfl ?_
      cases h
      exact dr_lreturn dX4_passNewName_56
    · have h := hf16 hc14
      refine dr_aload_n p0 dX4_passNewName_29 rfl ?_
      obtain ⟨x26, e27, h⟩ := dtBind h
      refine dr_getR x26 dX4_passNewName_30 fl_RX4_12 e27 ?_
      refine dr_iconst (3 : Int32) dX4_passNewName_33 (by decide) ?_
      obtain ⟨_, hb28, h⟩ := dtBind h
      obtain ⟨x31, μ29, e30, h⟩ := dtCall h
      refine dr_callV_i (S0 := []) [.int (3 : Int32)] x31 μ29 dX4_passNewName_34 (c_X8_flaw x26 (3 : Int32) μ11 e30) mf_X8_flaw wt_629 wt_630 wt_628 rfl (dtRv hb28) (by decide) rfl (Nat.le_of_ble_eq_true rfl) (Nat.le_of_ble_eq_true rfl) rfl ?_
      refine dr_pop dX4_passNewName_37 rfl ?_
      refine dr_lconst (0 : Int64) dX4_passNewName_38 (by decide) ?_
      cases h
      exact dr_lreturn dX4_passNewName_39
  · have h := ht8 hc7
    refine dr_aload_n p0 dX4_passNewName_10 rfl ?_
    obtain ⟨x32, e33, h⟩ := dtBind h
    refine dr_getR x32 dX4_passNewName_11 fl_RX4_12 e33 ?_
    refine dr_iconst (2 : Int32) dX4_passNewName_14 (by decide) ?_
    obtain ⟨_, hb34, h⟩ := dtBind h
    obtain ⟨x37, μ35, e36, h⟩ := dtCall h
    refine dr_callV_i (S0 := []) [.int (2 : Int32)] x37 μ35 dX4_passNewName_15 (c_X8_flaw x32 (2 : Int32) μ4 e36) mf_X8_flaw wt_629 wt_630 wt_628 rfl (dtRv hb34) (by decide) rfl (Nat.le_of_ble_eq_true rfl) (Nat.le_of_ble_eq_true rfl) rfl ?_
    refine dr_pop dX4_passNewName_18 rfl ?_
    refine dr_lconst (0 : Int64) dX4_passNewName_19 (by decide) ?_
    cases h
    exact dr_lreturn dX4_passNewName_20
/-! X4_readKnown -/
theorem dX4_readKnown_0 : decode cX4_readKnown 0 = .ok (.aload_n 0, 1) := by decide +kernel
theorem dX4_readKnown_1 : decode cX4_readKnown 1 = .ok (.getfield 12, 3) := by decide +kernel
theorem dX4_readKnown_4 : decode cX4_readKnown 4 = .ok (.getfield 39, 3) := by decide +kernel
theorem dX4_readKnown_7 : decode cX4_readKnown 7 = .ok (.bipush 14, 2) := by decide +kernel
theorem dX4_readKnown_9 : decode cX4_readKnown 9 = .ok (.if_icmp .eq 5, 3) := by decide +kernel
theorem dX4_readKnown_12 : decode cX4_readKnown 12 = .ok (.iconst 0, 1) := by decide +kernel
theorem dX4_readKnown_13 : decode cX4_readKnown 13 = .ok (.ireturn, 1) := by decide +kernel
theorem dX4_readKnown_14 : decode cX4_readKnown 14 = .ok (.aload_n 0, 1) := by decide +kernel
theorem dX4_readKnown_15 : decode cX4_readKnown 15 = .ok (.getfield 12, 3) := by decide +kernel
theorem dX4_readKnown_18 : decode cX4_readKnown 18 = .ok (.invokevirtual 63, 3) := by decide +kernel
theorem dX4_readKnown_21 : decode cX4_readKnown 21 = .ok (.iconst 0, 1) := by decide +kernel
theorem dX4_readKnown_22 : decode cX4_readKnown 22 = .ok (.istore_n 2, 1) := by decide +kernel
theorem dX4_readKnown_23 : decode cX4_readKnown 23 = .ok (.iconst 0, 1) := by decide +kernel
theorem dX4_readKnown_24 : decode cX4_readKnown 24 = .ok (.istore_n 3, 1) := by decide +kernel
theorem dX4_readKnown_25 : decode cX4_readKnown 25 = .ok (.iload_n 3, 1) := by decide +kernel
theorem dX4_readKnown_26 : decode cX4_readKnown 26 = .ok (.bipush 7, 2) := by decide +kernel
theorem dX4_readKnown_28 : decode cX4_readKnown 28 = .ok (.if_icmp .gt 78, 3) := by decide +kernel
theorem dX4_readKnown_31 : decode cX4_readKnown 31 = .ok (.aload_n 0, 1) := by decide +kernel
theorem dX4_readKnown_32 : decode cX4_readKnown 32 = .ok (.getfield 12, 3) := by decide +kernel
theorem dX4_readKnown_35 : decode cX4_readKnown 35 = .ok (.invokevirtual 155, 3) := by decide +kernel
theorem dX4_readKnown_38 : decode cX4_readKnown 38 = .ok (.ifCond .eq 68, 3) := by decide +kernel
theorem dX4_readKnown_41 : decode cX4_readKnown 41 = .ok (.aload_n 0, 1) := by decide +kernel
theorem dX4_readKnown_42 : decode cX4_readKnown 42 = .ok (.getfield 12, 3) := by decide +kernel
theorem dX4_readKnown_45 : decode cX4_readKnown 45 = .ok (.aload_n 0, 1) := by decide +kernel
theorem dX4_readKnown_46 : decode cX4_readKnown 46 = .ok (.getfield 18, 3) := by decide +kernel
theorem dX4_readKnown_49 : decode cX4_readKnown 49 = .ok (.aload_n 1, 1) := by decide +kernel
theorem dX4_readKnown_50 : decode cX4_readKnown 50 = .ok (.getfield 108, 3) := by decide +kernel
theorem dX4_readKnown_53 : decode cX4_readKnown 53 = .ok (.invokevirtual 98, 3) := by decide +kernel
theorem dX4_readKnown_56 : decode cX4_readKnown 56 = .ok (.istore 4, 2) := by decide +kernel
theorem dX4_readKnown_58 : decode cX4_readKnown 58 = .ok (.iload 4, 2) := by decide +kernel
theorem dX4_readKnown_60 : decode cX4_readKnown 60 = .ok (.iconst (-1), 1) := by decide +kernel
theorem dX4_readKnown_61 : decode cX4_readKnown 61 = .ok (.if_icmp .ne 5, 3) := by decide +kernel
theorem dX4_readKnown_64 : decode cX4_readKnown 64 = .ok (.iconst (-1), 1) := by decide +kernel
theorem dX4_readKnown_65 : decode cX4_readKnown 65 = .ok (.ireturn, 1) := by decide +kernel
theorem dX4_readKnown_66 : decode cX4_readKnown 66 = .ok (.iload_n 2, 1) := by decide +kernel
theorem dX4_readKnown_67 : decode cX4_readKnown 67 = .ok (.iload 4, 2) := by decide +kernel
theorem dX4_readKnown_69 : decode cX4_readKnown 69 = .ok (.invokestatic 158, 3) := by decide +kernel
theorem dX4_readKnown_72 : decode cX4_readKnown 72 = .ok (.ifCond .eq 14, 3) := by decide +kernel
theorem dX4_readKnown_75 : decode cX4_readKnown 75 = .ok (.aload_n 0, 1) := by decide +kernel
theorem dX4_readKnown_76 : decode cX4_readKnown 76 = .ok (.getfield 12, 3) := by decide +kernel
theorem dX4_readKnown_79 : decode cX4_readKnown 79 = .ok (.iconst 5, 1) := by decide +kernel
theorem dX4_readKnown_80 : decode cX4_readKnown 80 = .ok (.invokevirtual 59, 3) := by decide +kernel
theorem dX4_readKnown_83 : decode cX4_readKnown 83 = .ok (.pop, 1) := by decide +kernel
theorem dX4_readKnown_84 : decode cX4_readKnown 84 = .ok (.iconst (-1), 1) := by decide +kernel
theorem dX4_readKnown_85 : decode cX4_readKnown 85 = .ok (.ireturn, 1) := by decide +kernel
theorem dX4_readKnown_86 : decode cX4_readKnown 86 = .ok (.iload_n 2, 1) := by decide +kernel
theorem dX4_readKnown_87 : decode cX4_readKnown 87 = .ok (.iconst 1, 1) := by decide +kernel
theorem dX4_readKnown_88 : decode cX4_readKnown 88 = .ok (.iload 4, 2) := by decide +kernel
theorem dX4_readKnown_90 : decode cX4_readKnown 90 = .ok (.ishl, 1) := by decide +kernel
theorem dX4_readKnown_91 : decode cX4_readKnown 91 = .ok (.ior, 1) := by decide +kernel
theorem dX4_readKnown_92 : decode cX4_readKnown 92 = .ok (.istore_n 2, 1) := by decide +kernel
theorem dX4_readKnown_93 : decode cX4_readKnown 93 = .ok (.aload_n 0, 1) := by decide +kernel
theorem dX4_readKnown_94 : decode cX4_readKnown 94 = .ok (.getfield 12, 3) := by decide +kernel
theorem dX4_readKnown_97 : decode cX4_readKnown 97 = .ok (.invokevirtual 63, 3) := by decide +kernel
theorem dX4_readKnown_100 : decode cX4_readKnown 100 = .ok (.iinc 3 1, 3) := by decide +kernel
theorem dX4_readKnown_103 : decode cX4_readKnown 103 = .ok (.goto (-78), 3) := by decide +kernel
theorem dX4_readKnown_106 : decode cX4_readKnown 106 = .ok (.iload_n 2, 1) := by decide +kernel
theorem dX4_readKnown_107 : decode cX4_readKnown 107 = .ok (.ireturn, 1) := by decide +kernel
set_option maxRecDepth 100000 in
def f_X4_readKnown_106 (l2 : Int32) (μ : dtM) : Option (Int32 × dtM) :=
  some (l2, μ)
set_option maxRecDepth 100000 in
def f_X4_readKnown_25 : Nat → Nat → Nat → Int32 → Int32 → dtM → Option (Int32 × dtM)
  | 0, _, _, _, _, _ => none
  | n + 1, l0, l1, l2, l3, μ =>
    if (7 : Int32) < l3 then (f_X4_readKnown_106 l2 μ) else ((opGR 4 0 μ l0).bind fun x4 => (opRv 8 μ x4).bind fun _ => opCall (f_X8_isName x4 μ) fun x9 μ7 => if x9 = 0 then (f_X4_readKnown_106 l2 μ7) else ((opGR 4 0 μ7 l0).bind fun x13 => (opGR 4 1 μ7 l0).bind fun x15 => (opGI 3 2 μ7 l1).bind fun x17 => (opRv 8 μ7 x13).bind fun _ => opCall (f_X8_findAmong x13 x15 x17 μ7) fun x22 μ20 => if x22 = (-1 : Int32) then (some ((-1 : Int32), μ20)) else (opCall (f_X11_contains l2 x22 μ20) fun x28 μ26 => if x28 = 0 then ((some (l2 ||| ((1 : Int32) <<< (x22 &&& 31)))).bind fun x32 => (opGR 4 0 μ26 l0).bind fun x34 => (opRv 8 μ26 x34).bind fun _ => (f_X8_advance x34 μ26).bind fun μ37 => f_X4_readKnown_25 n l0 l1 x32 (l3 + 1) μ37) else ((opGR 4 0 μ26 l0).bind fun x39 => (opRv 8 μ26 x39).bind fun _ => opCall (f_X8_flaw x39 (5 : Int32) μ26) fun x44 μ42 => some ((-1 : Int32), μ42)))))
set_option maxRecDepth 100000 in
def f_X4_readKnown (p0 : Nat) (p1 : Nat) (μ : dtM) : Option (Int32 × dtM) :=
  (opGR 4 0 μ p0).bind fun x1 => (opGI 8 6 μ x1).bind fun x3 => if x3 = (14 : Int32) then ((opGR 4 0 μ p0).bind fun x8 => (opRv 8 μ x8).bind fun _ => (f_X8_advance x8 μ).bind fun μ11 => f_X4_readKnown_25 dtFuel p0 p1 (0 : Int32) (0 : Int32) μ11) else (some ((0 : Int32), μ))
set_option maxRecDepth 100000 in
theorem c_X4_readKnown_106 {r : Int32} {F : dtM} (l2 : Int32) (μ : dtM) (h : f_X4_readKnown_106 l2 μ = some (r, F)) : dtW yX4_readKnown cX4_readKnown 5 (some .int) 8 (some (.int r)) F 106 [none, none, some (.int l2)] [] μ := by
  rw [f_X4_readKnown_106] at h
  refine dr_iload_n l2 dX4_readKnown_106 rfl ?_
  cases h
  exact dr_ireturn dX4_readKnown_107 rfl
set_option maxRecDepth 100000 in
theorem c_X4_readKnown_25 {r : Int32} {F : dtM} : ∀ (n : Nat) (l0 : Nat) (l1 : Nat) (l2 : Int32) (l3 : Int32) (μ : dtM), f_X4_readKnown_25 n l0 l1 l2 l3 μ = some (r, F) → dtW yX4_readKnown cX4_readKnown 5 (some .int) 8 (some (.int r)) F 25 [some (.ref l0), some (.ref l1), some (.int l2), some (.int l3)] [] μ := by
  intro n
  induction n with
  | zero => intro l0 l1 l2 l3 μ h; cases h
  | succ n ih =>
    intro l0 l1 l2 l3 μ h
    have h := (show f_X4_readKnown_25 (n + 1) l0 l1 l2 l3 μ = some _ from h)
    rw [f_X4_readKnown_25] at h
    refine dr_iload_n l3 dX4_readKnown_25 rfl ?_
    refine dr_bipush (7 : Int32) dX4_readKnown_26 (by decide) ?_
    obtain ⟨ht2, hf3⟩ := dtIte h
    refine dr_icmp_gt 106 dX4_readKnown_28 (by decide) (fun hc1 => ?_) (fun hc1 => ?_)
    · have h := ht2 hc1
      refine dr_mask [false, false, true] [none, none, some (.int l2)] rfl ?_
      exact c_X4_readKnown_106 l2 μ h
    · have h := hf3 hc1
      refine dr_aload_n l0 dX4_readKnown_31 rfl ?_
      obtain ⟨x4, e5, h⟩ := dtBind h
      refine dr_getR x4 dX4_readKnown_32 fl_RX4_12 e5 ?_
      obtain ⟨_, hb6, h⟩ := dtBind h
      obtain ⟨x9, μ7, e8, h⟩ := dtCall h
      refine dr_callV_i (S0 := []) [] x9 μ7 dX4_readKnown_35 (c_X8_isName x4 μ e8) mf_X8_isName wt_655 wt_656 wt_654 rfl (dtRv hb6) (by decide) rfl (Nat.le_of_ble_eq_true rfl) (Nat.le_of_ble_eq_true rfl) rfl ?_
      obtain ⟨ht11, hf12⟩ := dtIte h
      refine dr_if_eq 106 dX4_readKnown_38 (by decide) (fun hc10 => ?_) (fun hc10 => ?_)
      · have h := ht11 hc10
        refine dr_mask [false, false, true] [none, none, some (.int l2)] rfl ?_
        exact c_X4_readKnown_106 l2 μ7 h
      · have h := hf12 hc10
        refine dr_aload_n l0 dX4_readKnown_41 rfl ?_
        obtain ⟨x13, e14, h⟩ := dtBind h
        refine dr_getR x13 dX4_readKnown_42 fl_RX4_12 e14 ?_
        refine dr_aload_n l0 dX4_readKnown_45 rfl ?_
        obtain ⟨x15, e16, h⟩ := dtBind h
        refine dr_getR x15 dX4_readKnown_46 fl_RX4_18 e16 ?_
        refine dr_aload_n l1 dX4_readKnown_49 rfl ?_
        obtain ⟨x17, e18, h⟩ := dtBind h
        refine dr_getI x17 dX4_readKnown_50 fl_RX4_108 e18 ?_
        obtain ⟨_, hb19, h⟩ := dtBind h
        obtain ⟨x22, μ20, e21, h⟩ := dtCall h
        refine dr_callV_i (S0 := []) [.ref x15, .int x17] x22 μ20 dX4_readKnown_53 (c_X8_findAmong x13 x15 x17 μ7 e21) mf_X8_findAmong wt_679 wt_680 wt_684 rfl (dtRv hb19) (by decide) rfl (Nat.le_of_ble_eq_true rfl) (Nat.le_of_ble_eq_true rfl) rfl ?_
        refine dr_istore [some (.ref l0), some (.ref l1), some (.int l2), some (.int l3), some (.int x22)] dX4_readKnown_56 rfl rfl rfl ?_
        refine dr_iload x22 dX4_readKnown_58 rfl ?_
        refine dr_iconst (-1 : Int32) dX4_readKnown_60 (by decide) ?_
        obtain ⟨ht24, hf25⟩ := dtIte h
        refine dr_icmp_ne 66 dX4_readKnown_61 (by decide) (fun hc23 => ?_) (fun hc23 => ?_)
        · have h := hf25 hc23
          refine dr_iload_n l2 dX4_readKnown_66 rfl ?_
          refine dr_iload x22 dX4_readKnown_67 rfl ?_
          obtain ⟨x28, μ26, e27, h⟩ := dtCall h
          refine dr_callSN_i (S0 := []) [.int l2, .int x22] x28 μ26 dX4_readKnown_69 (c_X11_contains l2 x22 μ20 e27) mf_X11_contains wt_748 wn_747 rfl (Nat.le_of_ble_eq_true rfl) (Nat.le_of_ble_eq_true rfl) rfl ?_
          obtain ⟨ht30, hf31⟩ := dtIte h
          refine dr_if_eq 86 dX4_readKnown_72 (by decide) (fun hc29 => ?_) (fun hc29 => ?_)
          · have h := ht30 hc29
            refine dr_iload_n l2 dX4_readKnown_86 rfl ?_
            refine dr_iconst (1 : Int32) dX4_readKnown_87 (by decide) ?_
            refine dr_iload x22 dX4_readKnown_88 rfl ?_
            refine dr_ishl dX4_readKnown_90 ?_
            refine dr_ior dX4_readKnown_91 ?_
            obtain ⟨x32, e33, h⟩ := dtBind h
            refine dr_nmi e33 ?_
            refine dr_istore_n 2 [some (.ref l0), some (.ref l1), some (.int x32), some (.int l3), some (.int x22)] dX4_readKnown_92 rfl rfl rfl rfl ?_
            refine dr_aload_n l0 dX4_readKnown_93 rfl ?_
            obtain ⟨x34, e35, h⟩ := dtBind h
            refine dr_getR x34 dX4_readKnown_94 fl_RX4_12 e35 ?_
            obtain ⟨_, hb36, h⟩ := dtBind h
            obtain ⟨μ37, e38, h⟩ := dtBind h
            refine dr_callV_v (S0 := []) [] μ37 dX4_readKnown_97 (c_X8_advance x34 μ26 e38) mf_X8_advance wt_551 wt_552 wt_632 rfl (dtRv hb36) (by decide) rfl (Nat.le_of_ble_eq_true rfl) (Nat.le_of_ble_eq_true rfl) rfl ?_
            refine dr_iinc l3 (l3 + 1) [some (.ref l0), some (.ref l1), some (.int x32), some (.int (l3 + 1)), some (.int x22)] dX4_readKnown_100 rfl rfl rfl rfl rfl ?_
            refine dr_goto 25 dX4_readKnown_103 (by decide) ?_
            refine dr_mask [true, true, true, true] [some (.ref l0), some (.ref l1), some (.int x32), some (.int (l3 + 1))] rfl ?_
            exact ih l0 l1 x32 (l3 + 1) μ37 h
          · have h := hf31 hc29
            refine dr_aload_n l0 dX4_readKnown_75 rfl ?_
            obtain ⟨x39, e40, h⟩ := dtBind h
            refine dr_getR x39 dX4_readKnown_76 fl_RX4_12 e40 ?_
            refine dr_iconst (5 : Int32) dX4_readKnown_79 (by decide) ?_
            obtain ⟨_, hb41, h⟩ := dtBind h
            obtain ⟨x44, μ42, e43, h⟩ := dtCall h
            refine dr_callV_i (S0 := []) [.int (5 : Int32)] x44 μ42 dX4_readKnown_80 (c_X8_flaw x39 (5 : Int32) μ26 e43) mf_X8_flaw wt_629 wt_630 wt_628 rfl (dtRv hb41) (by decide) rfl (Nat.le_of_ble_eq_true rfl) (Nat.le_of_ble_eq_true rfl) rfl ?_
            refine dr_pop dX4_readKnown_83 rfl ?_
            refine dr_iconst (-1 : Int32) dX4_readKnown_84 (by decide) ?_
            cases h
            exact dr_ireturn dX4_readKnown_85 rfl
        · have h := ht24 hc23
          refine dr_iconst (-1 : Int32) dX4_readKnown_64 (by decide) ?_
          cases h
          exact dr_ireturn dX4_readKnown_65 rfl
set_option maxRecDepth 100000 in
theorem c_X4_readKnown {r : Int32} {F : dtM} (p0 : Nat) (p1 : Nat) (μ : dtM) (h : f_X4_readKnown p0 p1 μ = some (r, F)) : dtMet yX4_readKnown cX4_readKnown 5 (some .int) 8 [.ref p0, .ref p1] μ (some (.int r)) F := by
  refine dtMet.of (by decide +kernel) (Nat.le_of_ble_eq_true rfl) (show dtW yX4_readKnown cX4_readKnown 5 (some .int) 8 (some (.int r)) F 0 [some (.ref p0), some (.ref p1)] [] μ from ?_)
  rw [f_X4_readKnown] at h
  refine dr_aload_n p0 dX4_readKnown_0 rfl ?_
  obtain ⟨x1, e2, h⟩ := dtBind h
  refine dr_getR x1 dX4_readKnown_1 fl_RX4_12 e2 ?_
  obtain ⟨x3, e4, h⟩ := dtBind h
  refine dr_getI x3 dX4_readKnown_4 fl_RX4_39 e4 ?_
  refine dr_bipush (14 : Int32) dX4_readKnown_7 (by decide) ?_
  obtain ⟨ht6, hf7⟩ := dtIte h
  refine dr_icmp_eq 14 dX4_readKnown_9 (by decide) (fun hc5 => ?_) (fun hc5 => ?_)
  · have h := ht6 hc5
    refine dr_aload_n p0 dX4_readKnown_14 rfl ?_
    obtain ⟨x8, e9, h⟩ := dtBind h
    refine dr_getR x8 dX4_readKnown_15 fl_RX4_12 e9 ?_
    obtain ⟨_, hb10, h⟩ := dtBind h
    obtain ⟨μ11, e12, h⟩ := dtBind h
    refine dr_callV_v (S0 := []) [] μ11 dX4_readKnown_18 (c_X8_advance x8 μ e12) mf_X8_advance wt_551 wt_552 wt_632 rfl (dtRv hb10) (by decide) rfl (Nat.le_of_ble_eq_true rfl) (Nat.le_of_ble_eq_true rfl) rfl ?_
    refine dr_iconst (0 : Int32) dX4_readKnown_21 (by decide) ?_
    refine dr_istore_n 2 [some (.ref p0), some (.ref p1), some (.int (0 : Int32))] dX4_readKnown_22 rfl rfl rfl rfl ?_
    refine dr_iconst (0 : Int32) dX4_readKnown_23 (by decide) ?_
    refine dr_istore_n 3 [some (.ref p0), some (.ref p1), some (.int (0 : Int32)), some (.int (0 : Int32))] dX4_readKnown_24 rfl rfl rfl rfl ?_
    exact c_X4_readKnown_25 dtFuel p0 p1 (0 : Int32) (0 : Int32) μ11 h
  · have h := hf7 hc5
    refine dr_iconst (0 : Int32) dX4_readKnown_12 (by decide) ?_
    cases h
    exact dr_ireturn dX4_readKnown_13 rfl
/-! X8_passKeyword -/
theorem dX8_passKeyword_0 : decode cX8_passKeyword 0 = .ok (.aload_n 0, 1) := by decide +kernel
theorem dX8_passKeyword_1 : decode cX8_passKeyword 1 = .ok (.getfield 46, 3) := by decide +kernel
theorem dX8_passKeyword_4 : decode cX8_passKeyword 4 = .ok (.iload_n 1, 1) := by decide +kernel
theorem dX8_passKeyword_5 : decode cX8_passKeyword 5 = .ok (.if_icmp .eq 9, 3) := by decide +kernel
theorem dX8_passKeyword_8 : decode cX8_passKeyword 8 = .ok (.aload_n 0, 1) := by decide +kernel
theorem dX8_passKeyword_9 : decode cX8_passKeyword 9 = .ok (.iconst 2, 1) := by decide +kernel
theorem dX8_passKeyword_10 : decode cX8_passKeyword 10 = .ok (.invokevirtual 84, 3) := by decide +kernel
theorem dX8_passKeyword_13 : decode cX8_passKeyword 13 = .ok (.ireturn, 1) := by decide +kernel
theorem dX8_passKeyword_14 : decode cX8_passKeyword 14 = .ok (.aload_n 0, 1) := by decide +kernel
theorem dX8_passKeyword_15 : decode cX8_passKeyword 15 = .ok (.invokevirtual 34, 3) := by decide +kernel
theorem dX8_passKeyword_18 : decode cX8_passKeyword 18 = .ok (.iconst 1, 1) := by decide +kernel
theorem dX8_passKeyword_19 : decode cX8_passKeyword 19 = .ok (.ireturn, 1) := by decide +kernel
set_option maxRecDepth 100000 in
def f_X8_passKeyword (p0 : Nat) (p1 : Int32) (μ : dtM) : Option (Int32 × dtM) :=
  (opGI 8 6 μ p0).bind fun x1 => if x1 = p1 then ((opRv 8 μ p0).bind fun _ => (f_X8_advance p0 μ).bind fun μ7 => opRet (1 : Int32) μ7) else ((opRv 8 μ p0).bind fun _ => opCall (f_X8_flaw p0 (2 : Int32) μ) fun x12 μ10 => opRet x12 μ10)
set_option maxRecDepth 100000 in
theorem c_X8_passKeyword {r : Int32} {F : dtM} (p0 : Nat) (p1 : Int32) (μ : dtM) (h : f_X8_passKeyword p0 p1 μ = some (r, F)) : dtMet yX8_passKeyword cX8_passKeyword 2 (some .boolean) 8 [.ref p0, .int p1] μ (some (.int r)) F := by
  refine dtMet.of (by decide +kernel) (Nat.le_of_ble_eq_true rfl) (show dtW yX8_passKeyword cX8_passKeyword 2 (some .boolean) 8 (some (.int r)) F 0 [some (.ref p0), some (.int p1)] [] μ from ?_)
  rw [f_X8_passKeyword] at h
  refine dr_aload_n p0 dX8_passKeyword_0 rfl ?_
  obtain ⟨x1, e2, h⟩ := dtBind h
  refine dr_getI x1 dX8_passKeyword_1 fl_RX8_46 e2 ?_
  refine dr_iload_n p1 dX8_passKeyword_4 rfl ?_
  obtain ⟨ht4, hf5⟩ := dtIte h
  refine dr_icmp_eq 14 dX8_passKeyword_5 (by decide) (fun hc3 => ?_) (fun hc3 => ?_)
  · have h := ht4 hc3
    refine dr_aload_n p0 dX8_passKeyword_14 rfl ?_
    obtain ⟨_, hb6, h⟩ := dtBind h
    obtain ⟨μ7, e8, h⟩ := dtBind h
    refine dr_callV_v (S0 := []) [] μ7 dX8_passKeyword_15 (c_X8_advance p0 μ e8) mf_X8_advance wt_551 wt_552 wt_550 rfl (dtRv hb6) (by decide) rfl (Nat.le_of_ble_eq_true rfl) (Nat.le_of_ble_eq_true rfl) rfl ?_
    refine dr_iconst (1 : Int32) dX8_passKeyword_18 (by decide) ?_
    obtain ⟨hz, rfl, rfl⟩ := dtRet h
    exact dr_ireturn dX8_passKeyword_19 (dtNz hz)
  · have h := hf5 hc3
    refine dr_aload_n p0 dX8_passKeyword_8 rfl ?_
    refine dr_iconst (2 : Int32) dX8_passKeyword_9 (by decide) ?_
    obtain ⟨_, hb9, h⟩ := dtBind h
    obtain ⟨x12, μ10, e11, h⟩ := dtCall h
    refine dr_callV_i (S0 := []) [.int (2 : Int32)] x12 μ10 dX8_passKeyword_10 (c_X8_flaw p0 (2 : Int32) μ e11) mf_X8_flaw wt_629 wt_630 wt_637 rfl (dtRv hb9) (by decide) rfl (Nat.le_of_ble_eq_true rfl) (Nat.le_of_ble_eq_true rfl) rfl ?_
    obtain ⟨hz, rfl, rfl⟩ := dtRet h
    exact dr_ireturn dX8_passKeyword_13 (dtNz hz)
/-! X4_readPerson -/
theorem dX4_readPerson_0 : decode cX4_readPerson 0 = .ok (.aload_n 1, 1) := by decide +kernel
theorem dX4_readPerson_1 : decode cX4_readPerson 1 = .ok (.getfield 137, 3) := by decide +kernel
theorem dX4_readPerson_4 : decode cX4_readPerson 4 = .ok (.iconst 5, 1) := by decide +kernel
theorem dX4_readPerson_5 : decode cX4_readPerson 5 = .ok (.if_icmp .lt 13, 3) := by decide +kernel
theorem dX4_readPerson_8 : decode cX4_readPerson 8 = .ok (.aload_n 0, 1) := by decide +kernel
theorem dX4_readPerson_9 : decode cX4_readPerson 9 = .ok (.getfield 12, 3) := by decide +kernel
theorem dX4_readPerson_12 : decode cX4_readPerson 12 = .ok (.bipush 6, 2) := by decide +kernel
theorem dX4_readPerson_14 : decode cX4_readPerson 14 = .ok (.invokevirtual 59, 3) := by decide +kernel
theorem dX4_readPerson_17 : decode cX4_readPerson 17 = .ok (.ireturn, 1) := by decide +kernel
theorem dX4_readPerson_18 : decode cX4_readPerson 18 = .ok (.aload_n 0, 1) := by decide +kernel
theorem dX4_readPerson_19 : decode cX4_readPerson 19 = .ok (.getfield 12, 3) := by decide +kernel
theorem dX4_readPerson_22 : decode cX4_readPerson 22 = .ok (.invokevirtual 63, 3) := by decide +kernel
theorem dX4_readPerson_25 : decode cX4_readPerson 25 = .ok (.aload_n 0, 1) := by decide +kernel
theorem dX4_readPerson_26 : decode cX4_readPerson 26 = .ok (.aload_n 1, 1) := by decide +kernel
theorem dX4_readPerson_27 : decode cX4_readPerson 27 = .ok (.invokevirtual 80, 3) := by decide +kernel
theorem dX4_readPerson_30 : decode cX4_readPerson 30 = .ok (.lstore_n 2, 1) := by decide +kernel
theorem dX4_readPerson_31 : decode cX4_readPerson 31 = .ok (.lload_n 2, 1) := by decide +kernel
theorem dX4_readPerson_32 : decode cX4_readPerson 32 = .ok (.lconst 0, 1) := by decide +kernel
theorem dX4_readPerson_33 : decode cX4_readPerson 33 = .ok (.lcmp, 1) := by decide +kernel
theorem dX4_readPerson_34 : decode cX4_readPerson 34 = .ok (.ifCond .eq 15, 3) := by decide +kernel
theorem dX4_readPerson_37 : decode cX4_readPerson 37 = .ok (.aload_n 0, 1) := by decide +kernel
theorem dX4_readPerson_38 : decode cX4_readPerson 38 = .ok (.getfield 12, 3) := by decide +kernel
theorem dX4_readPerson_41 : decode cX4_readPerson 41 = .ok (.bipush 12, 2) := by decide +kernel
theorem dX4_readPerson_43 : decode cX4_readPerson 43 = .ok (.invokevirtual 111, 3) := by decide +kernel
theorem dX4_readPerson_46 : decode cX4_readPerson 46 = .ok (.ifCond .ne 5, 3) := by decide +kernel
theorem dX4_readPerson_49 : decode cX4_readPerson 49 = .ok (.iconst 0, 1) := by decide +kernel
theorem dX4_readPerson_50 : decode cX4_readPerson 50 = .ok (.ireturn, 1) := by decide +kernel
theorem dX4_readPerson_51 : decode cX4_readPerson 51 = .ok (.aload_n 0, 1) := by decide +kernel
theorem dX4_readPerson_52 : decode cX4_readPerson 52 = .ok (.getfield 12, 3) := by decide +kernel
theorem dX4_readPerson_55 : decode cX4_readPerson 55 = .ok (.aload_n 1, 1) := by decide +kernel
theorem dX4_readPerson_56 : decode cX4_readPerson 56 = .ok (.getfield 91, 3) := by decide +kernel
theorem dX4_readPerson_59 : decode cX4_readPerson 59 = .ok (.aload_n 1, 1) := by decide +kernel
theorem dX4_readPerson_60 : decode cX4_readPerson 60 = .ok (.getfield 77, 3) := by decide +kernel
theorem dX4_readPerson_63 : decode cX4_readPerson 63 = .ok (.invokevirtual 94, 3) := by decide +kernel
theorem dX4_readPerson_66 : decode cX4_readPerson 66 = .ok (.istore 4, 2) := by decide +kernel
theorem dX4_readPerson_68 : decode cX4_readPerson 68 = .ok (.iload 4, 2) := by decide +kernel
theorem dX4_readPerson_70 : decode cX4_readPerson 70 = .ok (.iconst (-1), 1) := by decide +kernel
theorem dX4_readPerson_71 : decode cX4_readPerson 71 = .ok (.if_icmp .ne 5, 3) := by decide +kernel
theorem dX4_readPerson_74 : decode cX4_readPerson 74 = .ok (.iconst 0, 1) := by decide +kernel
theorem dX4_readPerson_75 : decode cX4_readPerson 75 = .ok (.ireturn, 1) := by decide +kernel
theorem dX4_readPerson_76 : decode cX4_readPerson 76 = .ok (.aload_n 0, 1) := by decide +kernel
theorem dX4_readPerson_77 : decode cX4_readPerson 77 = .ok (.bipush 13, 2) := by decide +kernel
theorem dX4_readPerson_79 : decode cX4_readPerson 79 = .ok (.bipush 9, 2) := by decide +kernel
theorem dX4_readPerson_81 : decode cX4_readPerson 81 = .ok (.invokevirtual 101, 3) := by decide +kernel
theorem dX4_readPerson_84 : decode cX4_readPerson 84 = .ok (.istore 5, 2) := by decide +kernel
theorem dX4_readPerson_86 : decode cX4_readPerson 86 = .ok (.iload 5, 2) := by decide +kernel
theorem dX4_readPerson_88 : decode cX4_readPerson 88 = .ok (.iconst (-1), 1) := by decide +kernel
theorem dX4_readPerson_89 : decode cX4_readPerson 89 = .ok (.if_icmp .ne 5, 3) := by decide +kernel
theorem dX4_readPerson_92 : decode cX4_readPerson 92 = .ok (.iconst 0, 1) := by decide +kernel
theorem dX4_readPerson_93 : decode cX4_readPerson 93 = .ok (.ireturn, 1) := by decide +kernel
theorem dX4_readPerson_94 : decode cX4_readPerson 94 = .ok (.aload_n 0, 1) := by decide +kernel
theorem dX4_readPerson_95 : decode cX4_readPerson 95 = .ok (.aload_n 1, 1) := by decide +kernel
theorem dX4_readPerson_96 : decode cX4_readPerson 96 = .ok (.invokevirtual 140, 3) := by decide +kernel
theorem dX4_readPerson_99 : decode cX4_readPerson 99 = .ok (.istore 6, 2) := by decide +kernel
theorem dX4_readPerson_101 : decode cX4_readPerson 101 = .ok (.iload 6, 2) := by decide +kernel
theorem dX4_readPerson_103 : decode cX4_readPerson 103 = .ok (.iconst (-1), 1) := by decide +kernel
theorem dX4_readPerson_104 : decode cX4_readPerson 104 = .ok (.if_icmp .ne 5, 3) := by decide +kernel
theorem dX4_readPerson_107 : decode cX4_readPerson 107 = .ok (.iconst 0, 1) := by decide +kernel
theorem dX4_readPerson_108 : decode cX4_readPerson 108 = .ok (.ireturn, 1) := by decide +kernel
theorem dX4_readPerson_109 : decode cX4_readPerson 109 = .ok (.aload_n 1, 1) := by decide +kernel
theorem dX4_readPerson_110 : decode cX4_readPerson 110 = .ok (.lload_n 2, 1) := by decide +kernel
theorem dX4_readPerson_111 : decode cX4_readPerson 111 = .ok (.iload 4, 2) := by decide +kernel
theorem dX4_readPerson_113 : decode cX4_readPerson 113 = .ok (.invokevirtual 144, 3) := by decide +kernel
theorem dX4_readPerson_116 : decode cX4_readPerson 116 = .ok (.aload_n 1, 1) := by decide +kernel
theorem dX4_readPerson_117 : decode cX4_readPerson 117 = .ok (.getfield 148, 3) := by decide +kernel
theorem dX4_readPerson_120 : decode cX4_readPerson 120 = .ok (.aload_n 1, 1) := by decide +kernel
theorem dX4_readPerson_121 : decode cX4_readPerson 121 = .ok (.getfield 137, 3) := by decide +kernel
theorem dX4_readPerson_124 : decode cX4_readPerson 124 = .ok (.iconst 1, 1) := by decide +kernel
theorem dX4_readPerson_125 : decode cX4_readPerson 125 = .ok (.isub, 1) := by decide +kernel
theorem dX4_readPerson_126 : decode cX4_readPerson 126 = .ok (.iload 5, 2) := by decide +kernel
theorem dX4_readPerson_128 : decode cX4_readPerson 128 = .ok (.iastore, 1) := by decide +kernel
theorem dX4_readPerson_129 : decode cX4_readPerson 129 = .ok (.aload_n 1, 1) := by decide +kernel
theorem dX4_readPerson_130 : decode cX4_readPerson 130 = .ok (.getfield 152, 3) := by decide +kernel
theorem dX4_readPerson_133 : decode cX4_readPerson 133 = .ok (.aload_n 1, 1) := by decide +kernel
theorem dX4_readPerson_134 : decode cX4_readPerson 134 = .ok (.getfield 137, 3) := by decide +kernel
theorem dX4_readPerson_137 : decode cX4_readPerson 137 = .ok (.iconst 1, 1) := by decide +kernel
theorem dX4_readPerson_138 : decode cX4_readPerson 138 = .ok (.isub, 1) := by decide +kernel
theorem dX4_readPerson_139 : decode cX4_readPerson 139 = .ok (.iload 6, 2) := by decide +kernel
theorem dX4_readPerson_141 : decode cX4_readPerson 141 = .ok (.iastore, 1) := by decide +kernel
theorem dX4_readPerson_142 : decode cX4_readPerson 142 = .ok (.aload_n 0, 1) := by decide +kernel
theorem dX4_readPerson_143 : decode cX4_readPerson 143 = .ok (.getfield 12, 3) := by decide +kernel
theorem dX4_readPerson_146 : decode cX4_readPerson 146 = .ok (.bipush 59, 2) := by decide +kernel
theorem dX4_readPerson_148 : decode cX4_readPerson 148 = .ok (.invokevirtual 73, 3) := by decide +kernel
theorem dX4_readPerson_151 : decode cX4_readPerson 151 = .ok (.ireturn, 1) := by decide +kernel
set_option maxRecDepth 100000 in
def f_X4_readPerson_49  (μ : dtM) : Option (Int32 × dtM) :=
  opRet (0 : Int32) μ
set_option maxRecDepth 100000 in
def f_X4_readPerson (p0 : Nat) (p1 : Nat) (μ : dtM) : Option (Int32 × dtM) :=
  (opGI 3 3 μ p1).bind fun x1 => if x1 < (5 : Int32) then ((opGR 4 0 μ p0).bind fun x6 => (opRv 8 μ x6).bind fun _ => (f_X8_advance x6 μ).bind fun μ9 => (opRv 4 μ9 p0).bind fun _ => opCall (f_X4_passNewName p0 p1 μ9) fun x14 μ12 => if (lg_cmp x14 (0 : Int64)) = 0 then (f_X4_readPerson_49 μ12) else ((opGR 4 0 μ12 p0).bind fun x18 => (opRv 8 μ12 x18).bind fun _ => opCall (f_X8_passKeyword x18 (12 : Int32) μ12) fun x23 μ21 => if x23 = 0 then (f_X4_readPerson_49 μ21) else ((opGR 4 0 μ21 p0).bind fun x27 => (opGR 3 7 μ21 p1).bind fun x29 => (opGI 3 0 μ21 p1).bind fun x31 => (opRv 8 μ21 x27).bind fun _ => opCall (f_X8_passAmong x27 x29 x31 μ21) fun x36 μ34 => if x36 = (-1 : Int32) then (opRet (0 : Int32) μ34) else ((opRv 4 μ34 p0).bind fun _ => opCall (f_X4_readChoice p0 (13 : Int32) (9 : Int32) μ34) fun x43 μ41 => if x43 = (-1 : Int32) then (opRet (0 : Int32) μ41) else ((opRv 4 μ41 p0).bind fun _ => opCall (f_X4_readKnown p0 p1 μ41) fun x50 μ48 => if x50 = (-1 : Int32) then (opRet (0 : Int32) μ48) else ((opRv 3 μ48 p1).bind fun _ => (f_X3_addPerson p1 x14 x36 μ48).bind fun μ55 => (opGR 3 15 μ55 p1).bind fun x57 => (opGI 3 3 μ55 p1).bind fun x59 => (opSI μ55 x57 (x59 - (1 : Int32)) x43).bind fun μ61 => (opGR 3 16 μ61 p1).bind fun x63 => (opGI 3 3 μ61 p1).bind fun x65 => (opSI μ61 x63 (x65 - (1 : Int32)) x50).bind fun μ67 => (opGR 4 0 μ67 p0).bind fun x69 => (opRv 8 μ67 x69).bind fun _ => opCall (f_X8_passSign x69 (59 : Int32) μ67) fun x74 μ72 => opRet x74 μ72)))))) else ((opGR 4 0 μ p0).bind fun x75 => (opRv 8 μ x75).bind fun _ => opCall (f_X8_flaw x75 (6 : Int32) μ) fun x80 μ78 => opRet x80 μ78)
set_option maxRecDepth 100000 in
theorem c_X4_readPerson_49 {r : Int32} {F : dtM}  (μ : dtM) (h : f_X4_readPerson_49  μ = some (r, F)) : dtW yX4_readPerson cX4_readPerson 7 (some .boolean) 10 (some (.int r)) F 49 [] [] μ := by
  rw [f_X4_readPerson_49] at h
  refine dr_iconst (0 : Int32) dX4_readPerson_49 (by decide) ?_
  obtain ⟨hz, rfl, rfl⟩ := dtRet h
  exact dr_ireturn dX4_readPerson_50 (dtNz hz)
set_option maxRecDepth 100000 in
theorem c_X4_readPerson {r : Int32} {F : dtM} (p0 : Nat) (p1 : Nat) (μ : dtM) (h : f_X4_readPerson p0 p1 μ = some (r, F)) : dtMet yX4_readPerson cX4_readPerson 7 (some .boolean) 10 [.ref p0, .ref p1] μ (some (.int r)) F := by
  refine dtMet.of (by decide +kernel) (Nat.le_of_ble_eq_true rfl) (show dtW yX4_readPerson cX4_readPerson 7 (some .boolean) 10 (some (.int r)) F 0 [some (.ref p0), some (.ref p1)] [] μ from ?_)
  rw [f_X4_readPerson] at h
  refine dr_aload_n p1 dX4_readPerson_0 rfl ?_
  obtain ⟨x1, e2, h⟩ := dtBind h
  refine dr_getI x1 dX4_readPerson_1 fl_RX4_137 e2 ?_
  refine dr_iconst (5 : Int32) dX4_readPerson_4 (by decide) ?_
  obtain ⟨ht4, hf5⟩ := dtIte h
  refine dr_icmp_lt 18 dX4_readPerson_5 (by decide) (fun hc3 => ?_) (fun hc3 => ?_)
  · have h := ht4 hc3
    refine dr_aload_n p0 dX4_readPerson_18 rfl ?_
    obtain ⟨x6, e7, h⟩ := dtBind h
    refine dr_getR x6 dX4_readPerson_19 fl_RX4_12 e7 ?_
    obtain ⟨_, hb8, h⟩ := dtBind h
    obtain ⟨μ9, e10, h⟩ := dtBind h
    refine dr_callV_v (S0 := []) [] μ9 dX4_readPerson_22 (c_X8_advance x6 μ e10) mf_X8_advance wt_551 wt_552 wt_632 rfl (dtRv hb8) (by decide) rfl (Nat.le_of_ble_eq_true rfl) (Nat.le_of_ble_eq_true rfl) rfl ?_
    refine dr_aload_n p0 dX4_readPerson_25 rfl ?_
    refine dr_aload_n p1 dX4_readPerson_26 rfl ?_
    obtain ⟨_, hb11, h⟩ := dtBind h
    obtain ⟨x14, μ12, e13, h⟩ := dtCall h
    refine dr_callV_l (S0 := []) [.ref p1] x14 μ12 dX4_readPerson_27 (c_X4_passNewName p0 p1 μ9 e13) mf_X4_passNewName wt_652 ws_10 wt_650 rfl (dtRv hb11) (by decide) rfl (Nat.le_of_ble_eq_true rfl) (Nat.le_of_ble_eq_true rfl) rfl ?_
    refine dr_lstore_n 2 [some (.ref p0), some (.ref p1), some (.long x14), none] dX4_readPerson_30 rfl rfl rfl rfl ?_
    refine dr_lload_n x14 dX4_readPerson_31 rfl ?_
    refine dr_lconst (0 : Int64) dX4_readPerson_32 (by decide) ?_
    refine dr_lcmp dX4_readPerson_33 ?_
    obtain ⟨ht16, hf17⟩ := dtIte h
    refine dr_if_eq 49 dX4_readPerson_34 (by decide) (fun hc15 => ?_) (fun hc15 => ?_)
    · have h := ht16 hc15
      refine dr_mask [] [] rfl ?_
      exact c_X4_readPerson_49 μ12 h
    · have h := hf17 hc15
      refine dr_aload_n p0 dX4_readPerson_37 rfl ?_
      obtain ⟨x18, e19, h⟩ := dtBind h
      refine dr_getR x18 dX4_readPerson_38 fl_RX4_12 e19 ?_
      refine dr_bipush (12 : Int32) dX4_readPerson_41 (by decide) ?_
      obtain ⟨_, hb20, h⟩ := dtBind h
      obtain ⟨x23, μ21, e22, h⟩ := dtCall h
      refine dr_callV_i (S0 := []) [.int (12 : Int32)] x23 μ21 dX4_readPerson_43 (c_X8_passKeyword x18 (12 : Int32) μ12 e22) mf_X8_passKeyword wt_702 wt_703 wt_701 rfl (dtRv hb20) (by decide) rfl (Nat.le_of_ble_eq_true rfl) (Nat.le_of_ble_eq_true rfl) rfl ?_
      obtain ⟨ht25, hf26⟩ := dtIte h
      refine dr_if_ne 51 dX4_readPerson_46 (by decide) (fun hc24 => ?_) (fun hc24 => ?_)
      · have h := hf26 hc24
        refine dr_aload_n p0 dX4_readPerson_51 rfl ?_
        obtain ⟨x27, e28, h⟩ := dtBind h
        refine dr_getR x27 dX4_readPerson_52 fl_RX4_12 e28 ?_
        refine dr_aload_n p1 dX4_readPerson_55 rfl ?_
        obtain ⟨x29, e30, h⟩ := dtBind h
        refine dr_getR x29 dX4_readPerson_56 fl_RX4_91 e30 ?_
        refine dr_aload_n p1 dX4_readPerson_59 rfl ?_
        obtain ⟨x31, e32, h⟩ := dtBind h
        refine dr_getI x31 dX4_readPerson_60 fl_RX4_77 e32 ?_
        obtain ⟨_, hb33, h⟩ := dtBind h
        obtain ⟨x36, μ34, e35, h⟩ := dtCall h
        refine dr_callV_i (S0 := []) [.ref x29, .int x31] x36 μ34 dX4_readPerson_63 (c_X8_passAmong x27 x29 x31 μ21 e35) mf_X8_passAmong wt_675 wt_676 wt_674 rfl (dtRv hb33) (by decide) rfl (Nat.le_of_ble_eq_true rfl) (Nat.le_of_ble_eq_true rfl) rfl ?_
        refine dr_istore [some (.ref p0), some (.ref p1), some (.long x14), none, some (.int x36)] dX4_readPerson_66 rfl rfl rfl ?_
        refine dr_iload x36 dX4_readPerson_68 rfl ?_
        refine dr_iconst (-1 : Int32) dX4_readPerson_70 (by decide) ?_
        obtain ⟨ht38, hf39⟩ := dtIte h
        refine dr_icmp_ne 76 dX4_readPerson_71 (by decide) (fun hc37 => ?_) (fun hc37 => ?_)
        · have h := hf39 hc37
          refine dr_aload_n p0 dX4_readPerson_76 rfl ?_
          refine dr_bipush (13 : Int32) dX4_readPerson_77 (by decide) ?_
          refine dr_bipush (9 : Int32) dX4_readPerson_79 (by decide) ?_
          obtain ⟨_, hb40, h⟩ := dtBind h
          obtain ⟨x43, μ41, e42, h⟩ := dtCall h
          refine dr_callV_i (S0 := []) [.int (13 : Int32), .int (9 : Int32)] x43 μ41 dX4_readPerson_81 (c_X4_readChoice p0 (13 : Int32) (9 : Int32) μ34 e42) mf_X4_readChoice wt_687 ws_13 wt_685 rfl (dtRv hb40) (by decide) rfl (Nat.le_of_ble_eq_true rfl) (Nat.le_of_ble_eq_true rfl) rfl ?_
          refine dr_istore [some (.ref p0), some (.ref p1), some (.long x14), none, some (.int x36), some (.int x43)] dX4_readPerson_84 rfl rfl rfl ?_
          refine dr_iload x43 dX4_readPerson_86 rfl ?_
          refine dr_iconst (-1 : Int32) dX4_readPerson_88 (by decide) ?_
          obtain ⟨ht45, hf46⟩ := dtIte h
          refine dr_icmp_ne 94 dX4_readPerson_89 (by decide) (fun hc44 => ?_) (fun hc44 => ?_)
          · have h := hf46 hc44
            refine dr_aload_n p0 dX4_readPerson_94 rfl ?_
            refine dr_aload_n p1 dX4_readPerson_95 rfl ?_
            obtain ⟨_, hb47, h⟩ := dtBind h
            obtain ⟨x50, μ48, e49, h⟩ := dtCall h
            refine dr_callV_i (S0 := []) [.ref p1] x50 μ48 dX4_readPerson_96 (c_X4_readKnown p0 p1 μ41 e49) mf_X4_readKnown wt_745 ws_18 wt_743 rfl (dtRv hb47) (by decide) rfl (Nat.le_of_ble_eq_true rfl) (Nat.le_of_ble_eq_true rfl) rfl ?_
            refine dr_istore [some (.ref p0), some (.ref p1), some (.long x14), none, some (.int x36), some (.int x43), some (.int x50)] dX4_readPerson_99 rfl rfl rfl ?_
            refine dr_iload x50 dX4_readPerson_101 rfl ?_
            refine dr_iconst (-1 : Int32) dX4_readPerson_103 (by decide) ?_
            obtain ⟨ht52, hf53⟩ := dtIte h
            refine dr_icmp_ne 109 dX4_readPerson_104 (by decide) (fun hc51 => ?_) (fun hc51 => ?_)
            · have h := hf53 hc51
              refine dr_aload_n p1 dX4_readPerson_109 rfl ?_
              refine dr_lload_n x14 dX4_readPerson_110 rfl ?_
              refine dr_iload x36 dX4_readPerson_111 rfl ?_
              obtain ⟨_, hb54, h⟩ := dtBind h
              obtain ⟨μ55, e56, h⟩ := dtBind h
              refine dr_callV_v (S0 := []) [.long x14, .int x36] μ55 dX4_readPerson_113 (c_X3_addPerson p1 x14 x36 μ48 e56) mf_X3_addPerson wt_751 wt_752 wt_750 rfl (dtRv hb54) (by decide) rfl (Nat.le_of_ble_eq_true rfl) (Nat.le_of_ble_eq_true rfl) rfl ?_
              refine dr_aload_n p1 dX4_readPerson_116 rfl ?_
              obtain ⟨x57, e58, h⟩ := dtBind h
              refine dr_getR x57 dX4_readPerson_117 fl_RX4_148 e58 ?_
              refine dr_aload_n p1 dX4_readPerson_120 rfl ?_
              obtain ⟨x59, e60, h⟩ := dtBind h
              refine dr_getI x59 dX4_readPerson_121 fl_RX4_137 e60 ?_
              refine dr_iconst (1 : Int32) dX4_readPerson_124 (by decide) ?_
              refine dr_isub dX4_readPerson_125 ?_
              refine dr_iload x43 dX4_readPerson_126 rfl ?_
              obtain ⟨μ61, e62, h⟩ := dtBind h
              refine dr_iastore μ61 dX4_readPerson_128 e62 ?_
              refine dr_aload_n p1 dX4_readPerson_129 rfl ?_
              obtain ⟨x63, e64, h⟩ := dtBind h
              refine dr_getR x63 dX4_readPerson_130 fl_RX4_152 e64 ?_
              refine dr_aload_n p1 dX4_readPerson_133 rfl ?_
              obtain ⟨x65, e66, h⟩ := dtBind h
              refine dr_getI x65 dX4_readPerson_134 fl_RX4_137 e66 ?_
              refine dr_iconst (1 : Int32) dX4_readPerson_137 (by decide) ?_
              refine dr_isub dX4_readPerson_138 ?_
              refine dr_iload x50 dX4_readPerson_139 rfl ?_
              obtain ⟨μ67, e68, h⟩ := dtBind h
              refine dr_iastore μ67 dX4_readPerson_141 e68 ?_
              refine dr_aload_n p0 dX4_readPerson_142 rfl ?_
              obtain ⟨x69, e70, h⟩ := dtBind h
              refine dr_getR x69 dX4_readPerson_143 fl_RX4_12 e70 ?_
              refine dr_bipush (59 : Int32) dX4_readPerson_146 (by decide) ?_
              obtain ⟨_, hb71, h⟩ := dtBind h
              obtain ⟨x74, μ72, e73, h⟩ := dtCall h
              refine dr_callV_i (S0 := []) [.int (59 : Int32)] x74 μ72 dX4_readPerson_148 (c_X8_passSign x69 (59 : Int32) μ67 e73) mf_X8_passSign wt_639 wt_640 wt_638 rfl (dtRv hb71) (by decide) rfl (Nat.le_of_ble_eq_true rfl) (Nat.le_of_ble_eq_true rfl) rfl ?_
              obtain ⟨hz, rfl, rfl⟩ := dtRet h
              exact dr_ireturn dX4_readPerson_151 (dtNz hz)
            · have h := ht52 hc51
              refine dr_iconst (0 : Int32) dX4_readPerson_107 (by decide) ?_
              obtain ⟨hz, rfl, rfl⟩ := dtRet h
              exact dr_ireturn dX4_readPerson_108 (dtNz hz)
          · have h := ht45 hc44
            refine dr_iconst (0 : Int32) dX4_readPerson_92 (by decide) ?_
            obtain ⟨hz, rfl, rfl⟩ := dtRet h
            exact dr_ireturn dX4_readPerson_93 (dtNz hz)
        · have h := ht38 hc37
          refine dr_iconst (0 : Int32) dX4_readPerson_74 (by decide) ?_
          obtain ⟨hz, rfl, rfl⟩ := dtRet h
          exact dr_ireturn dX4_readPerson_75 (dtNz hz)
      · have h := ht25 hc24
        refine dr_mask [] [] rfl ?_
        exact c_X4_readPerson_49 μ21 h
  · have h := hf5 hc3
    refine dr_aload_n p0 dX4_readPerson_8 rfl ?_
    obtain ⟨x75, e76, h⟩ := dtBind h
    refine dr_getR x75 dX4_readPerson_9 fl_RX4_12 e76 ?_
    refine dr_bipush (6 : Int32) dX4_readPerson_12 (by decide) ?_
    obtain ⟨_, hb77, h⟩ := dtBind h
    obtain ⟨x80, μ78, e79, h⟩ := dtCall h
    refine dr_callV_i (S0 := []) [.int (6 : Int32)] x80 μ78 dX4_readPerson_14 (c_X8_flaw x75 (6 : Int32) μ e79) mf_X8_flaw wt_629 wt_630 wt_628 rfl (dtRv hb77) (by decide) rfl (Nat.le_of_ble_eq_true rfl) (Nat.le_of_ble_eq_true rfl) rfl ?_
    obtain ⟨hz, rfl, rfl⟩ := dtRet h
    exact dr_ireturn dX4_readPerson_17 (dtNz hz)
/-! X4_readRoom -/
theorem dX4_readRoom_0 : decode cX4_readRoom 0 = .ok (.aload_n 1, 1) := by decide +kernel
theorem dX4_readRoom_1 : decode cX4_readRoom 1 = .ok (.getfield 77, 3) := by decide +kernel
theorem dX4_readRoom_4 : decode cX4_readRoom 4 = .ok (.bipush 7, 2) := by decide +kernel
theorem dX4_readRoom_6 : decode cX4_readRoom 6 = .ok (.if_icmp .lt 13, 3) := by decide +kernel
theorem dX4_readRoom_9 : decode cX4_readRoom 9 = .ok (.aload_n 0, 1) := by decide +kernel
theorem dX4_readRoom_10 : decode cX4_readRoom 10 = .ok (.getfield 12, 3) := by decide +kernel
theorem dX4_readRoom_13 : decode cX4_readRoom 13 = .ok (.bipush 6, 2) := by decide +kernel
theorem dX4_readRoom_15 : decode cX4_readRoom 15 = .ok (.invokevirtual 59, 3) := by decide +kernel
theorem dX4_readRoom_18 : decode cX4_readRoom 18 = .ok (.ireturn, 1) := by decide +kernel
theorem dX4_readRoom_19 : decode cX4_readRoom 19 = .ok (.aload_n 0, 1) := by decide +kernel
theorem dX4_readRoom_20 : decode cX4_readRoom 20 = .ok (.getfield 12, 3) := by decide +kernel
theorem dX4_readRoom_23 : decode cX4_readRoom 23 = .ok (.invokevirtual 63, 3) := by decide +kernel
theorem dX4_readRoom_26 : decode cX4_readRoom 26 = .ok (.aload_n 0, 1) := by decide +kernel
theorem dX4_readRoom_27 : decode cX4_readRoom 27 = .ok (.aload_n 1, 1) := by decide +kernel
theorem dX4_readRoom_28 : decode cX4_readRoom 28 = .ok (.invokevirtual 80, 3) := by decide +kernel
theorem dX4_readRoom_31 : decode cX4_readRoom 31 = .ok (.lstore_n 2, 1) := by decide +kernel
theorem dX4_readRoom_32 : decode cX4_readRoom 32 = .ok (.lload_n 2, 1) := by decide +kernel
theorem dX4_readRoom_33 : decode cX4_readRoom 33 = .ok (.lconst 0, 1) := by decide +kernel
theorem dX4_readRoom_34 : decode cX4_readRoom 34 = .ok (.lcmp, 1) := by decide +kernel
theorem dX4_readRoom_35 : decode cX4_readRoom 35 = .ok (.ifCond .ne 5, 3) := by decide +kernel
theorem dX4_readRoom_38 : decode cX4_readRoom 38 = .ok (.iconst 0, 1) := by decide +kernel
theorem dX4_readRoom_39 : decode cX4_readRoom 39 = .ok (.ireturn, 1) := by decide +kernel
theorem dX4_readRoom_40 : decode cX4_readRoom 40 = .ok (.aload_n 1, 1) := by decide +kernel
theorem dX4_readRoom_41 : decode cX4_readRoom 41 = .ok (.lload_n 2, 1) := by decide +kernel
theorem dX4_readRoom_42 : decode cX4_readRoom 42 = .ok (.invokevirtual 84, 3) := by decide +kernel
theorem dX4_readRoom_45 : decode cX4_readRoom 45 = .ok (.aload_n 0, 1) := by decide +kernel
theorem dX4_readRoom_46 : decode cX4_readRoom 46 = .ok (.getfield 12, 3) := by decide +kernel
theorem dX4_readRoom_49 : decode cX4_readRoom 49 = .ok (.bipush 59, 2) := by decide +kernel
theorem dX4_readRoom_51 : decode cX4_readRoom 51 = .ok (.invokevirtual 73, 3) := by decide +kernel
theorem dX4_readRoom_54 : decode cX4_readRoom 54 = .ok (.ireturn, 1) := by decide +kernel
set_option maxRecDepth 100000 in
def f_X4_readRoom (p0 : Nat) (p1 : Nat) (μ : dtM) : Option (Int32 × dtM) :=
  (opGI 3 0 μ p1).bind fun x1 => if x1 < (7 : Int32) then ((opGR 4 0 μ p0).bind fun x6 => (opRv 8 μ x6).bind fun _ => (f_X8_advance x6 μ).bind fun μ9 => (opRv 4 μ9 p0).bind fun _ => opCall (f_X4_passNewName p0 p1 μ9) fun x14 μ12 => if (lg_cmp x14 (0 : Int64)) = 0 then (opRet (0 : Int32) μ12) else ((opRv 3 μ12 p1).bind fun _ => (f_X3_addRoom p1 x14 μ12).bind fun μ19 => (opGR 4 0 μ19 p0).bind fun x21 => (opRv 8 μ19 x21).bind fun _ => opCall (f_X8_passSign x21 (59 : Int32) μ19) fun x26 μ24 => opRet x26 μ24)) else ((opGR 4 0 μ p0).bind fun x27 => (opRv 8 μ x27).bind fun _ => opCall (f_X8_flaw x27 (6 : Int32) μ) fun x32 μ30 => opRet x32 μ30)
set_option maxRecDepth 100000 in
theorem c_X4_readRoom {r : Int32} {F : dtM} (p0 : Nat) (p1 : Nat) (μ : dtM) (h : f_X4_readRoom p0 p1 μ = some (r, F)) : dtMet yX4_readRoom cX4_readRoom 4 (some .boolean) 9 [.ref p0, .ref p1] μ (some (.int r)) F := by
  refine dtMet.of (by decide +kernel) (Nat.le_of_ble_eq_true rfl) (show dtW yX4_readRoom cX4_readRoom 4 (some .boolean) 9 (some (.int r)) F 0 [some (.ref p0), some (.ref p1)] [] μ from ?_)
  rw [f_X4_readRoom] at h
  refine dr_aload_n p1 dX4_readRoom_0 rfl ?_
  obtain ⟨x1, e2, h⟩ := dtBind h
  refine dr_getI x1 dX4_readRoom_1 fl_RX4_77 e2 ?_
  refine dr_bipush (7 : Int32) dX4_readRoom_4 (by decide) ?_
  obtain ⟨ht4, hf5⟩ := dtIte h
  refine dr_icmp_lt 19 dX4_readRoom_6 (by decide) (fun hc3 => ?_) (fun hc3 => ?_)
  · have h := ht4 hc3
    refine dr_aload_n p0 dX4_readRoom_19 rfl ?_
    obtain ⟨x6, e7, h⟩ := dtBind h
    refine dr_getR x6 dX4_readRoom_20 fl_RX4_12 e7 ?_
    obtain ⟨_, hb8, h⟩ := dtBind h
    obtain ⟨μ9, e10, h⟩ := dtBind h
    refine dr_callV_v (S0 := []) [] μ9 dX4_readRoom_23 (c_X8_advance x6 μ e10) mf_X8_advance wt_551 wt_552 wt_632 rfl (dtRv hb8) (by decide) rfl (Nat.le_of_ble_eq_true rfl) (Nat.le_of_ble_eq_true rfl) rfl ?_
    refine dr_aload_n p0 dX4_readRoom_26 rfl ?_
    refine dr_aload_n p1 dX4_readRoom_27 rfl ?_
    obtain ⟨_, hb11, h⟩ := dtBind h
    obtain ⟨x14, μ12, e13, h⟩ := dtCall h
    refine dr_callV_l (S0 := []) [.ref p1] x14 μ12 dX4_readRoom_28 (c_X4_passNewName p0 p1 μ9 e13) mf_X4_passNewName wt_652 ws_10 wt_650 rfl (dtRv hb11) (by decide) rfl (Nat.le_of_ble_eq_true rfl) (Nat.le_of_ble_eq_true rfl) rfl ?_
    refine dr_lstore_n 2 [some (.ref p0), some (.ref p1), some (.long x14), none] dX4_readRoom_31 rfl rfl rfl rfl ?_
    refine dr_lload_n x14 dX4_readRoom_32 rfl ?_
    refine dr_lconst (0 : Int64) dX4_readRoom_33 (by decide) ?_
    refine dr_lcmp dX4_readRoom_34 ?_
    obtain ⟨ht16, hf17⟩ := dtIte h
    refine dr_if_ne 40 dX4_readRoom_35 (by decide) (fun hc15 => ?_) (fun hc15 => ?_)
    · have h := hf17 hc15
      refine dr_aload_n p1 dX4_readRoom_40 rfl ?_
      refine dr_lload_n x14 dX4_readRoom_41 rfl ?_
      obtain ⟨_, hb18, h⟩ := dtBind h
      obtain ⟨μ19, e20, h⟩ := dtBind h
      refine dr_callV_v (S0 := []) [.long x14] μ19 dX4_readRoom_42 (c_X3_addRoom p1 x14 μ12 e20) mf_X3_addRoom wt_667 wt_668 wt_666 rfl (dtRv hb18) (by decide) rfl (Nat.le_of_ble_eq_true rfl) (Nat.le_of_ble_eq_true rfl) rfl ?_
      refine dr_aload_n p0 dX4_readRoom_45 rfl ?_
      obtain ⟨x21, e22, h⟩ := dtBind h
      refine dr_getR x21 dX4_readRoom_46 fl_RX4_12 e22 ?_
      refine dr_bipush (59 : Int32) dX4_readRoom_49 (by decide) ?_
      obtain ⟨_, hb23, h⟩ := dtBind h
      obtain ⟨x26, μ24, e25, h⟩ := dtCall h
      refine dr_callV_i (S0 := []) [.int (59 : Int32)] x26 μ24 dX4_readRoom_51 (c_X8_passSign x21 (59 : Int32) μ19 e25) mf_X8_passSign wt_639 wt_640 wt_638 rfl (dtRv hb23) (by decide) rfl (Nat.le_of_ble_eq_true rfl) (Nat.le_of_ble_eq_true rfl) rfl ?_
      obtain ⟨hz, rfl, rfl⟩ := dtRet h
      exact dr_ireturn dX4_readRoom_54 (dtNz hz)
    · have h := ht16 hc15
      refine dr_iconst (0 : Int32) dX4_readRoom_38 (by decide) ?_
      obtain ⟨hz, rfl, rfl⟩ := dtRet h
      exact dr_ireturn dX4_readRoom_39 (dtNz hz)
  · have h := hf5 hc3
    refine dr_aload_n p0 dX4_readRoom_9 rfl ?_
    obtain ⟨x27, e28, h⟩ := dtBind h
    refine dr_getR x27 dX4_readRoom_10 fl_RX4_12 e28 ?_
    refine dr_bipush (6 : Int32) dX4_readRoom_13 (by decide) ?_
    obtain ⟨_, hb29, h⟩ := dtBind h
    obtain ⟨x32, μ30, e31, h⟩ := dtCall h
    refine dr_callV_i (S0 := []) [.int (6 : Int32)] x32 μ30 dX4_readRoom_15 (c_X8_flaw x27 (6 : Int32) μ e31) mf_X8_flaw wt_629 wt_630 wt_628 rfl (dtRv hb29) (by decide) rfl (Nat.le_of_ble_eq_true rfl) (Nat.le_of_ble_eq_true rfl) rfl ?_
    obtain ⟨hz, rfl, rfl⟩ := dtRet h
    exact dr_ireturn dX4_readRoom_18 (dtNz hz)
/-! X4_readSounds -/
theorem dX4_readSounds_0 : decode cX4_readSounds 0 = .ok (.aload_n 1, 1) := by decide +kernel
theorem dX4_readSounds_1 : decode cX4_readSounds 1 = .ok (.invokevirtual 123, 3) := by decide +kernel
theorem dX4_readSounds_4 : decode cX4_readSounds 4 = .ok (.iconst 0, 1) := by decide +kernel
theorem dX4_readSounds_5 : decode cX4_readSounds 5 = .ok (.istore_n 2, 1) := by decide +kernel
theorem dX4_readSounds_6 : decode cX4_readSounds 6 = .ok (.iload_n 2, 1) := by decide +kernel
theorem dX4_readSounds_7 : decode cX4_readSounds 7 = .ok (.iconst 4, 1) := by decide +kernel
theorem dX4_readSounds_8 : decode cX4_readSounds 8 = .ok (.if_icmp .ge 43, 3) := by decide +kernel
theorem dX4_readSounds_11 : decode cX4_readSounds 11 = .ok (.iload_n 2, 1) := by decide +kernel
theorem dX4_readSounds_12 : decode cX4_readSounds 12 = .ok (.ifCond .eq 13, 3) := by decide +kernel
theorem dX4_readSounds_15 : decode cX4_readSounds 15 = .ok (.aload_n 0, 1) := by decide +kernel
theorem dX4_readSounds_16 : decode cX4_readSounds 16 = .ok (.getfield 12, 3) := by decide +kernel
theorem dX4_readSounds_19 : decode cX4_readSounds 19 = .ok (.invokevirtual 126, 3) := by decide +kernel
theorem dX4_readSounds_22 : decode cX4_readSounds 22 = .ok (.ifCond .eq 29, 3) := by decide +kernel
theorem dX4_readSounds_25 : decode cX4_readSounds 25 = .ok (.aload_n 0, 1) := by decide +kernel
theorem dX4_readSounds_26 : decode cX4_readSounds 26 = .ok (.getfield 12, 3) := by decide +kernel
theorem dX4_readSounds_29 : decode cX4_readSounds 29 = .ok (.invokevirtual 129, 3) := by decide +kernel
theorem dX4_readSounds_32 : decode cX4_readSounds 32 = .ok (.istore_n 3, 1) := by decide +kernel
theorem dX4_readSounds_33 : decode cX4_readSounds 33 = .ok (.iload_n 3, 1) := by decide +kernel
theorem dX4_readSounds_34 : decode cX4_readSounds 34 = .ok (.iconst (-1), 1) := by decide +kernel
theorem dX4_readSounds_35 : decode cX4_readSounds 35 = .ok (.if_icmp .ne 5, 3) := by decide +kernel
theorem dX4_readSounds_38 : decode cX4_readSounds 38 = .ok (.iconst 0, 1) := by decide +kernel
theorem dX4_readSounds_39 : decode cX4_readSounds 39 = .ok (.ireturn, 1) := by decide +kernel
theorem dX4_readSounds_40 : decode cX4_readSounds 40 = .ok (.aload_n 1, 1) := by decide +kernel
theorem dX4_readSounds_41 : decode cX4_readSounds 41 = .ok (.iload_n 3, 1) := by decide +kernel
theorem dX4_readSounds_42 : decode cX4_readSounds 42 = .ok (.invokevirtual 133, 3) := by decide +kernel
theorem dX4_readSounds_45 : decode cX4_readSounds 45 = .ok (.iinc 2 1, 3) := by decide +kernel
theorem dX4_readSounds_48 : decode cX4_readSounds 48 = .ok (.goto (-42), 3) := by decide +kernel
theorem dX4_readSounds_51 : decode cX4_readSounds 51 = .ok (.aload_n 0, 1) := by decide +kernel
theorem dX4_readSounds_52 : decode cX4_readSounds 52 = .ok (.getfield 12, 3) := by decide +kernel
theorem dX4_readSounds_55 : decode cX4_readSounds 55 = .ok (.invokevirtual 126, 3) := by decide +kernel
theorem dX4_readSounds_58 : decode cX4_readSounds 58 = .ok (.ifCond .eq 14, 3) := by decide +kernel
theorem dX4_readSounds_61 : decode cX4_readSounds 61 = .ok (.aload_n 0, 1) := by decide +kernel
theorem dX4_readSounds_62 : decode cX4_readSounds 62 = .ok (.getfield 12, 3) := by decide +kernel
theorem dX4_readSounds_65 : decode cX4_readSounds 65 = .ok (.iconst 5, 1) := by decide +kernel
theorem dX4_readSounds_66 : decode cX4_readSounds 66 = .ok (.invokevirtual 59, 3) := by decide +kernel
theorem dX4_readSounds_69 : decode cX4_readSounds 69 = .ok (.ifCond .eq 7, 3) := by decide +kernel
theorem dX4_readSounds_72 : decode cX4_readSounds 72 = .ok (.iconst 1, 1) := by decide +kernel
theorem dX4_readSounds_73 : decode cX4_readSounds 73 = .ok (.goto 4, 3) := by decide +kernel
theorem dX4_readSounds_76 : decode cX4_readSounds 76 = .ok (.iconst 0, 1) := by decide +kernel
theorem dX4_readSounds_77 : decode cX4_readSounds 77 = .ok (.ireturn, 1) := by decide +kernel
set_option maxRecDepth 100000 in
def f_X4_readSounds_77 (s0 : Int32) (μ : dtM) : Option (Int32 × dtM) :=
  opRet s0 μ
set_option maxRecDepth 100000 in
def f_X4_readSounds_72  (μ : dtM) : Option (Int32 × dtM) :=
  f_X4_readSounds_77 (1 : Int32) μ
set_option maxRecDepth 100000 in
def f_X4_readSounds_51 (l0 : Nat) (μ : dtM) : Option (Int32 × dtM) :=
  (opGR 4 0 μ l0).bind fun x1 => (opRv 8 μ x1).bind fun _ => opCall (f_X8_isSoundWord x1 μ) fun x6 μ4 => if x6 = 0 then (f_X4_readSounds_72 μ4) else ((opGR 4 0 μ4 l0).bind fun x10 => (opRv 8 μ4 x10).bind fun _ => opCall (f_X8_flaw x10 (5 : Int32) μ4) fun x15 μ13 => if x15 = 0 then (f_X4_readSounds_77 (0 : Int32) μ13) else (f_X4_readSounds_72 μ13))
set_option maxRecDepth 100000 in
def f_X4_readSounds_25 (k6 : Nat → Nat → Int32 → dtM → Option (Int32 × dtM)) (l0 : Nat) (l1 : Nat) (l2 : Int32) (μ : dtM) : Option (Int32 × dtM) :=
  (opGR 4 0 μ l0).bind fun x1 => (opRv 8 μ x1).bind fun _ => opCall (f_X8_passSound x1 μ) fun x6 μ4 => if x6 = (-1 : Int32) then (opRet (0 : Int32) μ4) else ((opRv 3 μ4 l1).bind fun _ => (f_X3_addSound l1 x6 μ4).bind fun μ11 => k6 l0 l1 (l2 + 1) μ11)
set_option maxRecDepth 100000 in
def f_X4_readSounds_6 : Nat → Nat → Nat → Int32 → dtM → Option (Int32 × dtM)
  | 0, _, _, _, _ => none
  | n + 1, l0, l1, l2, μ =>
    if (4 : Int32) ≤ l2 then (f_X4_readSounds_51 l0 μ) else (if l2 = 0 then (f_X4_readSounds_25 (f_X4_readSounds_6 n) l0 l1 l2 μ) else ((opGR 4 0 μ l0).bind fun x7 => (opRv 8 μ x7).bind fun _ => opCall (f_X8_isSoundWord x7 μ) fun x12 μ10 => if x12 = 0 then (f_X4_readSounds_51 l0 μ10) else (f_X4_readSounds_25 (f_X4_readSounds_6 n) l0 l1 l2 μ10)))
set_option maxRecDepth 100000 in
def f_X4_readSounds (p0 : Nat) (p1 : Nat) (μ : dtM) : Option (Int32 × dtM) :=
  (opRv 3 μ p1).bind fun _ => (f_X3_beginWord p1 μ).bind fun μ2 => f_X4_readSounds_6 dtFuel p0 p1 (0 : Int32) μ2
set_option maxRecDepth 100000 in
theorem c_X4_readSounds_77 {r : Int32} {F : dtM} (s0 : Int32) (μ : dtM) (h : f_X4_readSounds_77 s0 μ = some (r, F)) : dtW yX4_readSounds cX4_readSounds 4 (some .boolean) 9 (some (.int r)) F 77 [] [.int s0] μ := by
  rw [f_X4_readSounds_77] at h
  obtain ⟨hz, rfl, rfl⟩ := dtRet h
  exact dr_ireturn dX4_readSounds_77 (dtNz hz)
set_option maxRecDepth 100000 in
theorem c_X4_readSounds_72 {r : Int32} {F : dtM}  (μ : dtM) (h : f_X4_readSounds_72  μ = some (r, F)) : dtW yX4_readSounds cX4_readSounds 4 (some .boolean) 9 (some (.int r)) F 72 [] [] μ := by
  rw [f_X4_readSounds_72] at h
  refine dr_iconst (1 : Int32) dX4_readSounds_72 (by decide) ?_
  refine dr_goto 77 dX4_readSounds_73 (by decide) ?_
  exact c_X4_readSounds_77 (1 : Int32) μ h
set_option maxRecDepth 100000 in
theorem c_X4_readSounds_51 {r : Int32} {F : dtM} (l0 : Nat) (μ : dtM) (h : f_X4_readSounds_51 l0 μ = some (r, F)) : dtW yX4_readSounds cX4_readSounds 4 (some .boolean) 9 (some (.int r)) F 51 [some (.ref l0)] [] μ := by
  rw [f_X4_readSounds_51] at h
  refine dr_aload_n l0 dX4_readSounds_51 rfl ?_
  obtain ⟨x1, e2, h⟩ := dtBind h
  refine dr_getR x1 dX4_readSounds_52 fl_RX4_12 e2 ?_
  obtain ⟨_, hb3, h⟩ := dtBind h
  obtain ⟨x6, μ4, e5, h⟩ := dtCall h
  refine dr_callV_i (S0 := []) [] x6 μ4 dX4_readSounds_55 (c_X8_isSoundWord x1 μ e5) mf_X8_isSoundWord wt_714 wt_715 wt_713 rfl (dtRv hb3) (by decide) rfl (Nat.le_of_ble_eq_true rfl) (Nat.le_of_ble_eq_true rfl) rfl ?_
  obtain ⟨ht8, hf9⟩ := dtIte h
  refine dr_if_eq 72 dX4_readSounds_58 (by decide) (fun hc7 => ?_) (fun hc7 => ?_)
  · have h := ht8 hc7
    refine dr_mask [] [] rfl ?_
    exact c_X4_readSounds_72 μ4 h
  · have h := hf9 hc7
    refine dr_aload_n l0 dX4_readSounds_61 rfl ?_
    obtain ⟨x10, e11, h⟩ := dtBind h
    refine dr_getR x10 dX4_readSounds_62 fl_RX4_12 e11 ?_
    refine dr_iconst (5 : Int32) dX4_readSounds_65 (by decide) ?_
    obtain ⟨_, hb12, h⟩ := dtBind h
    obtain ⟨x15, μ13, e14, h⟩ := dtCall h
    refine dr_callV_i (S0 := []) [.int (5 : Int32)] x15 μ13 dX4_readSounds_66 (c_X8_flaw x10 (5 : Int32) μ4 e14) mf_X8_flaw wt_629 wt_630 wt_628 rfl (dtRv hb12) (by decide) rfl (Nat.le_of_ble_eq_true rfl) (Nat.le_of_ble_eq_true rfl) rfl ?_
    obtain ⟨ht17, hf18⟩ := dtIte h
    refine dr_if_eq 76 dX4_readSounds_69 (by decide) (fun hc16 => ?_) (fun hc16 => ?_)
    · have h := ht17 hc16
      refine dr_iconst (0 : Int32) dX4_readSounds_76 (by decide) ?_
      refine dr_mask [] [] rfl ?_
      exact c_X4_readSounds_77 (0 : Int32) μ13 h
    · have h := hf18 hc16
      refine dr_mask [] [] rfl ?_
      exact c_X4_readSounds_72 μ13 h
set_option maxRecDepth 100000 in
theorem c_X4_readSounds_25 {r : Int32} {F : dtM} (k6 : Nat → Nat → Int32 → dtM → Option (Int32 × dtM)) (hk6 : ∀ (l0 : Nat) (l1 : Nat) (l2 : Int32) (μ : dtM), k6 l0 l1 l2 μ = some (r, F) → dtW yX4_readSounds cX4_readSounds 4 (some .boolean) 9 (some (.int r)) F 6 [some (.ref l0), some (.ref l1), some (.int l2)] [] μ) (l0 : Nat) (l1 : Nat) (l2 : Int32) (μ : dtM) (h : f_X4_readSounds_25 k6 l0 l1 l2 μ = some (r, F)) : dtW yX4_readSounds cX4_readSounds 4 (some .boolean) 9 (some (.int r)) F 25 [some (.ref l0), some (.ref l1), some (.int l2)] [] μ := by
  rw [f_X4_readSounds_25] at h
  refine dr_aload_n l0 dX4_readSounds_25 rfl ?_
  obtain ⟨x1, e2, h⟩ := dtBind h
  refine dr_getR x1 dX4_readSounds_26 fl_RX4_12 e2 ?_
  obtain ⟨_, hb3, h⟩ := dtBind h
  obtain ⟨x6, μ4, e5, h⟩ := dtCall h
  refine dr_callV_i (S0 := []) [] x6 μ4 dX4_readSounds_29 (c_X8_passSound x1 μ e5) mf_X8_passSound wt_718 wt_719 wt_717 rfl (dtRv hb3) (by decide) rfl (Nat.le_of_ble_eq_true rfl) (Nat.le_of_ble_eq_true rfl) rfl ?_
  refine dr_istore_n 3 [some (.ref l0), some (.ref l1), some (.int l2), some (.int x6)] dX4_readSounds_32 rfl rfl rfl rfl ?_
  refine dr_iload_n x6 dX4_readSounds_33 rfl ?_
  refine dr_iconst (-1 : Int32) dX4_readSounds_34 (by decide) ?_
  obtain ⟨ht8, hf9⟩ := dtIte h
  refine dr_icmp_ne 40 dX4_readSounds_35 (by decide) (fun hc7 => ?_) (fun hc7 => ?_)
  · have h := hf9 hc7
    refine dr_aload_n l1 dX4_readSounds_40 rfl ?_
    refine dr_iload_n x6 dX4_readSounds_41 rfl ?_
    obtain ⟨_, hb10, h⟩ := dtBind h
    obtain ⟨μ11, e12, h⟩ := dtBind h
    refine dr_callV_v (S0 := []) [.int x6] μ11 dX4_readSounds_42 (c_X3_addSound l1 x6 μ4 e12) mf_X3_addSound wt_723 wt_724 wt_722 rfl (dtRv hb10) (by decide) rfl (Nat.le_of_ble_eq_true rfl) (Nat.le_of_ble_eq_true rfl) rfl ?_
    refine dr_iinc l2 (l2 + 1) [some (.ref l0), some (.ref l1), some (.int (l2 + 1)), some (.int x6)] dX4_readSounds_45 rfl rfl rfl rfl rfl ?_
    refine dr_goto 6 dX4_readSounds_48 (by decide) ?_
    refine dr_mask [true, true, true] [some (.ref l0), some (.ref l1), some (.int (l2 + 1))] rfl ?_
    exact hk6 l0 l1 (l2 + 1) μ11 h
  · have h := ht8 hc7
    refine dr_iconst (0 : Int32) dX4_readSounds_38 (by decide) ?_
    obtain ⟨hz, rfl, rfl⟩ := dtRet h
    exact dr_ireturn dX4_readSounds_39 (dtNz hz)
set_option maxRecDepth 100000 in
theorem c_X4_readSounds_6 {r : Int32} {F : dtM} : ∀ (n : Nat) (l0 : Nat) (l1 : Nat) (l2 : Int32) (μ : dtM), f_X4_readSounds_6 n l0 l1 l2 μ = some (r, F) → dtW yX4_readSounds cX4_readSounds 4 (some .boolean) 9 (some (.int r)) F 6 [some (.ref l0), some (.ref l1), some (.int l2)] [] μ := by
  intro n
  induction n with
  | zero => intro l0 l1 l2 μ h; cases h
  | succ n ih =>
    intro l0 l1 l2 μ h
    have h := (show f_X4_readSounds_6 (n + 1) l0 l1 l2 μ = some _ from h)
    rw [f_X4_readSounds_6] at h
    refine dr_iload_n l2 dX4_readSounds_6 rfl ?_
    refine dr_iconst (4 : Int32) dX4_readSounds_7 (by decide) ?_
    obtain ⟨ht2, hf3⟩ := dtIte h
    refine dr_icmp_ge 51 dX4_readSounds_8 (by decide) (fun hc1 => ?_) (fun hc1 => ?_)
    · have h := ht2 hc1
      refine dr_mask [true] [some (.ref l0)] rfl ?_
      exact c_X4_readSounds_51 l0 μ h
    · have h := hf3 hc1
      refine dr_iload_n l2 dX4_readSounds_11 rfl ?_
      obtain ⟨ht5, hf6⟩ := dtIte h
      refine dr_if_eq 25 dX4_readSounds_12 (by decide) (fun hc4 => ?_) (fun hc4 => ?_)
      · have h := ht5 hc4
        exact c_X4_readSounds_25 (f_X4_readSounds_6 n) ih l0 l1 l2 μ h
      · have h := hf6 hc4
        refine dr_aload_n l0 dX4_readSounds_15 rfl ?_
        obtain ⟨x7, e8, h⟩ := dtBind h
        refine dr_getR x7 dX4_readSounds_16 fl_RX4_12 e8 ?_
        obtain ⟨_, hb9, h⟩ := dtBind h
        obtain ⟨x12, μ10, e11, h⟩ := dtCall h
        refine dr_callV_i (S0 := []) [] x12 μ10 dX4_readSounds_19 (c_X8_isSoundWord x7 μ e11) mf_X8_isSoundWord wt_714 wt_715 wt_713 rfl (dtRv hb9) (by decide) rfl (Nat.le_of_ble_eq_true rfl) (Nat.le_of_ble_eq_true rfl) rfl ?_
        obtain ⟨ht14, hf15⟩ := dtIte h
        refine dr_if_eq 51 dX4_readSounds_22 (by decide) (fun hc13 => ?_) (fun hc13 => ?_)
        · have h := ht14 hc13
          refine dr_mask [true] [some (.ref l0)] rfl ?_
          exact c_X4_readSounds_51 l0 μ10 h
        · have h := hf15 hc13
          exact c_X4_readSounds_25 (f_X4_readSounds_6 n) ih l0 l1 l2 μ10 h
set_option maxRecDepth 100000 in
theorem c_X4_readSounds {r : Int32} {F : dtM} (p0 : Nat) (p1 : Nat) (μ : dtM) (h : f_X4_readSounds p0 p1 μ = some (r, F)) : dtMet yX4_readSounds cX4_readSounds 4 (some .boolean) 9 [.ref p0, .ref p1] μ (some (.int r)) F := by
  refine dtMet.of (by decide +kernel) (Nat.le_of_ble_eq_true rfl) (show dtW yX4_readSounds cX4_readSounds 4 (some .boolean) 9 (some (.int r)) F 0 [some (.ref p0), some (.ref p1)] [] μ from ?_)
  rw [f_X4_readSounds] at h
  refine dr_aload_n p1 dX4_readSounds_0 rfl ?_
  obtain ⟨_, hb1, h⟩ := dtBind h
  obtain ⟨μ2, e3, h⟩ := dtBind h
  refine dr_callV_v (S0 := []) [] μ2 dX4_readSounds_1 (c_X3_beginWord p1 μ e3) mf_X3_beginWord wt_710 wt_711 wt_709 rfl (dtRv hb1) (by decide) rfl (Nat.le_of_ble_eq_true rfl) (Nat.le_of_ble_eq_true rfl) rfl ?_
  refine dr_iconst (0 : Int32) dX4_readSounds_4 (by decide) ?_
  refine dr_istore_n 2 [some (.ref p0), some (.ref p1), some (.int (0 : Int32))] dX4_readSounds_5 rfl rfl rfl rfl ?_
  exact c_X4_readSounds_6 dtFuel p0 p1 (0 : Int32) μ2 h
/-! X4_readWord -/
theorem dX4_readWord_0 : decode cX4_readWord 0 = .ok (.aload_n 1, 1) := by decide +kernel
theorem dX4_readWord_1 : decode cX4_readWord 1 = .ok (.getfield 108, 3) := by decide +kernel
theorem dX4_readWord_4 : decode cX4_readWord 4 = .ok (.bipush 7, 2) := by decide +kernel
theorem dX4_readWord_6 : decode cX4_readWord 6 = .ok (.if_icmp .lt 13, 3) := by decide +kernel
theorem dX4_readWord_9 : decode cX4_readWord 9 = .ok (.aload_n 0, 1) := by decide +kernel
theorem dX4_readWord_10 : decode cX4_readWord 10 = .ok (.getfield 12, 3) := by decide +kernel
theorem dX4_readWord_13 : decode cX4_readWord 13 = .ok (.bipush 6, 2) := by decide +kernel
theorem dX4_readWord_15 : decode cX4_readWord 15 = .ok (.invokevirtual 59, 3) := by decide +kernel
theorem dX4_readWord_18 : decode cX4_readWord 18 = .ok (.ireturn, 1) := by decide +kernel
theorem dX4_readWord_19 : decode cX4_readWord 19 = .ok (.aload_n 0, 1) := by decide +kernel
theorem dX4_readWord_20 : decode cX4_readWord 20 = .ok (.getfield 12, 3) := by decide +kernel
theorem dX4_readWord_23 : decode cX4_readWord 23 = .ok (.invokevirtual 63, 3) := by decide +kernel
theorem dX4_readWord_26 : decode cX4_readWord 26 = .ok (.aload_n 0, 1) := by decide +kernel
theorem dX4_readWord_27 : decode cX4_readWord 27 = .ok (.aload_n 1, 1) := by decide +kernel
theorem dX4_readWord_28 : decode cX4_readWord 28 = .ok (.invokevirtual 80, 3) := by decide +kernel
theorem dX4_readWord_31 : decode cX4_readWord 31 = .ok (.lstore_n 2, 1) := by decide +kernel
theorem dX4_readWord_32 : decode cX4_readWord 32 = .ok (.lload_n 2, 1) := by decide +kernel
theorem dX4_readWord_33 : decode cX4_readWord 33 = .ok (.lconst 0, 1) := by decide +kernel
theorem dX4_readWord_34 : decode cX4_readWord 34 = .ok (.lcmp, 1) := by decide +kernel
theorem dX4_readWord_35 : decode cX4_readWord 35 = .ok (.ifCond .eq 23, 3) := by decide +kernel
theorem dX4_readWord_38 : decode cX4_readWord 38 = .ok (.aload_n 0, 1) := by decide +kernel
theorem dX4_readWord_39 : decode cX4_readWord 39 = .ok (.getfield 12, 3) := by decide +kernel
theorem dX4_readWord_42 : decode cX4_readWord 42 = .ok (.bipush 6, 2) := by decide +kernel
theorem dX4_readWord_44 : decode cX4_readWord 44 = .ok (.invokevirtual 111, 3) := by decide +kernel
theorem dX4_readWord_47 : decode cX4_readWord 47 = .ok (.ifCond .eq 11, 3) := by decide +kernel
theorem dX4_readWord_50 : decode cX4_readWord 50 = .ok (.aload_n 0, 1) := by decide +kernel
theorem dX4_readWord_51 : decode cX4_readWord 51 = .ok (.aload_n 1, 1) := by decide +kernel
theorem dX4_readWord_52 : decode cX4_readWord 52 = .ok (.invokevirtual 114, 3) := by decide +kernel
theorem dX4_readWord_55 : decode cX4_readWord 55 = .ok (.ifCond .ne 5, 3) := by decide +kernel
theorem dX4_readWord_58 : decode cX4_readWord 58 = .ok (.iconst 0, 1) := by decide +kernel
theorem dX4_readWord_59 : decode cX4_readWord 59 = .ok (.ireturn, 1) := by decide +kernel
theorem dX4_readWord_60 : decode cX4_readWord 60 = .ok (.aload_n 0, 1) := by decide +kernel
theorem dX4_readWord_61 : decode cX4_readWord 61 = .ok (.getfield 12, 3) := by decide +kernel
theorem dX4_readWord_64 : decode cX4_readWord 64 = .ok (.bipush 59, 2) := by decide +kernel
theorem dX4_readWord_66 : decode cX4_readWord 66 = .ok (.invokevirtual 117, 3) := by decide +kernel
theorem dX4_readWord_69 : decode cX4_readWord 69 = .ok (.ifCond .eq 19, 3) := by decide +kernel
theorem dX4_readWord_72 : decode cX4_readWord 72 = .ok (.aload_n 1, 1) := by decide +kernel
theorem dX4_readWord_73 : decode cX4_readWord 73 = .ok (.invokevirtual 120, 3) := by decide +kernel
theorem dX4_readWord_76 : decode cX4_readWord 76 = .ok (.ifCond .eq 12, 3) := by decide +kernel
theorem dX4_readWord_79 : decode cX4_readWord 79 = .ok (.aload_n 0, 1) := by decide +kernel
theorem dX4_readWord_80 : decode cX4_readWord 80 = .ok (.getfield 12, 3) := by decide +kernel
theorem dX4_readWord_83 : decode cX4_readWord 83 = .ok (.iconst 5, 1) := by decide +kernel
theorem dX4_readWord_84 : decode cX4_readWord 84 = .ok (.invokevirtual 59, 3) := by decide +kernel
theorem dX4_readWord_87 : decode cX4_readWord 87 = .ok (.ireturn, 1) := by decide +kernel
theorem dX4_readWord_88 : decode cX4_readWord 88 = .ok (.aload_n 0, 1) := by decide +kernel
theorem dX4_readWord_89 : decode cX4_readWord 89 = .ok (.getfield 18, 3) := by decide +kernel
theorem dX4_readWord_92 : decode cX4_readWord 92 = .ok (.aload_n 1, 1) := by decide +kernel
theorem dX4_readWord_93 : decode cX4_readWord 93 = .ok (.getfield 108, 3) := by decide +kernel
theorem dX4_readWord_96 : decode cX4_readWord 96 = .ok (.lload_n 2, 1) := by decide +kernel
theorem dX4_readWord_97 : decode cX4_readWord 97 = .ok (.lastore, 1) := by decide +kernel
theorem dX4_readWord_98 : decode cX4_readWord 98 = .ok (.aload_n 1, 1) := by decide +kernel
theorem dX4_readWord_99 : decode cX4_readWord 99 = .ok (.dup, 1) := by decide +kernel
theorem dX4_readWord_100 : decode cX4_readWord 100 = .ok (.getfield 108, 3) := by decide +kernel
theorem dX4_readWord_103 : decode cX4_readWord 103 = .ok (.iconst 1, 1) := by decide +kernel
theorem dX4_readWord_104 : decode cX4_readWord 104 = .ok (.iadd, 1) := by decide +kernel
theorem dX4_readWord_105 : decode cX4_readWord 105 = .ok (.putfield 108, 3) := by decide +kernel
theorem dX4_readWord_108 : decode cX4_readWord 108 = .ok (.aload_n 0, 1) := by decide +kernel
theorem dX4_readWord_109 : decode cX4_readWord 109 = .ok (.getfield 12, 3) := by decide +kernel
theorem dX4_readWord_112 : decode cX4_readWord 112 = .ok (.bipush 59, 2) := by decide +kernel
theorem dX4_readWord_114 : decode cX4_readWord 114 = .ok (.invokevirtual 73, 3) := by decide +kernel
theorem dX4_readWord_117 : decode cX4_readWord 117 = .ok (.ireturn, 1) := by decide +kernel
set_option maxRecDepth 100000 in
def f_X4_readWord_58  (μ : dtM) : Option (Int32 × dtM) :=
  opRet (0 : Int32) μ
set_option maxRecDepth 100000 in
def f_X4_readWord_88 (l0 : Nat) (l1 : Nat) (l2 : Int64) (μ : dtM) : Option (Int32 × dtM) :=
  (opGR 4 1 μ l0).bind fun x1 => (opGI 3 2 μ l1).bind fun x3 => (opSJ μ x1 x3 l2).bind fun μ5 => (opGI 3 2 μ5 l1).bind fun x7 => (opPI 3 2 μ5 l1 (x7 + (1 : Int32))).bind fun μ9 => (opGR 4 0 μ9 l0).bind fun x11 => (opRv 8 μ9 x11).bind fun _ => opCall (f_X8_passSign x11 (59 : Int32) μ9) fun x16 μ14 => opRet x16 μ14
set_option maxRecDepth 100000 in
def f_X4_readWord (p0 : Nat) (p1 : Nat) (μ : dtM) : Option (Int32 × dtM) :=
  (opGI 3 2 μ p1).bind fun x1 => if x1 < (7 : Int32) then ((opGR 4 0 μ p0).bind fun x6 => (opRv 8 μ x6).bind fun _ => (f_X8_advance x6 μ).bind fun μ9 => (opRv 4 μ9 p0).bind fun _ => opCall (f_X4_passNewName p0 p1 μ9) fun x14 μ12 => if (lg_cmp x14 (0 : Int64)) = 0 then (f_X4_readWord_58 μ12) else ((opGR 4 0 μ12 p0).bind fun x18 => (opRv 8 μ12 x18).bind fun _ => opCall (f_X8_passKeyword x18 (6 : Int32) μ12) fun x23 μ21 => if x23 = 0 then (f_X4_readWord_58 μ21) else ((opRv 4 μ21 p0).bind fun _ => opCall (f_X4_readSounds p0 p1 μ21) fun x30 μ28 => if x30 = 0 then (f_X4_readWord_58 μ28) else ((opGR 4 0 μ28 p0).bind fun x34 => (opRv 8 μ28 x34).bind fun _ => opCall (f_X8_isSign x34 (59 : Int32) μ28) fun x39 μ37 => if x39 = 0 then (f_X4_readWord_88 p0 p1 x14 μ37) else ((opRv 3 μ37 p1).bind fun _ => opCall (f_X3_isNewWordSaid p1 μ37) fun x46 μ44 => if x46 = 0 then (f_X4_readWord_88 p0 p1 x14 μ44) else ((opGR 4 0 μ44 p0).bind fun x50 => (opRv 8 μ44 x50).bind fun _ => opCall (f_X8_flaw x50 (5 : Int32) μ44) fun x55 μ53 => opRet x55 μ53)))))) else ((opGR 4 0 μ p0).bind fun x56 => (opRv 8 μ x56).bind fun _ => opCall (f_X8_flaw x56 (6 : Int32) μ) fun x61 μ59 => opRet x61 μ59)
set_option maxRecDepth 100000 in
theorem c_X4_readWord_58 {r : Int32} {F : dtM}  (μ : dtM) (h : f_X4_readWord_58  μ = some (r, F)) : dtW yX4_readWord cX4_readWord 4 (some .boolean) 10 (some (.int r)) F 58 [] [] μ := by
  rw [f_X4_readWord_58] at h
  refine dr_iconst (0 : Int32) dX4_readWord_58 (by decide) ?_
  obtain ⟨hz, rfl, rfl⟩ := dtRet h
  exact dr_ireturn dX4_readWord_59 (dtNz hz)
set_option maxRecDepth 100000 in
theorem c_X4_readWord_88 {r : Int32} {F : dtM} (l0 : Nat) (l1 : Nat) (l2 : Int64) (μ : dtM) (h : f_X4_readWord_88 l0 l1 l2 μ = some (r, F)) : dtW yX4_readWord cX4_readWord 4 (some .boolean) 10 (some (.int r)) F 88 [some (.ref l0), some (.ref l1), some (.long l2)] [] μ := by
  rw [f_X4_readWord_88] at h
  refine dr_aload_n l0 dX4_readWord_88 rfl ?_
  obtain ⟨x1, e2, h⟩ := dtBind h
  refine dr_getR x1 dX4_readWord_89 fl_RX4_18 e2 ?_
  refine dr_aload_n l1 dX4_readWord_92 rfl ?_
  obtain ⟨x3, e4, h⟩ := dtBind h
  refine dr_getI x3 dX4_readWord_93 fl_RX4_108 e4 ?_
  refine dr_lload_n l2 dX4_readWord_96 rfl ?_
  obtain ⟨μ5, e6, h⟩ := dtBind h
  refine dr_lastore μ5 dX4_readWord_97 e6 ?_
  refine dr_aload_n l1 dX4_readWord_98 rfl ?_
  refine dr_dup dX4_readWord_99 rfl ?_
  obtain ⟨x7, e8, h⟩ := dtBind h
  refine dr_getI x7 dX4_readWord_100 fl_RX4_108 e8 ?_
  refine dr_iconst (1 : Int32) dX4_readWord_103 (by decide) ?_
  refine dr_iadd dX4_readWord_104 ?_
  obtain ⟨μ9, e10, h⟩ := dtBind h
  refine dr_putI μ9 dX4_readWord_105 fl_RX4_108 rfl e10 ?_
  refine dr_aload_n l0 dX4_readWord_108 rfl ?_
  obtain ⟨x11, e12, h⟩ := dtBind h
  refine dr_getR x11 dX4_readWord_109 fl_RX4_12 e12 ?_
  refine dr_bipush (59 : Int32) dX4_readWord_112 (by decide) ?_
  obtain ⟨_, hb13, h⟩ := dtBind h
  obtain ⟨x16, μ14, e15, h⟩ := dtCall h
  refine dr_callV_i (S0 := []) [.int (59 : Int32)] x16 μ14 dX4_readWord_114 (c_X8_passSign x11 (59 : Int32) μ9 e15) mf_X8_passSign wt_639 wt_640 wt_638 rfl (dtRv hb13) (by decide) rfl (Nat.le_of_ble_eq_true rfl) (Nat.le_of_ble_eq_true rfl) rfl ?_
  obtain ⟨hz, rfl, rfl⟩ := dtRet h
  exact dr_ireturn dX4_readWord_117 (dtNz hz)
set_option maxRecDepth 100000 in
theorem c_X4_readWord {r : Int32} {F : dtM} (p0 : Nat) (p1 : Nat) (μ : dtM) (h : f_X4_readWord p0 p1 μ = some (r, F)) : dtMet yX4_readWord cX4_readWord 4 (some .boolean) 10 [.ref p0, .ref p1] μ (some (.int r)) F := by
  refine dtMet.of (by decide +kernel) (Nat.le_of_ble_eq_true rfl) (show dtW yX4_readWord cX4_readWord 4 (some .boolean) 10 (some (.int r)) F 0 [some (.ref p0), some (.ref p1)] [] μ from ?_)
  rw [f_X4_readWord] at h
  refine dr_aload_n p1 dX4_readWord_0 rfl ?_
  obtain ⟨x1, e2, h⟩ := dtBind h
  refine dr_getI x1 dX4_readWord_1 fl_RX4_108 e2 ?_
  refine dr_bipush (7 : Int32) dX4_readWord_4 (by decide) ?_
  obtain ⟨ht4, hf5⟩ := dtIte h
  refine dr_icmp_lt 19 dX4_readWord_6 (by decide) (fun hc3 => ?_) (fun hc3 => ?_)
  · have h := ht4 hc3
    refine dr_aload_n p0 dX4_readWord_19 rfl ?_
    obtain ⟨x6, e7, h⟩ := dtBind h
    refine dr_getR x6 dX4_readWord_20 fl_RX4_12 e7 ?_
    obtain ⟨_, hb8, h⟩ := dtBind h
    obtain ⟨μ9, e10, h⟩ := dtBind h
    refine dr_callV_v (S0 := []) [] μ9 dX4_readWord_23 (c_X8_advance x6 μ e10) mf_X8_advance wt_551 wt_552 wt_632 rfl (dtRv hb8) (by decide) rfl (Nat.le_of_ble_eq_true rfl) (Nat.le_of_ble_eq_true rfl) rfl ?_
    refine dr_aload_n p0 dX4_readWord_26 rfl ?_
    refine dr_aload_n p1 dX4_readWord_27 rfl ?_
    obtain ⟨_, hb11, h⟩ := dtBind h
    obtain ⟨x14, μ12, e13, h⟩ := dtCall h
    refine dr_callV_l (S0 := []) [.ref p1] x14 μ12 dX4_readWord_28 (c_X4_passNewName p0 p1 μ9 e13) mf_X4_passNewName wt_652 ws_10 wt_650 rfl (dtRv hb11) (by decide) rfl (Nat.le_of_ble_eq_true rfl) (Nat.le_of_ble_eq_true rfl) rfl ?_
    refine dr_lstore_n 2 [some (.ref p0), some (.ref p1), some (.long x14), none] dX4_readWord_31 rfl rfl rfl rfl ?_
    refine dr_lload_n x14 dX4_readWord_32 rfl ?_
    refine dr_lconst (0 : Int64) dX4_readWord_33 (by decide) ?_
    refine dr_lcmp dX4_readWord_34 ?_
    obtain ⟨ht16, hf17⟩ := dtIte h
    refine dr_if_eq 58 dX4_readWord_35 (by decide) (fun hc15 => ?_) (fun hc15 => ?_)
    · have h := ht16 hc15
      refine dr_mask [] [] rfl ?_
      exact c_X4_readWord_58 μ12 h
    · have h := hf17 hc15
      refine dr_aload_n p0 dX4_readWord_38 rfl ?_
      obtain ⟨x18, e19, h⟩ := dtBind h
      refine dr_getR x18 dX4_readWord_39 fl_RX4_12 e19 ?_
      refine dr_bipush (6 : Int32) dX4_readWord_42 (by decide) ?_
      obtain ⟨_, hb20, h⟩ := dtBind h
      obtain ⟨x23, μ21, e22, h⟩ := dtCall h
      refine dr_callV_i (S0 := []) [.int (6 : Int32)] x23 μ21 dX4_readWord_44 (c_X8_passKeyword x18 (6 : Int32) μ12 e22) mf_X8_passKeyword wt_702 wt_703 wt_701 rfl (dtRv hb20) (by decide) rfl (Nat.le_of_ble_eq_true rfl) (Nat.le_of_ble_eq_true rfl) rfl ?_
      obtain ⟨ht25, hf26⟩ := dtIte h
      refine dr_if_eq 58 dX4_readWord_47 (by decide) (fun hc24 => ?_) (fun hc24 => ?_)
      · have h := ht25 hc24
        refine dr_mask [] [] rfl ?_
        exact c_X4_readWord_58 μ21 h
      · have h := hf26 hc24
        refine dr_aload_n p0 dX4_readWord_50 rfl ?_
        refine dr_aload_n p1 dX4_readWord_51 rfl ?_
        obtain ⟨_, hb27, h⟩ := dtBind h
        obtain ⟨x30, μ28, e29, h⟩ := dtCall h
        refine dr_callV_i (S0 := []) [.ref p1] x30 μ28 dX4_readWord_52 (c_X4_readSounds p0 p1 μ21 e29) mf_X4_readSounds wt_707 ws_15 wt_705 rfl (dtRv hb27) (by decide) rfl (Nat.le_of_ble_eq_true rfl) (Nat.le_of_ble_eq_true rfl) rfl ?_
        obtain ⟨ht32, hf33⟩ := dtIte h
        refine dr_if_ne 60 dX4_readWord_55 (by decide) (fun hc31 => ?_) (fun hc31 => ?_)
        · have h := hf33 hc31
          refine dr_aload_n p0 dX4_readWord_60 rfl ?_
          obtain ⟨x34, e35, h⟩ := dtBind h
          refine dr_getR x34 dX4_readWord_61 fl_RX4_12 e35 ?_
          refine dr_bipush (59 : Int32) dX4_readWord_64 (by decide) ?_
          obtain ⟨_, hb36, h⟩ := dtBind h
          obtain ⟨x39, μ37, e38, h⟩ := dtCall h
          refine dr_callV_i (S0 := []) [.int (59 : Int32)] x39 μ37 dX4_readWord_66 (c_X8_isSign x34 (59 : Int32) μ28 e38) mf_X8_isSign wt_643 wt_644 wt_726 rfl (dtRv hb36) (by decide) rfl (Nat.le_of_ble_eq_true rfl) (Nat.le_of_ble_eq_true rfl) rfl ?_
          obtain ⟨ht41, hf42⟩ := dtIte h
          refine dr_if_eq 88 dX4_readWord_69 (by decide) (fun hc40 => ?_) (fun hc40 => ?_)
          · have h := ht41 hc40
            refine dr_mask [true, true, true] [some (.ref p0), some (.ref p1), some (.long x14)] rfl ?_
            exact c_X4_readWord_88 p0 p1 x14 μ37 h
          · have h := hf42 hc40
            refine dr_aload_n p1 dX4_readWord_72 rfl ?_
            obtain ⟨_, hb43, h⟩ := dtBind h
            obtain ⟨x46, μ44, e45, h⟩ := dtCall h
            refine dr_callV_i (S0 := []) [] x46 μ44 dX4_readWord_73 (c_X3_isNewWordSaid p1 μ37 e45) mf_X3_isNewWordSaid wt_728 wt_729 wt_727 rfl (dtRv hb43) (by decide) rfl (Nat.le_of_ble_eq_true rfl) (Nat.le_of_ble_eq_true rfl) rfl ?_
            obtain ⟨ht48, hf49⟩ := dtIte h
            refine dr_if_eq 88 dX4_readWord_76 (by decide) (fun hc47 => ?_) (fun hc47 => ?_)
            · have h := ht48 hc47
              refine dr_mask [true, true, true] [some (.ref p0), some (.ref p1), some (.long x14)] rfl ?_
              exact c_X4_readWord_88 p0 p1 x14 μ44 h
            · have h := hf49 hc47
              refine dr_aload_n p0 dX4_readWord_79 rfl ?_
              obtain ⟨x50, e51, h⟩ := dtBind h
              refine dr_getR x50 dX4_readWord_80 fl_RX4_12 e51 ?_
              refine dr_iconst (5 : Int32) dX4_readWord_83 (by decide) ?_
              obtain ⟨_, hb52, h⟩ := dtBind h
              obtain ⟨x55, μ53, e54, h⟩ := dtCall h
              refine dr_callV_i (S0 := []) [.int (5 : Int32)] x55 μ53 dX4_readWord_84 (c_X8_flaw x50 (5 : Int32) μ44 e54) mf_X8_flaw wt_629 wt_630 wt_628 rfl (dtRv hb52) (by decide) rfl (Nat.le_of_ble_eq_true rfl) (Nat.le_of_ble_eq_true rfl) rfl ?_
              obtain ⟨hz, rfl, rfl⟩ := dtRet h
              exact dr_ireturn dX4_readWord_87 (dtNz hz)
        · have h := ht32 hc31
          refine dr_mask [] [] rfl ?_
          exact c_X4_readWord_58 μ28 h
  · have h := hf5 hc3
    refine dr_aload_n p0 dX4_readWord_9 rfl ?_
    obtain ⟨x56, e57, h⟩ := dtBind h
    refine dr_getR x56 dX4_readWord_10 fl_RX4_12 e57 ?_
    refine dr_bipush (6 : Int32) dX4_readWord_13 (by decide) ?_
    obtain ⟨_, hb58, h⟩ := dtBind h
    obtain ⟨x61, μ59, e60, h⟩ := dtCall h
    refine dr_callV_i (S0 := []) [.int (6 : Int32)] x61 μ59 dX4_readWord_15 (c_X8_flaw x56 (6 : Int32) μ e60) mf_X8_flaw wt_629 wt_630 wt_628 rfl (dtRv hb58) (by decide) rfl (Nat.le_of_ble_eq_true rfl) (Nat.le_of_ble_eq_true rfl) rfl ?_
    obtain ⟨hz, rfl, rfl⟩ := dtRet h
    exact dr_ireturn dX4_readWord_18 (dtNz hz)
/-! X4_readInto -/
theorem dX4_readInto_0 : decode cX4_readInto 0 = .ok (.aload_n 1, 1) := by decide +kernel
theorem dX4_readInto_1 : decode cX4_readInto 1 = .ok (.invokevirtual 22, 3) := by decide +kernel
theorem dX4_readInto_4 : decode cX4_readInto 4 = .ok (.aload_n 0, 1) := by decide +kernel
theorem dX4_readInto_5 : decode cX4_readInto 5 = .ok (.iconst 0, 1) := by decide +kernel
theorem dX4_readInto_6 : decode cX4_readInto 6 = .ok (.putfield 27, 3) := by decide +kernel
theorem dX4_readInto_9 : decode cX4_readInto 9 = .ok (.aload_n 0, 1) := by decide +kernel
theorem dX4_readInto_10 : decode cX4_readInto 10 = .ok (.getfield 12, 3) := by decide +kernel
theorem dX4_readInto_13 : decode cX4_readInto 13 = .ok (.aload_n 2, 1) := by decide +kernel
theorem dX4_readInto_14 : decode cX4_readInto 14 = .ok (.iload_n 3, 1) := by decide +kernel
theorem dX4_readInto_15 : decode cX4_readInto 15 = .ok (.invokevirtual 31, 3) := by decide +kernel
theorem dX4_readInto_18 : decode cX4_readInto 18 = .ok (.iconst 1, 1) := by decide +kernel
theorem dX4_readInto_19 : decode cX4_readInto 19 = .ok (.istore 4, 2) := by decide +kernel
theorem dX4_readInto_21 : decode cX4_readInto 21 = .ok (.iconst 0, 1) := by decide +kernel
theorem dX4_readInto_22 : decode cX4_readInto 22 = .ok (.istore 5, 2) := by decide +kernel
theorem dX4_readInto_24 : decode cX4_readInto 24 = .ok (.iload 4, 2) := by decide +kernel
theorem dX4_readInto_26 : decode cX4_readInto 26 = .ok (.ifCond .eq 156, 3) := by decide +kernel
theorem dX4_readInto_29 : decode cX4_readInto 29 = .ok (.iload 5, 2) := by decide +kernel
theorem dX4_readInto_31 : decode cX4_readInto 31 = .ok (.iload_n 3, 1) := by decide +kernel
theorem dX4_readInto_32 : decode cX4_readInto 32 = .ok (.if_icmp .gt 150, 3) := by decide +kernel
theorem dX4_readInto_35 : decode cX4_readInto 35 = .ok (.aload_n 0, 1) := by decide +kernel
theorem dX4_readInto_36 : decode cX4_readInto 36 = .ok (.getfield 12, 3) := by decide +kernel
theorem dX4_readInto_39 : decode cX4_readInto 39 = .ok (.invokevirtual 35, 3) := by decide +kernel
theorem dX4_readInto_42 : decode cX4_readInto 42 = .ok (.ifCond .ne 140, 3) := by decide +kernel
theorem dX4_readInto_45 : decode cX4_readInto 45 = .ok (.aload_n 0, 1) := by decide +kernel
theorem dX4_readInto_46 : decode cX4_readInto 46 = .ok (.getfield 12, 3) := by decide +kernel
theorem dX4_readInto_49 : decode cX4_readInto 49 = .ok (.getfield 39, 3) := by decide +kernel
theorem dX4_readInto_52 : decode cX4_readInto 52 = .ok (.tableswitch 114 0 11 #[64, 74, 84, 114, 114, 94, 114, 114, 114, 114, 114, 104], 64) := by decide +kernel
theorem dX4_readInto_116 : decode cX4_readInto 116 = .ok (.aload_n 0, 1) := by decide +kernel
theorem dX4_readInto_117 : decode cX4_readInto 117 = .ok (.aload_n 1, 1) := by decide +kernel
theorem dX4_readInto_118 : decode cX4_readInto 118 = .ok (.invokevirtual 43, 3) := by decide +kernel
theorem dX4_readInto_121 : decode cX4_readInto 121 = .ok (.istore 4, 2) := by decide +kernel
theorem dX4_readInto_123 : decode cX4_readInto 123 = .ok (.goto 53, 3) := by decide +kernel
theorem dX4_readInto_126 : decode cX4_readInto 126 = .ok (.aload_n 0, 1) := by decide +kernel
theorem dX4_readInto_127 : decode cX4_readInto 127 = .ok (.aload_n 1, 1) := by decide +kernel
theorem dX4_readInto_128 : decode cX4_readInto 128 = .ok (.invokevirtual 47, 3) := by decide +kernel
theorem dX4_readInto_131 : decode cX4_readInto 131 = .ok (.istore 4, 2) := by decide +kernel
theorem dX4_readInto_133 : decode cX4_readInto 133 = .ok (.goto 43, 3) := by decide +kernel
theorem dX4_readInto_136 : decode cX4_readInto 136 = .ok (.aload_n 0, 1) := by decide +kernel
theorem dX4_readInto_137 : decode cX4_readInto 137 = .ok (.aload_n 1, 1) := by decide +kernel
theorem dX4_readInto_138 : decode cX4_readInto 138 = .ok (.invokevirtual 50, 3) := by decide +kernel
theorem dX4_readInto_141 : decode cX4_readInto 141 = .ok (.istore 4, 2) := by decide +kernel
theorem dX4_readInto_143 : decode cX4_readInto 143 = .ok (.goto 33, 3) := by decide +kernel
theorem dX4_readInto_146 : decode cX4_readInto 146 = .ok (.aload_n 0, 1) := by decide +kernel
theorem dX4_readInto_147 : decode cX4_readInto 147 = .ok (.aload_n 1, 1) := by decide +kernel
theorem dX4_readInto_148 : decode cX4_readInto 148 = .ok (.invokevirtual 53, 3) := by decide +kernel
theorem dX4_readInto_151 : decode cX4_readInto 151 = .ok (.istore 4, 2) := by decide +kernel
theorem dX4_readInto_153 : decode cX4_readInto 153 = .ok (.goto 23, 3) := by decide +kernel
theorem dX4_readInto_156 : decode cX4_readInto 156 = .ok (.aload_n 0, 1) := by decide +kernel
theorem dX4_readInto_157 : decode cX4_readInto 157 = .ok (.aload_n 1, 1) := by decide +kernel
theorem dX4_readInto_158 : decode cX4_readInto 158 = .ok (.invokevirtual 56, 3) := by decide +kernel
theorem dX4_readInto_161 : decode cX4_readInto 161 = .ok (.istore 4, 2) := by decide +kernel
theorem dX4_readInto_163 : decode cX4_readInto 163 = .ok (.goto 13, 3) := by decide +kernel
theorem dX4_readInto_166 : decode cX4_readInto 166 = .ok (.aload_n 0, 1) := by decide +kernel
theorem dX4_readInto_167 : decode cX4_readInto 167 = .ok (.getfield 12, 3) := by decide +kernel
theorem dX4_readInto_170 : decode cX4_readInto 170 = .ok (.iconst 2, 1) := by decide +kernel
theorem dX4_readInto_171 : decode cX4_readInto 171 = .ok (.invokevirtual 59, 3) := by decide +kernel
theorem dX4_readInto_174 : decode cX4_readInto 174 = .ok (.istore 4, 2) := by decide +kernel
theorem dX4_readInto_176 : decode cX4_readInto 176 = .ok (.iinc 5 1, 3) := by decide +kernel
theorem dX4_readInto_179 : decode cX4_readInto 179 = .ok (.goto (-155), 3) := by decide +kernel
theorem dX4_readInto_182 : decode cX4_readInto 182 = .ok (.iload 4, 2) := by decide +kernel
theorem dX4_readInto_184 : decode cX4_readInto 184 = .ok (.ireturn, 1) := by decide +kernel
set_option maxRecDepth 100000 in
def f_X4_readInto_182 (l4 : Int32) (μ : dtM) : Option (Int32 × dtM) :=
  opRet l4 μ
set_option maxRecDepth 100000 in
def f_X4_readInto_176 (k24 : Nat → Nat → Int32 → Int32 → Int32 → dtM → Option (Int32 × dtM)) (l0 : Nat) (l1 : Nat) (l3 : Int32) (l4 : Int32) (l5 : Int32) (μ : dtM) : Option (Int32 × dtM) :=
  k24 l0 l1 l3 l4 (l5 + 1) μ
set_option maxRecDepth 100000 in
def f_X4_readInto_166 (k24 : Nat → Nat → Int32 → Int32 → Int32 → dtM → Option (Int32 × dtM)) (l0 : Nat) (l1 : Nat) (l3 : Int32) (l5 : Int32) (μ : dtM) : Option (Int32 × dtM) :=
  (opGR 4 0 μ l0).bind fun x1 => (opRv 8 μ x1).bind fun _ => opCall (f_X8_flaw x1 (2 : Int32) μ) fun x6 μ4 => f_X4_readInto_176 k24 l0 l1 l3 x6 l5 μ4
set_option maxRecDepth 100000 in
def f_X4_readInto_116 (k24 : Nat → Nat → Int32 → Int32 → Int32 → dtM → Option (Int32 × dtM)) (l0 : Nat) (l1 : Nat) (l3 : Int32) (l5 : Int32) (μ : dtM) : Option (Int32 × dtM) :=
  (opRv 4 μ l0).bind fun _ => opCall (f_X4_readOdds l0 l1 μ) fun x4 μ2 => f_X4_readInto_176 k24 l0 l1 l3 x4 l5 μ2
set_option maxRecDepth 100000 in
def f_X4_readInto_126 (k24 : Nat → Nat → Int32 → Int32 → Int32 → dtM → Option (Int32 × dtM)) (l0 : Nat) (l1 : Nat) (l3 : Int32) (l5 : Int32) (μ : dtM) : Option (Int32 × dtM) :=
  (opRv 4 μ l0).bind fun _ => opCall (f_X4_readRoom l0 l1 μ) fun x4 μ2 => f_X4_readInto_176 k24 l0 l1 l3 x4 l5 μ2
set_option maxRecDepth 100000 in
def f_X4_readInto_136 (k24 : Nat → Nat → Int32 → Int32 → Int32 → dtM → Option (Int32 × dtM)) (l0 : Nat) (l1 : Nat) (l3 : Int32) (l5 : Int32) (μ : dtM) : Option (Int32 × dtM) :=
  (opRv 4 μ l0).bind fun _ => opCall (f_X4_readDoor l0 l1 μ) fun x4 μ2 => f_X4_readInto_176 k24 l0 l1 l3 x4 l5 μ2
set_option maxRecDepth 100000 in
def f_X4_readInto_146 (k24 : Nat → Nat → Int32 → Int32 → Int32 → dtM → Option (Int32 × dtM)) (l0 : Nat) (l1 : Nat) (l3 : Int32) (l5 : Int32) (μ : dtM) : Option (Int32 × dtM) :=
  (opRv 4 μ l0).bind fun _ => opCall (f_X4_readWord l0 l1 μ) fun x4 μ2 => f_X4_readInto_176 k24 l0 l1 l3 x4 l5 μ2
set_option maxRecDepth 100000 in
def f_X4_readInto_156 (k24 : Nat → Nat → Int32 → Int32 → Int32 → dtM → Option (Int32 × dtM)) (l0 : Nat) (l1 : Nat) (l3 : Int32) (l5 : Int32) (μ : dtM) : Option (Int32 × dtM) :=
  (opRv 4 μ l0).bind fun _ => opCall (f_X4_readPerson l0 l1 μ) fun x4 μ2 => f_X4_readInto_176 k24 l0 l1 l3 x4 l5 μ2
set_option maxRecDepth 100000 in
def f_X4_readInto_24 : Nat → Nat → Nat → Int32 → Int32 → Int32 → dtM → Option (Int32 × dtM)
  | 0, _, _, _, _, _, _ => none
  | n + 1, l0, l1, l3, l4, l5, μ =>
    if l4 = 0 then (f_X4_readInto_182 l4 μ) else (if l3 < l5 then (f_X4_readInto_182 l4 μ) else ((opGR 4 0 μ l0).bind fun x7 => (opRv 8 μ x7).bind fun _ => opCall (f_X8_isOver x7 μ) fun x12 μ10 => if x12 = 0 then ((opGR 4 0 μ10 l0).bind fun x16 => (opGI 8 6 μ10 x16).bind fun x18 => if x18 = 0 then (f_X4_readInto_116 (f_X4_readInto_24 n) l0 l1 l3 l5 μ10) else if x18 = 1 then (f_X4_readInto_126 (f_X4_readInto_24 n) l0 l1 l3 l5 μ10) else if x18 = 2 then (f_X4_readInto_136 (f_X4_readInto_24 n) l0 l1 l3 l5 μ10) else if x18 = 5 then (f_X4_readInto_146 (f_X4_readInto_24 n) l0 l1 l3 l5 μ10) else if x18 = 11 then (f_X4_readInto_156 (f_X4_readInto_24 n) l0 l1 l3 l5 μ10) else f_X4_readInto_166 (f_X4_readInto_24 n) l0 l1 l3 l5 μ10) else (f_X4_readInto_182 l4 μ10)))
set_option maxRecDepth 100000 in
def f_X4_readInto (p0 : Nat) (p1 : Nat) (p2 : Nat) (p3 : Int32) (μ : dtM) : Option (Int32 × dtM) :=
  (opRv 3 μ p1).bind fun _ => (f_X3_clear p1 μ).bind fun μ2 => (opPZ 4 2 μ2 p0 (0 : Int32)).bind fun μ4 => (opGR 4 0 μ4 p0).bind fun x6 => (opRv 8 μ4 x6).bind fun _ => (f_X8_begin x6 p2 p3 μ4).bind fun μ9 => f_X4_readInto_24 dtFuel p0 p1 p3 (1 : Int32) (0 : Int32) μ9
set_option maxRecDepth 100000 in
theorem c_X4_readInto_182 {r : Int32} {F : dtM} (l4 : Int32) (μ : dtM) (h : f_X4_readInto_182 l4 μ = some (r, F)) : dtW yX4_readInto cX4_readInto 6 (some .boolean) 11 (some (.int r)) F 182 [none, none, none, none, some (.int l4)] [] μ := by
  rw [f_X4_readInto_182] at h
  refine dr_iload l4 dX4_readInto_182 rfl ?_
  obtain ⟨hz, rfl, rfl⟩ := dtRet h
  exact dr_ireturn dX4_readInto_184 (dtNz hz)
set_option maxRecDepth 100000 in
theorem c_X4_readInto_176 {r : Int32} {F : dtM} (k24 : Nat → Nat → Int32 → Int32 → Int32 → dtM → Option (Int32 × dtM)) (hk24 : ∀ (l0 : Nat) (l1 : Nat) (l3 : Int32) (l4 : Int32) (l5 : Int32) (μ : dtM), k24 l0 l1 l3 l4 l5 μ = some (r, F) → dtW yX4_readInto cX4_readInto 6 (some .boolean) 11 (some (.int r)) F 24 [some (.ref l0), some (.ref l1), none, some (.int l3), some (.int l4), some (.int l5)] [] μ) (l0 : Nat) (l1 : Nat) (l3 : Int32) (l4 : Int32) (l5 : Int32) (μ : dtM) (h : f_X4_readInto_176 k24 l0 l1 l3 l4 l5 μ = some (r, F)) : dtW yX4_readInto cX4_readInto 6 (some .boolean) 11 (some (.int r)) F 176 [some (.ref l0), some (.ref l1), none, some (.int l3), some (.int l4), some (.int l5)] [] μ := by
  rw [f_X4_readInto_176] at h
  refine dr_iinc l5 (l5 + 1) [some (.ref l0), some (.ref l1), none, some (.int l3), some (.int l4), some (.int (l5 + 1))] dX4_readInto_176 rfl rfl rfl rfl rfl ?_
  refine dr_goto 24 dX4_readInto_179 (by decide) ?_
  exact hk24 l0 l1 l3 l4 (l5 + 1) μ h
set_option maxRecDepth 100000 in
theorem c_X4_readInto_166 {r : Int32} {F : dtM} (k24 : Nat → Nat → Int32 → Int32 → Int32 → dtM → Option (Int32 × dtM)) (hk24 : ∀ (l0 : Nat) (l1 : Nat) (l3 : Int32) (l4 : Int32) (l5 : Int32) (μ : dtM), k24 l0 l1 l3 l4 l5 μ = some (r, F) → dtW yX4_readInto cX4_readInto 6 (some .boolean) 11 (some (.int r)) F 24 [some (.ref l0), some (.ref l1), none, some (.int l3), some (.int l4), some (.int l5)] [] μ) (l0 : Nat) (l1 : Nat) (l3 : Int32) (l5 : Int32) (μ : dtM) (h : f_X4_readInto_166 k24 l0 l1 l3 l5 μ = some (r, F)) : dtW yX4_readInto cX4_readInto 6 (some .boolean) 11 (some (.int r)) F 166 [some (.ref l0), some (.ref l1), none, some (.int l3), none, some (.int l5)] [] μ := by
  rw [f_X4_readInto_166] at h
  refine dr_aload_n l0 dX4_readInto_166 rfl ?_
  obtain ⟨x1, e2, h⟩ := dtBind h
  refine dr_getR x1 dX4_readInto_167 fl_RX4_12 e2 ?_
  refine dr_iconst (2 : Int32) dX4_readInto_170 (by decide) ?_
  obtain ⟨_, hb3, h⟩ := dtBind h
  obtain ⟨x6, μ4, e5, h⟩ := dtCall h
  refine dr_callV_i (S0 := []) [.int (2 : Int32)] x6 μ4 dX4_readInto_171 (c_X8_flaw x1 (2 : Int32) μ e5) mf_X8_flaw wt_629 wt_630 wt_628 rfl (dtRv hb3) (by decide) rfl (Nat.le_of_ble_eq_true rfl) (Nat.le_of_ble_eq_true rfl) rfl ?_
  refine dr_istore [some (.ref l0), some (.ref l1), none, some (.int l3), some (.int x6), some (.int l5)] dX4_readInto_174 rfl rfl rfl ?_
  exact c_X4_readInto_176 k24 hk24 l0 l1 l3 x6 l5 μ4 h
set_option maxRecDepth 100000 in
theorem c_X4_readInto_116 {r : Int32} {F : dtM} (k24 : Nat → Nat → Int32 → Int32 → Int32 → dtM → Option (Int32 × dtM)) (hk24 : ∀ (l0 : Nat) (l1 : Nat) (l3 : Int32) (l4 : Int32) (l5 : Int32) (μ : dtM), k24 l0 l1 l3 l4 l5 μ = some (r, F) → dtW yX4_readInto cX4_readInto 6 (some .boolean) 11 (some (.int r)) F 24 [some (.ref l0), some (.ref l1), none, some (.int l3), some (.int l4), some (.int l5)] [] μ) (l0 : Nat) (l1 : Nat) (l3 : Int32) (l5 : Int32) (μ : dtM) (h : f_X4_readInto_116 k24 l0 l1 l3 l5 μ = some (r, F)) : dtW yX4_readInto cX4_readInto 6 (some .boolean) 11 (some (.int r)) F 116 [some (.ref l0), some (.ref l1), none, some (.int l3), none, some (.int l5)] [] μ := by
  rw [f_X4_readInto_116] at h
  refine dr_aload_n l0 dX4_readInto_116 rfl ?_
  refine dr_aload_n l1 dX4_readInto_117 rfl ?_
  obtain ⟨_, hb1, h⟩ := dtBind h
  obtain ⟨x4, μ2, e3, h⟩ := dtCall h
  refine dr_callV_i (S0 := []) [.ref l1] x4 μ2 dX4_readInto_118 (c_X4_readOdds l0 l1 μ e3) mf_X4_readOdds wt_626 ws_8 wt_624 rfl (dtRv hb1) (by decide) rfl (Nat.le_of_ble_eq_true rfl) (Nat.le_of_ble_eq_true rfl) rfl ?_
  refine dr_istore [some (.ref l0), some (.ref l1), none, some (.int l3), some (.int x4), some (.int l5)] dX4_readInto_121 rfl rfl rfl ?_
  refine dr_goto 176 dX4_readInto_123 (by decide) ?_
  exact c_X4_readInto_176 k24 hk24 l0 l1 l3 x4 l5 μ2 h
set_option maxRecDepth 100000 in
theorem c_X4_readInto_126 {r : Int32} {F : dtM} (k24 : Nat → Nat → Int32 → Int32 → Int32 → dtM → Option (Int32 × dtM)) (hk24 : ∀ (l0 : Nat) (l1 : Nat) (l3 : Int32) (l4 : Int32) (l5 : Int32) (μ : dtM), k24 l0 l1 l3 l4 l5 μ = some (r, F) → dtW yX4_readInto cX4_readInto 6 (some .boolean) 11 (some (.int r)) F 24 [some (.ref l0), some (.ref l1), none, some (.int l3), some (.int l4), some (.int l5)] [] μ) (l0 : Nat) (l1 : Nat) (l3 : Int32) (l5 : Int32) (μ : dtM) (h : f_X4_readInto_126 k24 l0 l1 l3 l5 μ = some (r, F)) : dtW yX4_readInto cX4_readInto 6 (some .boolean) 11 (some (.int r)) F 126 [some (.ref l0), some (.ref l1), none, some (.int l3), none, some (.int l5)] [] μ := by
  rw [f_X4_readInto_126] at h
  refine dr_aload_n l0 dX4_readInto_126 rfl ?_
  refine dr_aload_n l1 dX4_readInto_127 rfl ?_
  obtain ⟨_, hb1, h⟩ := dtBind h
  obtain ⟨x4, μ2, e3, h⟩ := dtCall h
  refine dr_callV_i (S0 := []) [.ref l1] x4 μ2 dX4_readInto_128 (c_X4_readRoom l0 l1 μ e3) mf_X4_readRoom wt_648 ws_9 wt_646 rfl (dtRv hb1) (by decide) rfl (Nat.le_of_ble_eq_true rfl) (Nat.le_of_ble_eq_true rfl) rfl ?_
  refine dr_istore [some (.ref l0), some (.ref l1), none, some (.int l3), some (.int x4), some (.int l5)] dX4_readInto_131 rfl rfl rfl ?_
  refine dr_goto 176 dX4_readInto_133 (by decide) ?_
  exact c_X4_readInto_176 k24 hk24 l0 l1 l3 x4 l5 μ2 h
set_option maxRecDepth 100000 in
theorem c_X4_readInto_136 {r : Int32} {F : dtM} (k24 : Nat → Nat → Int32 → Int32 → Int32 → dtM → Option (Int32 × dtM)) (hk24 : ∀ (l0 : Nat) (l1 : Nat) (l3 : Int32) (l4 : Int32) (l5 : Int32) (μ : dtM), k24 l0 l1 l3 l4 l5 μ = some (r, F) → dtW yX4_readInto cX4_readInto 6 (some .boolean) 11 (some (.int r)) F 24 [some (.ref l0), some (.ref l1), none, some (.int l3), some (.int l4), some (.int l5)] [] μ) (l0 : Nat) (l1 : Nat) (l3 : Int32) (l5 : Int32) (μ : dtM) (h : f_X4_readInto_136 k24 l0 l1 l3 l5 μ = some (r, F)) : dtW yX4_readInto cX4_readInto 6 (some .boolean) 11 (some (.int r)) F 136 [some (.ref l0), some (.ref l1), none, some (.int l3), none, some (.int l5)] [] μ := by
  rw [f_X4_readInto_136] at h
  refine dr_aload_n l0 dX4_readInto_136 rfl ?_
  refine dr_aload_n l1 dX4_readInto_137 rfl ?_
  obtain ⟨_, hb1, h⟩ := dtBind h
  obtain ⟨x4, μ2, e3, h⟩ := dtCall h
  refine dr_callV_i (S0 := []) [.ref l1] x4 μ2 dX4_readInto_138 (c_X4_readDoor l0 l1 μ e3) mf_X4_readDoor wt_672 ws_12 wt_670 rfl (dtRv hb1) (by decide) rfl (Nat.le_of_ble_eq_true rfl) (Nat.le_of_ble_eq_true rfl) rfl ?_
  refine dr_istore [some (.ref l0), some (.ref l1), none, some (.int l3), some (.int x4), some (.int l5)] dX4_readInto_141 rfl rfl rfl ?_
  refine dr_goto 176 dX4_readInto_143 (by decide) ?_
  exact c_X4_readInto_176 k24 hk24 l0 l1 l3 x4 l5 μ2 h
set_option maxRecDepth 100000 in
theorem c_X4_readInto_146 {r : Int32} {F : dtM} (k24 : Nat → Nat → Int32 → Int32 → Int32 → dtM → Option (Int32 × dtM)) (hk24 : ∀ (l0 : Nat) (l1 : Nat) (l3 : Int32) (l4 : Int32) (l5 : Int32) (μ : dtM), k24 l0 l1 l3 l4 l5 μ = some (r, F) → dtW yX4_readInto cX4_readInto 6 (some .boolean) 11 (some (.int r)) F 24 [some (.ref l0), some (.ref l1), none, some (.int l3), some (.int l4), some (.int l5)] [] μ) (l0 : Nat) (l1 : Nat) (l3 : Int32) (l5 : Int32) (μ : dtM) (h : f_X4_readInto_146 k24 l0 l1 l3 l5 μ = some (r, F)) : dtW yX4_readInto cX4_readInto 6 (some .boolean) 11 (some (.int r)) F 146 [some (.ref l0), some (.ref l1), none, some (.int l3), none, some (.int l5)] [] μ := by
  rw [f_X4_readInto_146] at h
  refine dr_aload_n l0 dX4_readInto_146 rfl ?_
  refine dr_aload_n l1 dX4_readInto_147 rfl ?_
  obtain ⟨_, hb1, h⟩ := dtBind h
  obtain ⟨x4, μ2, e3, h⟩ := dtCall h
  refine dr_callV_i (S0 := []) [.ref l1] x4 μ2 dX4_readInto_148 (c_X4_readWord l0 l1 μ e3) mf_X4_readWord wt_699 ws_14 wt_697 rfl (dtRv hb1) (by decide) rfl (Nat.le_of_ble_eq_true rfl) (Nat.le_of_ble_eq_true rfl) rfl ?_
  refine dr_istore [some (.ref l0), some (.ref l1), none, some (.int l3), some (.int x4), some (.int l5)] dX4_readInto_151 rfl rfl rfl ?_
  refine dr_goto 176 dX4_readInto_153 (by decide) ?_
  exact c_X4_readInto_176 k24 hk24 l0 l1 l3 x4 l5 μ2 h
set_option maxRecDepth 100000 in
theorem c_X4_readInto_156 {r : Int32} {F : dtM} (k24 : Nat → Nat → Int32 → Int32 → Int32 → dtM → Option (Int32 × dtM)) (hk24 : ∀ (l0 : Nat) (l1 : Nat) (l3 : Int32) (l4 : Int32) (l5 : Int32) (μ : dtM), k24 l0 l1 l3 l4 l5 μ = some (r, F) → dtW yX4_readInto cX4_readInto 6 (some .boolean) 11 (some (.int r)) F 24 [some (.ref l0), some (.ref l1), none, some (.int l3), some (.int l4), some (.int l5)] [] μ) (l0 : Nat) (l1 : Nat) (l3 : Int32) (l5 : Int32) (μ : dtM) (h : f_X4_readInto_156 k24 l0 l1 l3 l5 μ = some (r, F)) : dtW yX4_readInto cX4_readInto 6 (some .boolean) 11 (some (.int r)) F 156 [some (.ref l0), some (.ref l1), none, some (.int l3), none, some (.int l5)] [] μ := by
  rw [f_X4_readInto_156] at h
  refine dr_aload_n l0 dX4_readInto_156 rfl ?_
  refine dr_aload_n l1 dX4_readInto_157 rfl ?_
  obtain ⟨_, hb1, h⟩ := dtBind h
  obtain ⟨x4, μ2, e3, h⟩ := dtCall h
  refine dr_callV_i (S0 := []) [.ref l1] x4 μ2 dX4_readInto_158 (c_X4_readPerson l0 l1 μ e3) mf_X4_readPerson wt_741 ws_17 wt_739 rfl (dtRv hb1) (by decide) rfl (Nat.le_of_ble_eq_true rfl) (Nat.le_of_ble_eq_true rfl) rfl ?_
  refine dr_istore [some (.ref l0), some (.ref l1), none, some (.int l3), some (.int x4), some (.int l5)] dX4_readInto_161 rfl rfl rfl ?_
  refine dr_goto 176 dX4_readInto_163 (by decide) ?_
  exact c_X4_readInto_176 k24 hk24 l0 l1 l3 x4 l5 μ2 h
set_option maxRecDepth 100000 in
theorem c_X4_readInto_24 {r : Int32} {F : dtM} : ∀ (n : Nat) (l0 : Nat) (l1 : Nat) (l3 : Int32) (l4 : Int32) (l5 : Int32) (μ : dtM), f_X4_readInto_24 n l0 l1 l3 l4 l5 μ = some (r, F) → dtW yX4_readInto cX4_readInto 6 (some .boolean) 11 (some (.int r)) F 24 [some (.ref l0), some (.ref l1), none, some (.int l3), some (.int l4), some (.int l5)] [] μ := by
  intro n
  induction n with
  | zero => intro l0 l1 l3 l4 l5 μ h; cases h
  | succ n ih =>
    intro l0 l1 l3 l4 l5 μ h
    have h := (show f_X4_readInto_24 (n + 1) l0 l1 l3 l4 l5 μ = some _ from h)
    rw [f_X4_readInto_24] at h
    refine dr_iload l4 dX4_readInto_24 rfl ?_
    obtain ⟨ht2, hf3⟩ := dtIte h
    refine dr_if_eq 182 dX4_readInto_26 (by decide) (fun hc1 => ?_) (fun hc1 => ?_)
    · have h := ht2 hc1
      refine dr_mask [false, false, false, false, true] [none, none, none, none, some (.int l4)] rfl ?_
      exact c_X4_readInto_182 l4 μ h
    · have h := hf3 hc1
      refine dr_iload l5 dX4_readInto_29 rfl ?_
      refine dr_iload_n l3 dX4_readInto_31 rfl ?_
      obtain ⟨ht5, hf6⟩ := dtIte h
      refine dr_icmp_gt 182 dX4_readInto_32 (by decide) (fun hc4 => ?_) (fun hc4 => ?_)
      · have h := ht5 hc4
        refine dr_mask [false, false, false, false, true] [none, none, none, none, some (.int l4)] rfl ?_
        exact c_X4_readInto_182 l4 μ h
      · have h := hf6 hc4
        refine dr_aload_n l0 dX4_readInto_35 rfl ?_
        obtain ⟨x7, e8, h⟩ := dtBind h
        refine dr_getR x7 dX4_readInto_36 fl_RX4_12 e8 ?_
        obtain ⟨_, hb9, h⟩ := dtBind h
        obtain ⟨x12, μ10, e11, h⟩ := dtCall h
        refine dr_callV_i (S0 := []) [] x12 μ10 dX4_readInto_39 (c_X8_isOver x7 μ e11) mf_X8_isOver wt_621 wt_622 wt_620 rfl (dtRv hb9) (by decide) rfl (Nat.le_of_ble_eq_true rfl) (Nat.le_of_ble_eq_true rfl) rfl ?_
        obtain ⟨ht14, hf15⟩ := dtIte h
        refine dr_if_ne 182 dX4_readInto_42 (by decide) (fun hc13 => ?_) (fun hc13 => ?_)
        · have h := hf15 hc13
          refine dr_mask [false, false, false, false, true] [none, none, none, none, some (.int l4)] rfl ?_
          exact c_X4_readInto_182 l4 μ10 h
        · have h := ht14 hc13
          refine dr_aload_n l0 dX4_readInto_45 rfl ?_
          obtain ⟨x16, e17, h⟩ := dtBind h
          refine dr_getR x16 dX4_readInto_46 fl_RX4_12 e17 ?_
          obtain ⟨x18, e19, h⟩ := dtBind h
          refine dr_getI x18 dX4_readInto_49 fl_RX4_39 e19 ?_
          obtain ⟨ht20, h⟩ := dtIte h
          refine Decidable.byCases (dec := inferInstance) (fun hc22 : x18 = 0 => ?_) (fun hc22 => ?_)
          · have h := ht20 hc22
            refine dr_tableIn (off := 64) 116 dX4_readInto_52 (by rw [hc22]; decide) (by rw [hc22]; decide) (by rw [hc22]; rfl) (by decide) ?_
            refine dr_mask [true, true, false, true, false, true] [some (.ref l0), some (.ref l1), none, some (.int l3), none, some (.int l5)] rfl ?_
            exact c_X4_readInto_116 (f_X4_readInto_24 n) ih l0 l1 l3 l5 μ10 h
          have h := h hc22
          obtain ⟨ht23, h⟩ := dtIte h
          refine Decidable.byCases (dec := inferInstance) (fun hc25 : x18 = 1 => ?_) (fun hc25 => ?_)
          · have h := ht23 hc25
            refine dr_tableIn (off := 74) 126 dX4_readInto_52 (by rw [hc25]; decide) (by rw [hc25]; decide) (by rw [hc25]; rfl) (by decide) ?_
            refine dr_mask [true, true, false, true, false, true] [some (.ref l0), some (.ref l1), none, some (.int l3), none, some (.int l5)] rfl ?_
            exact c_X4_readInto_126 (f_X4_readInto_24 n) ih l0 l1 l3 l5 μ10 h
          have h := h hc25
          obtain ⟨ht26, h⟩ := dtIte h
          refine Decidable.byCases (dec := inferInstance) (fun hc28 : x18 = 2 => ?_) (fun hc28 => ?_)
          · have h := ht26 hc28
            refine dr_tableIn (off := 84) 136 dX4_readInto_52 (by rw [hc28]; decide) (by rw [hc28]; decide) (by rw [hc28]; rfl) (by decide) ?_
            refine dr_mask [true, true, false, true, false, true] [some (.ref l0), some (.ref l1), none, some (.int l3), none, some (.int l5)] rfl ?_
            exact c_X4_readInto_136 (f_X4_readInto_24 n) ih l0 l1 l3 l5 μ10 h
          have h := h hc28
          obtain ⟨ht29, h⟩ := dtIte h
          refine Decidable.byCases (dec := inferInstance) (fun hc31 : x18 = 5 => ?_) (fun hc31 => ?_)
          · have h := ht29 hc31
            refine dr_tableIn (off := 94) 146 dX4_readInto_52 (by rw [hc31]; decide) (by rw [hc31]; decide) (by rw [hc31]; rfl) (by decide) ?_
            refine dr_mask [true, true, false, true, false, true] [some (.ref l0), some (.ref l1), none, some (.int l3), none, some (.int l5)] rfl ?_
            exact c_X4_readInto_146 (f_X4_readInto_24 n) ih l0 l1 l3 l5 μ10 h
          have h := h hc31
          obtain ⟨ht32, h⟩ := dtIte h
          refine Decidable.byCases (dec := inferInstance) (fun hc34 : x18 = 11 => ?_) (fun hc34 => ?_)
          · have h := ht32 hc34
            refine dr_tableIn (off := 104) 156 dX4_readInto_52 (by rw [hc34]; decide) (by rw [hc34]; decide) (by rw [hc34]; rfl) (by decide) ?_
            refine dr_mask [true, true, false, true, false, true] [some (.ref l0), some (.ref l1), none, some (.int l3), none, some (.int l5)] rfl ?_
            exact c_X4_readInto_156 (f_X4_readInto_24 n) ih l0 l1 l3 l5 μ10 h
          have h := h hc34
          have kd35 : dtW yX4_readInto cX4_readInto 6 (some .boolean) 11 (some (.int r)) F 166 [some (.ref l0), some (.ref l1), none, some (.int l3), some (.int l4), some (.int l5)] [] μ10 := by
            refine dr_mask [true, true, false, true, false, true] [some (.ref l0), some (.ref l1), none, some (.int l3), none, some (.int l5)] rfl ?_
            exact c_X4_readInto_166 (f_X4_readInto_24 n) ih l0 l1 l3 l5 μ10 h
          refine Decidable.byCases (dec := inferInstance) (fun hlo : (x18).toInt < 0 ∨ 11 < (x18).toInt => dr_tableOut 166 dX4_readInto_52 hlo (by decide) kd35) (fun hlo => ?_)
          obtain ⟨hl1, hl2⟩ := not_or.mp hlo
          have hv : (x18).toInt = 0 ∨ (x18).toInt = 1 ∨ (x18).toInt = 2 ∨ (x18).toInt = 3 ∨ (x18).toInt = 4 ∨ (x18).toInt = 5 ∨ (x18).toInt = 6 ∨ (x18).toInt = 7 ∨ (x18).toInt = 8 ∨ (x18).toInt = 9 ∨ (x18).toInt = 10 ∨ (x18).toInt = 11 := by omega
          rcases hv with hv | hv | hv | hv | hv | hv | hv | hv | hv | hv | hv | hv
          · exact absurd (Int32.toInt_inj.mp (hv.trans (show (0 : Int) = (0 : Int32).toInt by decide))) hc22
          · exact absurd (Int32.toInt_inj.mp (hv.trans (show (1 : Int) = (1 : Int32).toInt by decide))) hc25
          · exact absurd (Int32.toInt_inj.mp (hv.trans (show (2 : Int) = (2 : Int32).toInt by decide))) hc28
          · exact dr_tableIn (off := 114) 166 dX4_readInto_52 hl1 hl2 (by rw [hv]; rfl) (by decide) kd35
          · exact dr_tableIn (off := 114) 166 dX4_readInto_52 hl1 hl2 (by rw [hv]; rfl) (by decide) kd35
          · exact absurd (Int32.toInt_inj.mp (hv.trans (show (5 : Int) = (5 : Int32).toInt by decide))) hc31
          · exact dr_tableIn (off := 114) 166 dX4_readInto_52 hl1 hl2 (by rw [hv]; rfl) (by decide) kd35
          · exact dr_tableIn (off := 114) 166 dX4_readInto_52 hl1 hl2 (by rw [hv]; rfl) (by decide) kd35
          · exact dr_tableIn (off := 114) 166 dX4_readInto_52 hl1 hl2 (by rw [hv]; rfl) (by decide) kd35
          · exact dr_tableIn (off := 114) 166 dX4_readInto_52 hl1 hl2 (by rw [hv]; rfl) (by decide) kd35
          · exact dr_tableIn (off := 114) 166 dX4_readInto_52 hl1 hl2 (by rw [hv]; rfl) (by decide) kd35
          · exact absurd (Int32.toInt_inj.mp (hv.trans (show (11 : Int) = (11 : Int32).toInt by decide))) hc34
set_option maxRecDepth 100000 in
theorem c_X4_readInto {r : Int32} {F : dtM} (p0 : Nat) (p1 : Nat) (p2 : Nat) (p3 : Int32) (μ : dtM) (h : f_X4_readInto p0 p1 p2 p3 μ = some (r, F)) : dtMet yX4_readInto cX4_readInto 6 (some .boolean) 11 [.ref p0, .ref p1, .ref p2, .int p3] μ (some (.int r)) F := by
  refine dtMet.of (by decide +kernel) (Nat.le_of_ble_eq_true rfl) (show dtW yX4_readInto cX4_readInto 6 (some .boolean) 11 (some (.int r)) F 0 [some (.ref p0), some (.ref p1), some (.ref p2), some (.int p3)] [] μ from ?_)
  rw [f_X4_readInto] at h
  refine dr_aload_n p1 dX4_readInto_0 rfl ?_
  obtain ⟨_, hb1, h⟩ := dtBind h
  obtain ⟨μ2, e3, h⟩ := dtBind h
  refine dr_callV_v (S0 := []) [] μ2 dX4_readInto_1 (c_X3_clear p1 μ e3) mf_X3_clear wt_540 wt_541 wt_539 rfl (dtRv hb1) (by decide) rfl (Nat.le_of_ble_eq_true rfl) (Nat.le_of_ble_eq_true rfl) rfl ?_
  refine dr_aload_n p0 dX4_readInto_4 rfl ?_
  refine dr_iconst (0 : Int32) dX4_readInto_5 (by decide) ?_
  obtain ⟨μ4, e5, h⟩ := dtBind h
  refine dr_putZ μ4 dX4_readInto_6 fl_RX4_27 rfl e5 ?_
  refine dr_aload_n p0 dX4_readInto_9 rfl ?_
  obtain ⟨x6, e7, h⟩ := dtBind h
  refine dr_getR x6 dX4_readInto_10 fl_RX4_12 e7 ?_
  refine dr_aload_n p2 dX4_readInto_13 rfl ?_
  refine dr_iload_n p3 dX4_readInto_14 rfl ?_
  obtain ⟨_, hb8, h⟩ := dtBind h
  obtain ⟨μ9, e10, h⟩ := dtBind h
  refine dr_callV_v (S0 := []) [.ref p2, .int p3] μ9 dX4_readInto_15 (c_X8_begin x6 p2 p3 μ4 e10) mf_X8_begin wt_544 wt_545 wt_543 rfl (dtRv hb8) (by decide) rfl (Nat.le_of_ble_eq_true rfl) (Nat.le_of_ble_eq_true rfl) rfl ?_
  refine dr_iconst (1 : Int32) dX4_readInto_18 (by decide) ?_
  refine dr_istore [some (.ref p0), some (.ref p1), some (.ref p2), some (.int p3), some (.int (1 : Int32))] dX4_readInto_19 rfl rfl rfl ?_
  refine dr_iconst (0 : Int32) dX4_readInto_21 (by decide) ?_
  refine dr_istore [some (.ref p0), some (.ref p1), some (.ref p2), some (.int p3), some (.int (1 : Int32)), some (.int (0 : Int32))] dX4_readInto_22 rfl rfl rfl ?_
  refine dr_mask [true, true, false, true, true, true] [some (.ref p0), some (.ref p1), none, some (.int p3), some (.int (1 : Int32)), some (.int (0 : Int32))] rfl ?_
  exact c_X4_readInto_24 dtFuel p0 p1 p3 (1 : Int32) (0 : Int32) μ9 h
/-! X5_init -/
theorem dX5_init_0 : decode cX5_init 0 = .ok (.aload_n 0, 1) := by decide +kernel
theorem dX5_init_1 : decode cX5_init 1 = .ok (.invokespecial 3, 3) := by decide +kernel
theorem dX5_init_4 : decode cX5_init 4 = .ok (.aload_n 0, 1) := by decide +kernel
theorem dX5_init_5 : decode cX5_init 5 = .ok (.bipush 24, 2) := by decide +kernel
theorem dX5_init_7 : decode cX5_init 7 = .ok (.newarray .int, 2) := by decide +kernel
theorem dX5_init_9 : decode cX5_init 9 = .ok (.putfield 9, 3) := by decide +kernel
theorem dX5_init_12 : decode cX5_init 12 = .ok (.aload_n 0, 1) := by decide +kernel
theorem dX5_init_13 : decode cX5_init 13 = .ok (.bipush 25, 2) := by decide +kernel
theorem dX5_init_15 : decode cX5_init 15 = .ok (.newarray .int, 2) := by decide +kernel
theorem dX5_init_17 : decode cX5_init 17 = .ok (.putfield 15, 3) := by decide +kernel
theorem dX5_init_20 : decode cX5_init 20 = .ok (.aload_n 0, 1) := by decide +kernel
theorem dX5_init_21 : decode cX5_init 21 = .ok (.bipush 25, 2) := by decide +kernel
theorem dX5_init_23 : decode cX5_init 23 = .ok (.newarray .int, 2) := by decide +kernel
theorem dX5_init_25 : decode cX5_init 25 = .ok (.putfield 18, 3) := by decide +kernel
theorem dX5_init_28 : decode cX5_init 28 = .ok (.return_, 1) := by decide +kernel
set_option maxRecDepth 100000 in
def f_X5_init (p0 : Nat) (μ : dtM) : Option dtM :=
  (opLt p0).bind fun _ => opCall (opNA 1 μ (24 : Int32)) fun q2 μ3 => (opPR 5 0 μ3 p0 q2).bind fun μ5 => opCall (opNA 1 μ5 (25 : Int32)) fun q7 μ8 => (opPR 5 2 μ8 p0 q7).bind fun μ10 => opCall (opNA 1 μ10 (25 : Int32)) fun q12 μ13 => (opPR 5 3 μ13 p0 q12).bind fun μ15 => some μ15
set_option maxRecDepth 100000 in
theorem c_X5_init {F : dtM} (p0 : Nat) (μ : dtM) (h : f_X5_init p0 μ = some F) : dtMet yX5_init cX5_init 1 (none) 1 [.ref p0] μ (none) F := by
  refine dtMet.of (by decide +kernel) (Nat.le_of_ble_eq_true rfl) (show dtW yX5_init cX5_init 1 (none) 1 (none) F 0 [some (.ref p0)] [] μ from ?_)
  rw [f_X5_init] at h
  refine dr_aload_n p0 dX5_init_0 rfl ?_
  obtain ⟨_, hb1, h⟩ := dtBind h
  refine dr_objInit dX5_init_1 wt_339 wt_27 wt_28 (dtLt hb1) (Nat.le_of_ble_eq_true rfl) rfl ?_
  refine dr_aload_n p0 dX5_init_4 rfl ?_
  refine dr_bipush (24 : Int32) dX5_init_5 (by decide) ?_
  obtain ⟨q2, μ3, e4, h⟩ := dtCall h
  refine dr_newarray_i q2 μ3 dX5_init_7 wt_192 e4 ?_
  obtain ⟨μ5, e6, h⟩ := dtBind h
  refine dr_putRF μ5 dX5_init_9 fl_RX5_9 rfl rfl rfl e6 ?_
  refine dr_aload_n p0 dX5_init_12 rfl ?_
  refine dr_bipush (25 : Int32) dX5_init_13 (by decide) ?_
  obtain ⟨q7, μ8, e9, h⟩ := dtCall h
  refine dr_newarray_i q7 μ8 dX5_init_15 wt_192 e9 ?_
  obtain ⟨μ10, e11, h⟩ := dtBind h
  refine dr_putRF μ10 dX5_init_17 fl_RX5_15 rfl rfl rfl e11 ?_
  refine dr_aload_n p0 dX5_init_20 rfl ?_
  refine dr_bipush (25 : Int32) dX5_init_21 (by decide) ?_
  obtain ⟨q12, μ13, e14, h⟩ := dtCall h
  refine dr_newarray_i q12 μ13 dX5_init_23 wt_192 e14 ?_
  obtain ⟨μ15, e16, h⟩ := dtBind h
  refine dr_putRF μ15 dX5_init_25 fl_RX5_18 rfl rfl rfl e16 ?_
  cases h
  exact dr_return dX5_init_28
/-! X5_beginRow -/
theorem dX5_beginRow_0 : decode cX5_beginRow 0 = .ok (.aload_n 0, 1) := by decide +kernel
theorem dX5_beginRow_1 : decode cX5_beginRow 1 = .ok (.iconst 0, 1) := by decide +kernel
theorem dX5_beginRow_2 : decode cX5_beginRow 2 = .ok (.putfield 21, 3) := by decide +kernel
theorem dX5_beginRow_5 : decode cX5_beginRow 5 = .ok (.return_, 1) := by decide +kernel
set_option maxRecDepth 100000 in
def f_X5_beginRow (p0 : Nat) (μ : dtM) : Option dtM :=
  (opPI 5 1 μ p0 (0 : Int32)).bind fun μ1 => some μ1
set_option maxRecDepth 100000 in
theorem c_X5_beginRow {F : dtM} (p0 : Nat) (μ : dtM) (h : f_X5_beginRow p0 μ = some F) : dtMet yX5_beginRow cX5_beginRow 1 (none) 1 [.ref p0] μ (none) F := by
  refine dtMet.of (by decide +kernel) (Nat.le_of_ble_eq_true rfl) (show dtW yX5_beginRow cX5_beginRow 1 (none) 1 (none) F 0 [some (.ref p0)] [] μ from ?_)
  rw [f_X5_beginRow] at h
  refine dr_aload_n p0 dX5_beginRow_0 rfl ?_
  refine dr_iconst (0 : Int32) dX5_beginRow_1 (by decide) ?_
  obtain ⟨μ1, e2, h⟩ := dtBind h
  refine dr_putI μ1 dX5_beginRow_2 fl_RX5_21 rfl e2 ?_
  cases h
  exact dr_return dX5_beginRow_5
/-! X5_addSound -/
theorem dX5_addSound_0 : decode cX5_addSound 0 = .ok (.aload_n 0, 1) := by decide +kernel
theorem dX5_addSound_1 : decode cX5_addSound 1 = .ok (.getfield 21, 3) := by decide +kernel
theorem dX5_addSound_4 : decode cX5_addSound 4 = .ok (.aload_n 0, 1) := by decide +kernel
theorem dX5_addSound_5 : decode cX5_addSound 5 = .ok (.getfield 9, 3) := by decide +kernel
theorem dX5_addSound_8 : decode cX5_addSound 8 = .ok (.arraylength, 1) := by decide +kernel
theorem dX5_addSound_9 : decode cX5_addSound 9 = .ok (.if_icmp .ge 23, 3) := by decide +kernel
theorem dX5_addSound_12 : decode cX5_addSound 12 = .ok (.aload_n 0, 1) := by decide +kernel
theorem dX5_addSound_13 : decode cX5_addSound 13 = .ok (.getfield 9, 3) := by decide +kernel
theorem dX5_addSound_16 : decode cX5_addSound 16 = .ok (.aload_n 0, 1) := by decide +kernel
theorem dX5_addSound_17 : decode cX5_addSound 17 = .ok (.getfield 21, 3) := by decide +kernel
theorem dX5_addSound_20 : decode cX5_addSound 20 = .ok (.iload_n 1, 1) := by decide +kernel
theorem dX5_addSound_21 : decode cX5_addSound 21 = .ok (.iastore, 1) := by decide +kernel
theorem dX5_addSound_22 : decode cX5_addSound 22 = .ok (.aload_n 0, 1) := by decide +kernel
theorem dX5_addSound_23 : decode cX5_addSound 23 = .ok (.dup, 1) := by decide +kernel
theorem dX5_addSound_24 : decode cX5_addSound 24 = .ok (.getfield 21, 3) := by decide +kernel
theorem dX5_addSound_27 : decode cX5_addSound 27 = .ok (.iconst 1, 1) := by decide +kernel
theorem dX5_addSound_28 : decode cX5_addSound 28 = .ok (.iadd, 1) := by decide +kernel
theorem dX5_addSound_29 : decode cX5_addSound 29 = .ok (.putfield 21, 3) := by decide +kernel
theorem dX5_addSound_32 : decode cX5_addSound 32 = .ok (.return_, 1) := by decide +kernel
set_option maxRecDepth 100000 in
def f_X5_addSound_32  (μ : dtM) : Option dtM :=
  some μ
set_option maxRecDepth 100000 in
def f_X5_addSound (p0 : Nat) (p1 : Int32) (μ : dtM) : Option dtM :=
  (opGI 5 1 μ p0).bind fun x1 => (opGR 5 0 μ p0).bind fun x3 => (opAL μ x3).bind fun x5 => if x5 ≤ x1 then (f_X5_addSound_32 μ) else ((opGR 5 0 μ p0).bind fun x10 => (opGI 5 1 μ p0).bind fun x12 => (opSI μ x10 x12 p1).bind fun μ14 => (opGI 5 1 μ14 p0).bind fun x16 => (opPI 5 1 μ14 p0 (x16 + (1 : Int32))).bind fun μ18 => f_X5_addSound_32 μ18)
set_option maxRecDepth 100000 in
theorem c_X5_addSound_32 {F : dtM}  (μ : dtM) (h : f_X5_addSound_32  μ = some F) : dtW yX5_addSound cX5_addSound 2 (none) 1 (none) F 32 [] [] μ := by
  rw [f_X5_addSound_32] at h
  cases h
  exact dr_return dX5_addSound_32
set_option maxRecDepth 100000 in
theorem c_X5_addSound {F : dtM} (p0 : Nat) (p1 : Int32) (μ : dtM) (h : f_X5_addSound p0 p1 μ = some F) : dtMet yX5_addSound cX5_addSound 2 (none) 1 [.ref p0, .int p1] μ (none) F := by
  refine dtMet.of (by decide +kernel) (Nat.le_of_ble_eq_true rfl) (show dtW yX5_addSound cX5_addSound 2 (none) 1 (none) F 0 [some (.ref p0), some (.int p1)] [] μ from ?_)
  rw [f_X5_addSound] at h
  refine dr_aload_n p0 dX5_addSound_0 rfl ?_
  obtain ⟨x1, e2, h⟩ := dtBind h
  refine dr_getI x1 dX5_addSound_1 fl_RX5_21 e2 ?_
  refine dr_aload_n p0 dX5_addSound_4 rfl ?_
  obtain ⟨x3, e4, h⟩ := dtBind h
  refine dr_getR x3 dX5_addSound_5 fl_RX5_9 e4 ?_
  obtain ⟨x5, e6, h⟩ := dtBind h
  refine dr_arraylength x5 dX5_addSound_8 e6 ?_
  obtain ⟨ht8, hf9⟩ := dtIte h
  refine dr_icmp_ge 32 dX5_addSound_9 (by decide) (fun hc7 => ?_) (fun hc7 => ?_)
  · have h := ht8 hc7
    refine dr_mask [] [] rfl ?_
    exact c_X5_addSound_32 μ h
  · have h := hf9 hc7
    refine dr_aload_n p0 dX5_addSound_12 rfl ?_
    obtain ⟨x10, e11, h⟩ := dtBind h
    refine dr_getR x10 dX5_addSound_13 fl_RX5_9 e11 ?_
    refine dr_aload_n p0 dX5_addSound_16 rfl ?_
    obtain ⟨x12, e13, h⟩ := dtBind h
    refine dr_getI x12 dX5_addSound_17 fl_RX5_21 e13 ?_
    refine dr_iload_n p1 dX5_addSound_20 rfl ?_
    obtain ⟨μ14, e15, h⟩ := dtBind h
    refine dr_iastore μ14 dX5_addSound_21 e15 ?_
    refine dr_aload_n p0 dX5_addSound_22 rfl ?_
    refine dr_dup dX5_addSound_23 rfl ?_
    obtain ⟨x16, e17, h⟩ := dtBind h
    refine dr_getI x16 dX5_addSound_24 fl_RX5_21 e17 ?_
    refine dr_iconst (1 : Int32) dX5_addSound_27 (by decide) ?_
    refine dr_iadd dX5_addSound_28 ?_
    obtain ⟨μ18, e19, h⟩ := dtBind h
    refine dr_putI μ18 dX5_addSound_29 fl_RX5_21 rfl e19 ?_
    refine dr_mask [] [] rfl ?_
    exact c_X5_addSound_32 μ18 h
