def dtFuel : Nat := 2000000
def dtRecFuel : Nat := 40
def opLt (b : Nat) : Option Unit := if b < 1000000 then some () else none
theorem dtLt {b : Nat} (h : opLt b = some ()) : b < 1000000 := (dtIf h).1
theorem dtRv {ci b : Nat} {μ : dtM} (h : opRv ci μ b = some ()) : dtS μ b = (0, ci) := (dtIf h).1
theorem dtBind {α β : Type} {o : Option α} {f : α → Option β} {r : β} (h : o.bind f = some r) : ∃ v, o = some v ∧ f v = some r := by
  cases o with
  | none => cases h
  | some v => exact ⟨v, rfl, h⟩
theorem dtCall {α β : Type} {o : Option (α × dtM)} {f : α → dtM → Option β} {r : β} (h : opCall o f = some r) : ∃ v m, o = some (v, m) ∧ f v m = some r := by
  cases o with
  | none => cases h
  | some q => exact ⟨q.1, q.2, rfl, h⟩
theorem dtIte {α : Type} {c : Prop} [Decidable c] {a b : Option α} {r : α} (h : (if c then a else b) = some r) : (c → a = some r) ∧ (¬ c → b = some r) := by
  by_cases hc : c
  · rw [if_pos hc] at h
    exact ⟨fun _ => h, fun q => absurd hc q⟩
  · rw [if_neg hc] at h
    exact ⟨fun q => absurd q hc, fun _ => h⟩
theorem dtRet {v r : Int32} {μ F : dtM} (h : opRet v μ = some (r, F)) : (v = 0 ∨ v = 1) ∧ r = v ∧ F = μ := by
  obtain ⟨h1, h2⟩ := dtIf h
  cases h2
  exact ⟨h1, rfl, rfl⟩
theorem dtNz {v : Int32} (h : v = 0 ∨ v = 1) : narrow .boolean (.int v) = .int v := by rcases h with rfl | rfl <;> rfl
def dtMask : List Bool → List (Option Value) → List (Option Value)
  | [], _ => []
  | true :: m, a :: l => a :: dtMask m l
  | false :: m, _ :: l => none :: dtMask m l
  | _ :: m, [] => none :: dtMask m []
theorem dtMask_sub : ∀ (m : List Bool) (L : List (Option Value)) (i : Nat) (v : Value), dtG (dtMask m L) i = some v → dtG L i = some v
  | [], L, i, v, h => by cases h
  | true :: m, a :: l, 0, v, h => h
  | true :: m, a :: l, i + 1, v, h => dtMask_sub m l i v h
  | false :: m, a :: l, 0, v, h => by cases h
  | false :: m, a :: l, i + 1, v, h => dtMask_sub m l i v h
  | true :: m, [], 0, v, h => by cases h
  | true :: m, [], i + 1, v, h => by have := dtMask_sub m [] i v h; cases this
  | false :: m, [], 0, v, h => by cases h
  | false :: m, [], i + 1, v, h => by have := dtMask_sub m [] i v h; cases this
section GX
variable {y : MethodName} {cc : ByteArray} {nL : Nat} {ret : Option FieldType} {d : Nat} {r : Option Value} {F : dtM} {pc : Nat} {L : List (Option Value)} {S S0 : List Value} {μ : dtM}
theorem dr_mask (m : List Bool) (L' : List (Option Value)) (hm : dtMask m L = L') (k : dtW y cc nL ret d r F pc L' S μ) : dtW y cc nL ret d r F pc L S μ := by
  subst hm
  refine ⟨k.1, ?_⟩
  intro p l e R s m0 args below meth c Q D E base N0 Z0 K H locs ls hm hs h1 h2 hL
  refine k.2 p l e R s m0 args below meth c Q D E base N0 Z0 K H locs ls hm hs h1 h2 (dtHas_mono hL fun q hq => ?_)
  obtain ⟨j, v, g1, g2, g3⟩ := (dtP_mem _ 0 q.1 q.2).mp hq
  exact (dtP_mem L 0 q.1 q.2).mpr ⟨j, v, dtMask_sub m L j v g1, g2, g3⟩
theorem dr_nmi {a x : Int32} (e : some a = some x) (k : dtW y cc nL ret d r F pc L (.int x :: S) μ) : dtW y cc nL ret d r F pc L (.int a :: S) μ := by cases e; exact k
theorem dr_nmj {a x : Int64} (e : some a = some x) (k : dtW y cc nL ret d r F pc L (.long x :: S) μ) : dtW y cc nL ret d r F pc L (.long a :: S) μ := by cases e; exact k
theorem dr_idiv_n {x z : Int32} (v : Int32) (hd : decode cc pc = .ok (.idiv, 1)) (hv : opDiv x z = some v) (k : dtW y cc nL ret d r F (pc + 1) L (.int v :: S) μ) : dtW y cc nL ret d r F pc L (.int z :: .int x :: S) μ := by
  obtain ⟨h, rfl⟩ := dtIf hv
  exact dr_idiv hd h k
theorem dr_irem_n {x z : Int32} (v : Int32) (hd : decode cc pc = .ok (.irem, 1)) (hv : opRem x z = some v) (k : dtW y cc nL ret d r F (pc + 1) L (.int v :: S) μ) : dtW y cc nL ret d r F pc L (.int z :: .int x :: S) μ := by
  obtain ⟨h, rfl⟩ := dtIf hv
  exact dr_irem hd h k
theorem dr_ldiv_n {x z : Int64} (v : Int64) (hd : decode cc pc = .ok (.ldiv, 1)) (hv : opDivJ x z = some v) (k : dtW y cc nL ret d r F (pc + 1) L (.long v :: S) μ) : dtW y cc nL ret d r F pc L (.long z :: .long x :: S) μ := by
  obtain ⟨h, rfl⟩ := dtIf hv
  exact dr_ldiv hd h k
theorem dr_lrem_n {x z : Int64} (v : Int64) (hd : decode cc pc = .ok (.lrem, 1)) (hv : opRemJ x z = some v) (k : dtW y cc nL ret d r F (pc + 1) L (.long v :: S) μ) : dtW y cc nL ret d r F pc L (.long z :: .long x :: S) μ := by
  obtain ⟨h, rfl⟩ := dtIf hv
  exact dr_lrem hd h k
theorem dr_callV_i {x : MethodName} {code : ByteArray} {maxL dx np idx : Nat} {rt : Option FieldType} {b ci : Nat} (As : List Value) (v : Int32) (μ' : dtM) (hd : decode cc pc = .ok (.invokevirtual idx, 3)) (hM : dtMet x code maxL rt dx (.ref b :: As) μ (some (.int v)) μ') (hmf : dtMF x code maxL rt np) (hin : Cond.instanceMethod x ∈ dtWT) (hsel : Cond.selects x.cls x x ∈ dtWT) (hlk : Cond.methodLink y.cls idx x ∈ dtWT) (hnp : As.length = np) (hb : dtS μ b = (0, ci)) (hci : ci < 13) (hcls : (dtC ci).1 = x.cls) (hdx : dx + 1 ≤ d) (hml : maxL ≤ 21) (hsum : Nat.ble ((S0.map fun v => v.category).sum) 8 = true) (k : dtW y cc nL ret d r F (pc + 3) L (.int v :: S0) μ') : dtW y cc nL ret d r F pc L (As.reverse ++ .ref b :: S0) μ := dr_callV (rv := some (.int v)) μ' As hd hM hmf hin hsel hlk hnp hb hci hcls hdx (Nat.ble_eq_true_of_le hml) hsum k
theorem dr_callS_i {x : MethodName} {code : ByteArray} {maxL dx np idx : Nat} {rt : Option FieldType} (As : List Value) (v : Int32) (μ' : dtM) (hd : decode cc pc = .ok (.invokestatic idx, 3)) (hM : dtMet x code maxL rt dx As μ (some (.int v)) μ') (hmf : dtMF x code maxL rt np) (hst : Cond.static x ∈ dtWT) (hlk : Cond.methodLink y.cls idx x ∈ dtWT) (hnp : As.length = np) (hdx : dx + 1 ≤ d) (hml : maxL ≤ 21) (hsum : Nat.ble ((S0.map fun v => v.category).sum) 8 = true) (k : dtW y cc nL ret d r F (pc + 3) L (.int v :: S0) μ') : dtW y cc nL ret d r F pc L (As.reverse ++ S0) μ := dr_callS (rv := some (.int v)) μ' As hd hM hmf hst hlk hnp hdx (Nat.ble_eq_true_of_le hml) hsum k
theorem dr_callSN_i {x : MethodName} {code : ByteArray} {maxL dx np idx : Nat} {rt : Option FieldType} {host : String} (As : List Value) (v : Int32) (μ' : dtM) (hd : decode cc pc = .ok (.invokestatic idx, 3)) (hM : dtMet x code maxL rt dx As μ (some (.int v)) μ') (hmf : dtMF x code maxL rt np) (hst : Cond.static x ∈ dtWT) (hlk : Cond.methodLinkNest y.cls idx x host ∈ dtNest) (hnp : As.length = np) (hdx : dx + 1 ≤ d) (hml : maxL ≤ 21) (hsum : Nat.ble ((S0.map fun v => v.category).sum) 8 = true) (k : dtW y cc nL ret d r F (pc + 3) L (.int v :: S0) μ') : dtW y cc nL ret d r F pc L (As.reverse ++ S0) μ := dr_callSN (rv := some (.int v)) μ' As hd hM hmf hst hlk hnp hdx (Nat.ble_eq_true_of_le hml) hsum k
theorem dr_callV_l {x : MethodName} {code : ByteArray} {maxL dx np idx : Nat} {rt : Option FieldType} {b ci : Nat} (As : List Value) (v : Int64) (μ' : dtM) (hd : decode cc pc = .ok (.invokevirtual idx, 3)) (hM : dtMet x code maxL rt dx (.ref b :: As) μ (some (.long v)) μ') (hmf : dtMF x code maxL rt np) (hin : Cond.instanceMethod x ∈ dtWT) (hsel : Cond.selects x.cls x x ∈ dtWT) (hlk : Cond.methodLink y.cls idx x ∈ dtWT) (hnp : As.length = np) (hb : dtS μ b = (0, ci)) (hci : ci < 13) (hcls : (dtC ci).1 = x.cls) (hdx : dx + 1 ≤ d) (hml : maxL ≤ 21) (hsum : Nat.ble ((S0.map fun v => v.category).sum) 8 = true) (k : dtW y cc nL ret d r F (pc + 3) L (.long v :: S0) μ') : dtW y cc nL ret d r F pc L (As.reverse ++ .ref b :: S0) μ := dr_callV (rv := some (.long v)) μ' As hd hM hmf hin hsel hlk hnp hb hci hcls hdx (Nat.ble_eq_true_of_le hml) hsum k
theorem dr_callS_l {x : MethodName} {code : ByteArray} {maxL dx np idx : Nat} {rt : Option FieldType} (As : List Value) (v : Int64) (μ' : dtM) (hd : decode cc pc = .ok (.invokestatic idx, 3)) (hM : dtMet x code maxL rt dx As μ (some (.long v)) μ') (hmf : dtMF x code maxL rt np) (hst : Cond.static x ∈ dtWT) (hlk : Cond.methodLink y.cls idx x ∈ dtWT) (hnp : As.length = np) (hdx : dx + 1 ≤ d) (hml : maxL ≤ 21) (hsum : Nat.ble ((S0.map fun v => v.category).sum) 8 = true) (k : dtW y cc nL ret d r F (pc + 3) L (.long v :: S0) μ') : dtW y cc nL ret d r F pc L (As.reverse ++ S0) μ := dr_callS (rv := some (.long v)) μ' As hd hM hmf hst hlk hnp hdx (Nat.ble_eq_true_of_le hml) hsum k
theorem dr_callSN_l {x : MethodName} {code : ByteArray} {maxL dx np idx : Nat} {rt : Option FieldType} {host : String} (As : List Value) (v : Int64) (μ' : dtM) (hd : decode cc pc = .ok (.invokestatic idx, 3)) (hM : dtMet x code maxL rt dx As μ (some (.long v)) μ') (hmf : dtMF x code maxL rt np) (hst : Cond.static x ∈ dtWT) (hlk : Cond.methodLinkNest y.cls idx x host ∈ dtNest) (hnp : As.length = np) (hdx : dx + 1 ≤ d) (hml : maxL ≤ 21) (hsum : Nat.ble ((S0.map fun v => v.category).sum) 8 = true) (k : dtW y cc nL ret d r F (pc + 3) L (.long v :: S0) μ') : dtW y cc nL ret d r F pc L (As.reverse ++ S0) μ := dr_callSN (rv := some (.long v)) μ' As hd hM hmf hst hlk hnp hdx (Nat.ble_eq_true_of_le hml) hsum k
theorem dr_callV_v {x : MethodName} {code : ByteArray} {maxL dx np idx : Nat} {rt : Option FieldType} {b ci : Nat} (As : List Value) (μ' : dtM) (hd : decode cc pc = .ok (.invokevirtual idx, 3)) (hM : dtMet x code maxL rt dx (.ref b :: As) μ (none) μ') (hmf : dtMF x code maxL rt np) (hin : Cond.instanceMethod x ∈ dtWT) (hsel : Cond.selects x.cls x x ∈ dtWT) (hlk : Cond.methodLink y.cls idx x ∈ dtWT) (hnp : As.length = np) (hb : dtS μ b = (0, ci)) (hci : ci < 13) (hcls : (dtC ci).1 = x.cls) (hdx : dx + 1 ≤ d) (hml : maxL ≤ 21) (hsum : Nat.ble ((S0.map fun v => v.category).sum) 8 = true) (k : dtW y cc nL ret d r F (pc + 3) L (S0) μ') : dtW y cc nL ret d r F pc L (As.reverse ++ .ref b :: S0) μ := dr_callV (rv := none) μ' As hd hM hmf hin hsel hlk hnp hb hci hcls hdx (Nat.ble_eq_true_of_le hml) hsum k
theorem dr_callS_v {x : MethodName} {code : ByteArray} {maxL dx np idx : Nat} {rt : Option FieldType} (As : List Value) (μ' : dtM) (hd : decode cc pc = .ok (.invokestatic idx, 3)) (hM : dtMet x code maxL rt dx As μ (none) μ') (hmf : dtMF x code maxL rt np) (hst : Cond.static x ∈ dtWT) (hlk : Cond.methodLink y.cls idx x ∈ dtWT) (hnp : As.length = np) (hdx : dx + 1 ≤ d) (hml : maxL ≤ 21) (hsum : Nat.ble ((S0.map fun v => v.category).sum) 8 = true) (k : dtW y cc nL ret d r F (pc + 3) L (S0) μ') : dtW y cc nL ret d r F pc L (As.reverse ++ S0) μ := dr_callS (rv := none) μ' As hd hM hmf hst hlk hnp hdx (Nat.ble_eq_true_of_le hml) hsum k
theorem dr_callSN_v {x : MethodName} {code : ByteArray} {maxL dx np idx : Nat} {rt : Option FieldType} {host : String} (As : List Value) (μ' : dtM) (hd : decode cc pc = .ok (.invokestatic idx, 3)) (hM : dtMet x code maxL rt dx As μ (none) μ') (hmf : dtMF x code maxL rt np) (hst : Cond.static x ∈ dtWT) (hlk : Cond.methodLinkNest y.cls idx x host ∈ dtNest) (hnp : As.length = np) (hdx : dx + 1 ≤ d) (hml : maxL ≤ 21) (hsum : Nat.ble ((S0.map fun v => v.category).sum) 8 = true) (k : dtW y cc nL ret d r F (pc + 3) L (S0) μ') : dtW y cc nL ret d r F pc L (As.reverse ++ S0) μ := dr_callSN (rv := none) μ' As hd hM hmf hst hlk hnp hdx (Nat.ble_eq_true_of_le hml) hsum k
/-! what is outside -/
theorem dr_sload {i : Int32} (v : Int32) (hd : decode cc pc = .ok (.iaload, 1)) (hv : opScr μ i = some v) (k : dtW y cc nL ret d r F (pc + 1) L (.int v :: S) μ) : dtW y cc nL ret d r F pc L (.int i :: .ref 1000000 :: S) μ := by
  obtain ⟨h, rfl⟩ := dtIf hv
  refine ⟨k.1, ?_⟩
  intro p l e R s m args below meth c Q D E base N0 Z0 K H locs ls hm hs h1 h2 hL
  have hx := K.st.2.2.1
  have kk := k.2 p l e R s m args below meth c Q D E base N0 Z0 K H locs ls hm hs h1 h2 hL
  rw [List.map_cons, hm.2.2.2.2.2] at kk
  rw [hm.2.2.2.2.1] at h
  exact va_sld (A := dtO base) (H0 := s.heap) K.1 K.2.1 hx.1 (Nat.lt_of_lt_of_le hx.2.1 hx.2.2) (Nat.not_le.mpr hx.2.1) hs h hd kk
theorem dr_slen (hd : decode cc pc = .ok (.arraylength, 1)) (k : dtW y cc nL ret d r F (pc + 1) L (.int (Int32.ofNat (dtS μ 1000000).2) :: S) μ) : dtW y cc nL ret d r F pc L (.ref 1000000 :: S) μ := by
  refine ⟨k.1, ?_⟩
  intro p l e R s m args below meth c Q D E base N0 Z0 K H locs ls hm hs h1 h2 hL
  have hx := K.st.2.2.1
  have kk := k.2 p l e R s m args below meth c Q D E base N0 Z0 K H locs ls hm hs h1 h2 hL
  rw [List.map_cons, hm.2.2.2.2.1] at kk
  exact va_slen (A := dtO base) (H0 := s.heap) K.1 K.2.1 hx.1 (Nat.lt_of_lt_of_le hx.2.1 hx.2.2) (Nat.not_le.mpr hx.2.1) hs hd kk
theorem dr_loud {idx : Nat} (hd : decode cc pc = .ok (.getstatic idx, 3)) (hlk : Cond.fieldLink y.cls idx "DoorTongue$Hearing" "LOUD" "[I" ∈ dtWT) (k : dtW y cc nL ret d r F (pc + 3) L (.ref 1000001 :: S) μ) : dtW y cc nL ret d r F pc L S μ := by
  refine ⟨k.1, ?_⟩
  intro p l e R s m args below meth c Q D E base N0 Z0 K H locs ls hm hs h1 h2 hL
  exact va_gets (A := dtO base) K.1 K.2.1 K.st.2.2.2.1.1 hs K.2.2.2.1 (K.2.2.2.2.1 _ hlk) (fun _ h => h) hd (k.2 p l e R s m args below meth c Q D E base N0 Z0 K H locs ls hm hs h1 h2 hL)
theorem dr_loudld {i : Int32} (v : Int32) (hd : decode cc pc = .ok (.iaload, 1)) (hv : opLoud i = some v) (k : dtW y cc nL ret d r F (pc + 1) L (.int v :: S) μ) : dtW y cc nL ret d r F pc L (.int i :: .ref 1000001 :: S) μ := by
  obtain ⟨h, rfl⟩ := dtIf hv
  refine ⟨k.1, ?_⟩
  intro p l e R s m args below meth c Q D E base N0 Z0 K H locs ls hm hs h1 h2 hL
  exact va_ti (A := dtO base) K.1 K.2.1 K.st.2.2.2.1.2 hs h rfl hd (k.2 p l e R s m args below meth c Q D E base N0 Z0 K H locs ls hm hs h1 h2 hL)
theorem dr_ldcS0 (hd : decode cc pc = .ok (.ldc 70, 2)) (ho : y.cls = RX8) (k : dtW y cc nL ret d r F (pc + 2) L (.ref 1000002 :: S) μ) : dtW y cc nL ret d r F pc L S μ := by
  refine ⟨k.1, ?_⟩
  intro p l e R s m args below meth c Q D E base N0 Z0 K H locs ls hm hs h1 h2 hL
  exact va_ldcS (own := RX8) K.1 K.2.1 (ho ▸ K.2.2.2.1) K.st.2.2.2.2.1.2.1 hd (k.2 p l e R s m args below meth c Q D E base N0 Z0 K H locs ls hm hs h1 h2 hL)
theorem dr_ldcS1 (hd : decode cc pc = .ok (.ldc 186, 2)) (ho : y.cls = RX12) (k : dtW y cc nL ret d r F (pc + 2) L (.ref 1000003 :: S) μ) : dtW y cc nL ret d r F pc L S μ := by
  refine ⟨k.1, ?_⟩
  intro p l e R s m args below meth c Q D E base N0 Z0 K H locs ls hm hs h1 h2 hL
  exact va_ldcS (own := RX12) K.1 K.2.1 (ho ▸ K.2.2.2.1) K.st.2.2.2.2.1.2.2 hd (k.2 p l e R s m args below meth c Q D E base N0 Z0 K H locs ls hm hs h1 h2 hL)
/-- COMPACT_STRINGS -/
theorem dr_xcs {idx : Nat} (hd : decode cc pc = .ok (.getstatic idx, 3)) (hlk : Cond.fieldLink y.cls idx "java/lang/String" "COMPACT_STRINGS" "Z" ∈ dtWT) (k : dtW y cc nL ret d r F (pc + 3) L (.int 1 :: S) μ) : dtW y cc nL ret d r F pc L S μ := by
  refine ⟨k.1, ?_⟩
  intro p l e R s m args below meth c Q D E base N0 Z0 K H locs ls hm hs h1 h2 hL
  exact va_gets (A := dtO base) K.1 K.2.1 K.st.2.2.2.2.2.1 hs K.2.2.2.1 (K.2.2.2.2.1 _ hlk) (fun _ h => h) hd (k.2 p l e R s m args below meth c Q D E base N0 Z0 K H locs ls hm hs h1 h2 hL)
theorem dr_xfm {idx : Nat} (hd : decode cc pc = .ok (.getstatic idx, 3)) (hlk : Cond.fieldLink y.cls idx "jdk/internal/util/Preconditions" "SIOOBE_FORMATTER" "Ljava/util/function/BiFunction;" ∈ dtWT) (k : dtW y cc nL ret d r F (pc + 3) L (.ref 1000004 :: S) μ) : dtW y cc nL ret d r F pc L S μ := by
  refine ⟨k.1, ?_⟩
  intro p l e R s m args below meth c Q D E base N0 Z0 K H locs ls hm hs h1 h2 hL
  exact va_gets (A := dtO base) K.1 K.2.1 K.st.2.2.2.2.2.2.1 hs K.2.2.2.1 (K.2.2.2.2.1 _ hlk) (fun _ h => h) hd (k.2 p l e R s m args below meth c Q D E base N0 Z0 K H locs ls hm hs h1 h2 hL)
theorem dtA_s {E : dtE} {base i : Nat} (hi : i < 2) : dtV E base (.ref (1000002 + i)) = .ref (E.2.2.2.1 i) ∧ dtV E base (.ref (1000012 + i)) = .ref (E.2.2.2.2.1 i) := by
  rcases (by omega : i = 0 ∨ i = 1) with rfl | rfl <;> exact ⟨rfl, rfl⟩
theorem dr_xval {idx i : Nat} (hi : i < 2) (hd : decode cc pc = .ok (.getfield idx, 3)) (hlk : Cond.fieldLink y.cls idx "java/lang/String" "value" "[B" ∈ dtWT) (k : dtW y cc nL ret d r F (pc + 3) L (.ref (1000012 + i) :: S) μ) : dtW y cc nL ret d r F pc L (.ref (1000002 + i) :: S) μ := by
  refine ⟨k.1, ?_⟩
  intro p l e R s m args below meth c Q D E base N0 Z0 K H locs ls hm hs h1 h2 hL
  have kk := k.2 p l e R s m args below meth c Q D E base N0 Z0 K H locs ls hm hs h1 h2 hL
  rw [List.map_cons, (dtA_s hi).2] at kk
  rw [List.map_cons, (dtA_s hi).1]
  exact vk_getf (A := dtO base) K.1 K.2.1 (K.st.2.2.2.2.1.1.1 i hi).2.2.1 hs K.2.2.2.1 (K.2.2.2.2.1 _ hlk) (fun _ h => h) hd kk
theorem dr_xcod {idx i : Nat} (hi : i < 2) (hd : decode cc pc = .ok (.getfield idx, 3)) (hlk : Cond.fieldLink y.cls idx "java/lang/String" "coder" "B" ∈ dtWT) (k : dtW y cc nL ret d r F (pc + 3) L (.int 0 :: S) μ) : dtW y cc nL ret d r F pc L (.ref (1000002 + i) :: S) μ := by
  refine ⟨k.1, ?_⟩
  intro p l e R s m args below meth c Q D E base N0 Z0 K H locs ls hm hs h1 h2 hL
  have kk := k.2 p l e R s m args below meth c Q D E base N0 Z0 K H locs ls hm hs h1 h2 hL
  rw [List.map_cons, (dtA_s hi).1]
  exact vk_getf (A := dtO base) K.1 K.2.1 (K.st.2.2.2.2.1.1.1 i hi).2.1 hs K.2.2.2.1 (K.2.2.2.2.1 _ hlk) (fun _ h => h) hd kk
theorem dtTxt_len {i : Nat} (hi : i < 2) : ([123, 124] : List Nat).getD i 0 = 123 + i ∧ ([dtTxt0, dtTxt1] : List (List Int32)).getD i [] = dtTxt i := by
  rcases (by omega : i = 0 ∨ i = 1) with rfl | rfl <;> exact ⟨rfl, rfl⟩
theorem dr_xlen {i : Nat} (hi : i < 2) (hd : decode cc pc = .ok (.arraylength, 1)) (k : dtW y cc nL ret d r F (pc + 1) L (.int (Int32.ofNat (123 + i)) :: S) μ) : dtW y cc nL ret d r F pc L (.ref (1000012 + i) :: S) μ := by
  refine ⟨k.1, ?_⟩
  intro p l e R s m args below meth c Q D E base N0 Z0 K H locs ls hm hs h1 h2 hL
  have kk := k.2 p l e R s m args below meth c Q D E base N0 Z0 K H locs ls hm hs h1 h2 hL
  have hT := (K.st.2.2.2.2.1.1.1 i hi).2.2.2
  rw [(dtTxt_len hi).1] at hT
  rw [List.map_cons, (dtA_s hi).2]
  exact va_tlen (A := dtO base) K.1 K.2.1 hT hs rfl hd kk
theorem dr_xbld {i : Nat} {j : Int32} (hi : i < 2) (hj : ¬ (j < 0 ∨ 123 + i ≤ j.toNatClampNeg)) (hd : decode cc pc = .ok (.baload, 1)) (k : dtW y cc nL ret d r F (pc + 1) L (.int ((dtTxt i).getD j.toNatClampNeg 0) :: S) μ) : dtW y cc nL ret d r F pc L (.int j :: .ref (1000012 + i) :: S) μ := by
  refine ⟨k.1, ?_⟩
  intro p l e R s m args below meth c Q D E base N0 Z0 K H locs ls hm hs h1 h2 hL
  have kk := k.2 p l e R s m args below meth c Q D E base N0 Z0 K H locs ls hm hs h1 h2 hL
  have hT := (K.st.2.2.2.2.1.1.1 i hi).2.2.2
  rw [(dtTxt_len hi).1, (dtTxt_len hi).2] at hT
  rw [List.map_cons, List.map_cons, (dtA_s hi).2]
  exact va_tb (A := dtO base) K.1 K.2.1 hT hs hj rfl hd kk
/-- a call of a text's own method -/
theorem dr_callX {x : MethodName} {code : ByteArray} {maxL dx np idx i : Nat} {rt : Option FieldType} {v : Int32} (As : List Value) (hi : i < 2) (hd : decode cc pc = .ok (.invokevirtual idx, 3)) (hM : dtMet x code maxL rt dx (.ref (1000002 + i) :: As) μ (some (.int v)) μ) (hmf : dtMF x code maxL rt np) (hin : Cond.instanceMethod x ∈ dtWT) (hsel : Cond.selects x.cls x x ∈ dtWT) (hlk : Cond.methodLink y.cls idx x ∈ dtWT) (hnp : As.length = np) (hcls : x.cls = "java/lang/String") (hdx : dx + 1 ≤ d) (hml : Nat.ble maxL 21 = true) (hsum : Nat.ble ((S0.map fun v => v.category).sum) 8 = true) (k : dtW y cc nL ret d r F (pc + 3) L (.int v :: S0) μ) : dtW y cc nL ret d r F pc L (As.reverse ++ .ref (1000002 + i) :: S0) μ := by
  have hbk := k.1
  have hml' := Nat.le_of_ble_eq_true hml
  have hMM : dtN μ ≤ dtN μ ∧ dtZ μ ≤ dtZ μ := ⟨hM.1, hM.2.1⟩
  refine ⟨k.1, ?_⟩
  intro p l e R s m args below meth c Q D E base N0 Z0 K H locs ls hm hs h1 h2 hL T hT X
  have hsz := dtSize hm hs K.2.2.2.2.2.2.2.2.2.2.1 h1 hT X
  have hr := dtRoom (maxL := maxL) K.2.2.2.2.2.2.2.2.1 hdx hml' h1 h2 hMM hbk
  have hsum' : 2 * (F0 m pc ls ([] : List Value)).monitorRoom + ((S0.map (dtV E base)).map fun v => v.category).sum ≤ 8 := lv_room (by rw [dtV_sum K.nul]; exact Nat.le_of_ble_eq_true hsum)
  have hMet := hM.2.2 l D E base
  have hav : (Value.ref (1000002 + i) :: As).map (dtV E base) = .ref (E.2.2.2.1 i) :: As.map (dtV E base) := by rw [List.map_cons, (dtA_s hi).1]
  have hpre : PreS s H (dtPc D E base (.ref (1000002 + i) :: As) μ) (.ref (E.2.2.2.1 i) :: As.map (dtV E base)) := hav ▸ dtPre K.st hm hs hsz
  have hrc : ∃ cell : Cell, H[E.2.2.2.1 i]? = some cell ∧ cell.vm.isStatics = false ∧ s.vm.findClass x.cls = some cell.cls := hcls ▸ vk_recv (A := dtO base) K.st.2.2.2.2.1.1 hi hs
  have hstk : (As.reverse ++ .ref (1000002 + i) :: S0).map (dtV E base) = (As.map (dtV E base)).reverse ++ .ref (E.2.2.2.1 i) :: S0.map (dtV E base) := by rw [List.map_append, List.map_reverse, List.map_cons, (dtA_s hi).1]
  rw [hstk]
  refine dtBack (rv := some (.int v)) k hMM K hs h1 h2 hL hT X (va_runV (As := As.map (dtV E base)) (rest := S0.map (dtV E base)) ⟨K.1, K.2.1, K.2.2.1, K.2.2.2.1, K.2.2.2.2.1⟩ hMet ⟨⟨rfl, rfl, hr.1.1, hr.1.2, pay_in K.2.2.2.2.1 (dtWT_in hmf.1), List.mem_cons_self, K.2.2.2.2.1 _ hmf.1, K.2.2.2.2.1 _ hmf.2.1, hmf.2.2.1, fun sig h => by have h2 := hmf.2.2.2; rw [h] at h2; exact (Option.some.inj h2).symm, K.2.2.2.2.1 _ hlk⟩, K.2.2.2.2.1 _ hin, K.2.2.2.2.1 _ hsel⟩ ⟨hpre.1, hrc, hpre.2⟩ rfl (by rw [List.length_map]; exact hnp) hL.1 rfl hsum' hd hr.2)
end GX
theorem fl_RX0_9 : dtFL RX0 9 0 3 3 := ⟨wt_207, rfl, by decide, by decide⟩
theorem fl_RX0_15 : dtFL RX0 15 0 4 3 := ⟨wt_210, rfl, by decide, by decide⟩
theorem fl_RX0_18 : dtFL RX0 18 0 5 3 := ⟨wt_213, rfl, by decide, by decide⟩
theorem fl_RX0_21 : dtFL RX0 21 0 6 3 := ⟨wt_216, rfl, by decide, by decide⟩
theorem fl_RX0_24 : dtFL RX0 24 0 7 3 := ⟨wt_219, rfl, by decide, by decide⟩
theorem fl_RX0_27 : dtFL RX0 27 0 8 3 := ⟨wt_222, rfl, by decide, by decide⟩
theorem fl_RX0_30 : dtFL RX0 30 0 0 1 := ⟨wt_199, rfl, by decide, by decide⟩
theorem fl_RX0_34 : dtFL RX0 34 0 1 0 := ⟨wt_202, rfl, by decide, by decide⟩
theorem fl_RX0_38 : dtFL RX0 38 0 2 0 := ⟨wt_205, rfl, by decide, by decide⟩
theorem fl_RX8_9 : dtFL RX8 9 8 0 3 := ⟨wt_258, rfl, by decide, by decide⟩
theorem fl_RX1_12 : dtFL RX1 12 1 0 3 := ⟨wt_313, rfl, by decide, by decide⟩
theorem fl_RX1_18 : dtFL RX1 18 1 1 3 := ⟨wt_315, rfl, by decide, by decide⟩
theorem fl_RX8_37 : dtFL RX8 37 8 2 0 := ⟨wt_260, rfl, by decide, by decide⟩
theorem fl_RX8_25 : dtFL RX8 25 8 3 0 := ⟨wt_261, rfl, by decide, by decide⟩
theorem fl_RX8_21 : dtFL RX8 21 8 1 0 := ⟨wt_259, rfl, by decide, by decide⟩
theorem fl_RX8_43 : dtFL RX8 43 8 5 0 := ⟨wt_263, rfl, by decide, by decide⟩
theorem fl_RX8_40 : dtFL RX8 40 8 4 0 := ⟨wt_262, rfl, by decide, by decide⟩
theorem fl_RX8_46 : dtFL RX8 46 8 6 0 := ⟨wt_266, rfl, by decide, by decide⟩
theorem fl_RX8_49 : dtFL RX8 49 8 7 2 := ⟨wt_267, rfl, by decide, by decide⟩
theorem fl_RX8_28 : dtFL RX8 28 8 8 0 := ⟨wt_269, rfl, by decide, by decide⟩
theorem fl_RX8_31 : dtFL RX8 31 8 9 0 := ⟨wt_271, rfl, by decide, by decide⟩
theorem fl_RX1_39 : dtFL RX1 39 8 6 0 := ⟨wt_265, rfl, by decide, by decide⟩
theorem fl_RX1_82 : dtFL RX1 82 0 1 0 := ⟨wt_203, rfl, by decide, by decide⟩
theorem fl_RX1_27 : dtFL RX1 27 1 2 0 := ⟨wt_316, rfl, by decide, by decide⟩
theorem fl_RX1_73 : dtFL RX1 73 0 8 3 := ⟨wt_224, rfl, by decide, by decide⟩
theorem fl_RX1_144 : dtFL RX1 144 0 7 3 := ⟨wt_221, rfl, by decide, by decide⟩
theorem fl_RX1_131 : dtFL RX1 131 0 6 3 := ⟨wt_218, rfl, by decide, by decide⟩
theorem fl_RX1_117 : dtFL RX1 117 0 5 3 := ⟨wt_215, rfl, by decide, by decide⟩
theorem fl_RX1_120 : dtFL RX1 120 3 8 3 := ⟨wt_120, rfl, by decide, by decide⟩
theorem fl_RX1_124 : dtFL RX1 124 3 3 0 := ⟨wt_103, rfl, by decide, by decide⟩
theorem fl_RX1_89 : dtFL RX1 89 0 3 3 := ⟨wt_209, rfl, by decide, by decide⟩
theorem fl_RX1_95 : dtFL RX1 95 3 1 0 := ⟨wt_93, rfl, by decide, by decide⟩
theorem fl_RX1_134 : dtFL RX1 134 3 7 3 := ⟨wt_118, rfl, by decide, by decide⟩
theorem fl_RX1_137 : dtFL RX1 137 3 0 0 := ⟨wt_87, rfl, by decide, by decide⟩
theorem fl_RX1_108 : dtFL RX1 108 0 4 3 := ⟨wt_212, rfl, by decide, by decide⟩
theorem fl_RX1_61 : dtFL RX1 61 0 0 1 := ⟨wt_200, rfl, by decide, by decide⟩
theorem fl_RX2_9 : dtFL RX2 9 2 0 3 := ⟨wt_330, rfl, by decide, by decide⟩
theorem fl_RX2_20 : dtFL RX2 20 3 1 0 := ⟨wt_91, rfl, by decide, by decide⟩
theorem fl_RX2_26 : dtFL RX2 26 3 5 0 := ⟨wt_109, rfl, by decide, by decide⟩
theorem fl_RX2_29 : dtFL RX2 29 3 11 3 := ⟨wt_129, rfl, by decide, by decide⟩
theorem fl_RX2_38 : dtFL RX2 38 3 9 3 := ⟨wt_123, rfl, by decide, by decide⟩
theorem fl_RX2_41 : dtFL RX2 41 3 10 3 := ⟨wt_126, rfl, by decide, by decide⟩
theorem fl_RX2_51 : dtFL RX2 51 3 14 3 := ⟨wt_136, rfl, by decide, by decide⟩
theorem fl_RX2_54 : dtFL RX2 54 3 15 3 := ⟨wt_140, rfl, by decide, by decide⟩
theorem fl_RX3_22 : dtFL RX3 22 3 9 3 := ⟨wt_122, rfl, by decide, by decide⟩
theorem fl_RX3_26 : dtFL RX3 26 3 10 3 := ⟨wt_125, rfl, by decide, by decide⟩
theorem fl_RX2_60 : dtFL RX2 60 3 3 0 := ⟨wt_101, rfl, by decide, by decide⟩
theorem fl_RX3_65 : dtFL RX3 65 3 5 0 := ⟨wt_108, rfl, by decide, by decide⟩
theorem fl_RX10_15 : dtFL RX10 15 3 1 0 := ⟨wt_90, rfl, by decide, by decide⟩
theorem fl_RX3_47 : dtFL RX3 47 3 17 3 := ⟨wt_146, rfl, by decide, by decide⟩
theorem fl_RX3_50 : dtFL RX3 50 3 18 3 := ⟨wt_150, rfl, by decide, by decide⟩
theorem fl_RX2_89 : dtFL RX2 89 3 6 0 := ⟨wt_114, rfl, by decide, by decide⟩
theorem fl_RX3_9 : dtFL RX3 9 3 4 0 := ⟨wt_105, rfl, by decide, by decide⟩
theorem fl_RX3_15 : dtFL RX3 15 3 7 3 := ⟨wt_116, rfl, by decide, by decide⟩
theorem fl_RX3_19 : dtFL RX3 19 3 8 3 := ⟨wt_119, rfl, by decide, by decide⟩
theorem fl_RX3_29 : dtFL RX3 29 3 11 3 := ⟨wt_128, rfl, by decide, by decide⟩
theorem fl_RX3_32 : dtFL RX3 32 3 12 3 := ⟨wt_131, rfl, by decide, by decide⟩
theorem fl_RX3_35 : dtFL RX3 35 3 13 3 := ⟨wt_134, rfl, by decide, by decide⟩
theorem fl_RX3_38 : dtFL RX3 38 3 14 3 := ⟨wt_135, rfl, by decide, by decide⟩
theorem fl_RX3_41 : dtFL RX3 41 3 15 3 := ⟨wt_139, rfl, by decide, by decide⟩
theorem fl_RX3_44 : dtFL RX3 44 3 16 3 := ⟨wt_143, rfl, by decide, by decide⟩
theorem fl_RX3_53 : dtFL RX3 53 3 0 0 := ⟨wt_84, rfl, by decide, by decide⟩
theorem fl_RX3_56 : dtFL RX3 56 3 1 0 := ⟨wt_89, rfl, by decide, by decide⟩
theorem fl_RX3_59 : dtFL RX3 59 3 2 0 := ⟨wt_96, rfl, by decide, by decide⟩
theorem fl_RX3_62 : dtFL RX3 62 3 3 0 := ⟨wt_100, rfl, by decide, by decide⟩
theorem fl_RX3_68 : dtFL RX3 68 3 6 0 := ⟨wt_113, rfl, by decide, by decide⟩
theorem fl_RX4_12 : dtFL RX4 12 4 0 3 := ⟨wt_294, rfl, by decide, by decide⟩
theorem fl_RX4_18 : dtFL RX4 18 4 1 3 := ⟨wt_296, rfl, by decide, by decide⟩
theorem fl_RX4_39 : dtFL RX4 39 8 6 0 := ⟨wt_264, rfl, by decide, by decide⟩
theorem fl_RX4_88 : dtFL RX4 88 3 1 0 := ⟨wt_92, rfl, by decide, by decide⟩
theorem fl_RX4_91 : dtFL RX4 91 3 7 3 := ⟨wt_117, rfl, by decide, by decide⟩
theorem fl_RX4_77 : dtFL RX4 77 3 0 0 := ⟨wt_85, rfl, by decide, by decide⟩
theorem fl_RX4_27 : dtFL RX4 27 4 2 1 := ⟨wt_297, rfl, by decide, by decide⟩
theorem fl_RX4_70 : dtFL RX4 70 3 4 0 := ⟨wt_106, rfl, by decide, by decide⟩
theorem fl_RX4_108 : dtFL RX4 108 3 2 0 := ⟨wt_97, rfl, by decide, by decide⟩
theorem fl_RX4_172 : dtFL RX4 172 3 8 3 := ⟨wt_121, rfl, by decide, by decide⟩
theorem fl_RX4_137 : dtFL RX4 137 3 3 0 := ⟨wt_102, rfl, by decide, by decide⟩
theorem fl_RX4_165 : dtFL RX4 165 8 7 2 := ⟨wt_268, rfl, by decide, by decide⟩
theorem fl_RX4_148 : dtFL RX4 148 3 15 3 := ⟨wt_141, rfl, by decide, by decide⟩
theorem fl_RX4_152 : dtFL RX4 152 3 16 3 := ⟨wt_144, rfl, by decide, by decide⟩
theorem fl_RX5_9 : dtFL RX5 9 5 0 3 := ⟨wt_340, rfl, by decide, by decide⟩
theorem fl_RX5_15 : dtFL RX5 15 5 2 3 := ⟨wt_342, rfl, by decide, by decide⟩
theorem fl_RX5_18 : dtFL RX5 18 5 3 3 := ⟨wt_343, rfl, by decide, by decide⟩
theorem fl_RX5_21 : dtFL RX5 21 5 1 0 := ⟨wt_341, rfl, by decide, by decide⟩
theorem fl_RX5_25 : dtFL RX5 25 3 12 3 := ⟨wt_132, rfl, by decide, by decide⟩
theorem fl_RX5_41 : dtFL RX5 41 3 17 3 := ⟨wt_147, rfl, by decide, by decide⟩
theorem fl_RX5_44 : dtFL RX5 44 3 18 3 := ⟨wt_151, rfl, by decide, by decide⟩
theorem fl_RX5_47 : dtFL RX5 47 3 2 0 := ⟨wt_98, rfl, by decide, by decide⟩
theorem fl_RX6_9 : dtFL RX6 9 6 0 3 := ⟨wt_369, rfl, by decide, by decide⟩
theorem fl_RX6_21 : dtFL RX6 21 6 1 0 := ⟨wt_370, rfl, by decide, by decide⟩
theorem fl_RX6_85 : dtFL RX6 85 3 17 3 := ⟨wt_148, rfl, by decide, by decide⟩
theorem fl_RX6_33 : dtFL RX6 33 6 6 0 := ⟨wt_379, rfl, by decide, by decide⟩
theorem fl_RX6_30 : dtFL RX6 30 6 5 0 := ⟨wt_377, rfl, by decide, by decide⟩
theorem fl_RX6_78 : dtFL RX6 78 0 5 3 := ⟨wt_214, rfl, by decide, by decide⟩
theorem fl_RX6_69 : dtFL RX6 69 0 6 3 := ⟨wt_217, rfl, by decide, by decide⟩
theorem fl_RX6_46 : dtFL RX6 46 0 3 3 := ⟨wt_208, rfl, by decide, by decide⟩
theorem fl_RX6_116 : dtFL RX6 116 3 1 0 := ⟨wt_94, rfl, by decide, by decide⟩
theorem fl_RX6_94 : dtFL RX6 94 0 7 3 := ⟨wt_220, rfl, by decide, by decide⟩
theorem fl_RX6_62 : dtFL RX6 62 0 8 3 := ⟨wt_223, rfl, by decide, by decide⟩
theorem fl_RX6_72 : dtFL RX6 72 0 4 3 := ⟨wt_211, rfl, by decide, by decide⟩
theorem fl_RX6_75 : dtFL RX6 75 3 14 3 := ⟨wt_137, rfl, by decide, by decide⟩
theorem fl_RX6_41 : dtFL RX6 41 0 2 0 := ⟨wt_206, rfl, by decide, by decide⟩
theorem fl_RX6_15 : dtFL RX6 15 3 6 0 := ⟨wt_112, rfl, by decide, by decide⟩
theorem fl_RX6_36 : dtFL RX6 36 6 7 1 := ⟨wt_381, rfl, by decide, by decide⟩
theorem fl_RX6_24 : dtFL RX6 24 6 2 0 := ⟨wt_371, rfl, by decide, by decide⟩
theorem fl_RX6_27 : dtFL RX6 27 6 3 0 := ⟨wt_373, rfl, by decide, by decide⟩
theorem fl_RX6_61 : dtFL RX6 61 6 4 0 := ⟨wt_375, rfl, by decide, by decide⟩
theorem fl_RX7_9 : dtFL RX7 9 7 0 3 := ⟨wt_60, rfl, by decide, by decide⟩
theorem fl_RX7_15 : dtFL RX7 15 7 2 0 := ⟨wt_64, rfl, by decide, by decide⟩
theorem fl_RX7_19 : dtFL RX7 19 7 3 0 := ⟨wt_66, rfl, by decide, by decide⟩
theorem fl_RX7_22 : dtFL RX7 22 7 1 0 := ⟨wt_62, rfl, by decide, by decide⟩
theorem fl_RX7_25 : dtFL RX7 25 8 8 0 := ⟨wt_270, rfl, by decide, by decide⟩
theorem fl_RX7_30 : dtFL RX7 30 8 9 0 := ⟨wt_272, rfl, by decide, by decide⟩
theorem fl_RX9_9 : dtFL RX9 9 9 3 3 := ⟨wt_42, rfl, by decide, by decide⟩
theorem fl_RX9_15 : dtFL RX9 15 9 0 1 := ⟨wt_36, rfl, by decide, by decide⟩
theorem fl_RX9_19 : dtFL RX9 19 9 1 0 := ⟨wt_38, rfl, by decide, by decide⟩
theorem fl_RX9_23 : dtFL RX9 23 9 2 0 := ⟨wt_40, rfl, by decide, by decide⟩
theorem fl_RX10_9 : dtFL RX10 9 10 0 3 := ⟨wt_359, rfl, by decide, by decide⟩
theorem fl_RX10_33 : dtFL RX10 33 3 5 0 := ⟨wt_110, rfl, by decide, by decide⟩
theorem fl_RX10_43 : dtFL RX10 43 3 0 0 := ⟨wt_86, rfl, by decide, by decide⟩
theorem fl_RX11_107 : dtFL RX11 107 11 18 3 := ⟨wt_418, rfl, by decide, by decide⟩
theorem fl_RX11_54 : dtFL RX11 54 11 9 3 := ⟨wt_409, rfl, by decide, by decide⟩
theorem fl_RX11_58 : dtFL RX11 58 11 10 3 := ⟨wt_410, rfl, by decide, by decide⟩
theorem fl_RX11_22 : dtFL RX11 22 11 3 3 := ⟨wt_403, rfl, by decide, by decide⟩
theorem fl_RX11_7 : dtFL RX11 7 11 0 0 := ⟨wt_400, rfl, by decide, by decide⟩
theorem fl_RX11_13 : dtFL RX11 13 11 1 2 := ⟨wt_401, rfl, by decide, by decide⟩
theorem fl_RX11_17 : dtFL RX11 17 11 2 2 := ⟨wt_402, rfl, by decide, by decide⟩
theorem fl_RX11_30 : dtFL RX11 30 11 4 3 := ⟨wt_404, rfl, by decide, by decide⟩
theorem fl_RX11_37 : dtFL RX11 37 11 5 3 := ⟨wt_405, rfl, by decide, by decide⟩
theorem fl_RX11_41 : dtFL RX11 41 11 6 3 := ⟨wt_406, rfl, by decide, by decide⟩
theorem fl_RX11_47 : dtFL RX11 47 11 7 3 := ⟨wt_407, rfl, by decide, by decide⟩
theorem fl_RX11_51 : dtFL RX11 51 11 8 3 := ⟨wt_408, rfl, by decide, by decide⟩
theorem fl_RX11_62 : dtFL RX11 62 11 11 0 := ⟨wt_411, rfl, by decide, by decide⟩
theorem fl_RX11_68 : dtFL RX11 68 11 12 3 := ⟨wt_412, rfl, by decide, by decide⟩
theorem fl_RX11_75 : dtFL RX11 75 11 13 3 := ⟨wt_413, rfl, by decide, by decide⟩
theorem fl_RX11_82 : dtFL RX11 82 11 14 3 := ⟨wt_414, rfl, by decide, by decide⟩
theorem fl_RX11_89 : dtFL RX11 89 11 15 3 := ⟨wt_415, rfl, by decide, by decide⟩
theorem fl_RX11_96 : dtFL RX11 96 11 16 3 := ⟨wt_416, rfl, by decide, by decide⟩
theorem fl_RX11_103 : dtFL RX11 103 11 17 3 := ⟨wt_417, rfl, by decide, by decide⟩
theorem fl_RX11_146 : dtFL RX11 146 9 0 1 := ⟨wt_37, rfl, by decide, by decide⟩
theorem fl_RX11_435 : dtFL RX11 435 9 2 0 := ⟨wt_41, rfl, by decide, by decide⟩
theorem fl_RX11_142 : dtFL RX11 142 9 3 3 := ⟨wt_43, rfl, by decide, by decide⟩
theorem fl_RX11_150 : dtFL RX11 150 9 1 0 := ⟨wt_39, rfl, by decide, by decide⟩
theorem fl_RX11_163 : dtFL RX11 163 7 1 0 := ⟨wt_63, rfl, by decide, by decide⟩
theorem fl_RX11_170 : dtFL RX11 170 7 0 3 := ⟨wt_61, rfl, by decide, by decide⟩
theorem fl_RX11_178 : dtFL RX11 178 4 0 3 := ⟨wt_295, rfl, by decide, by decide⟩
theorem fl_RX11_189 : dtFL RX11 189 3 3 0 := ⟨wt_104, rfl, by decide, by decide⟩
theorem fl_RX11_198 : dtFL RX11 198 1 0 3 := ⟨wt_314, rfl, by decide, by decide⟩
theorem fl_RX11_199 : dtFL RX11 199 0 1 0 := ⟨wt_204, rfl, by decide, by decide⟩
theorem fl_RX11_205 : dtFL RX11 205 7 3 0 := ⟨wt_67, rfl, by decide, by decide⟩
theorem fl_RX11_202 : dtFL RX11 202 7 2 0 := ⟨wt_65, rfl, by decide, by decide⟩
theorem fl_RX11_223 : dtFL RX11 223 3 6 0 := ⟨wt_115, rfl, by decide, by decide⟩
theorem fl_RX11_220 : dtFL RX11 220 3 5 0 := ⟨wt_111, rfl, by decide, by decide⟩
theorem fl_RX11_217 : dtFL RX11 217 3 4 0 := ⟨wt_107, rfl, by decide, by decide⟩
theorem fl_RX11_214 : dtFL RX11 214 3 2 0 := ⟨wt_99, rfl, by decide, by decide⟩
theorem fl_RX11_211 : dtFL RX11 211 3 1 0 := ⟨wt_95, rfl, by decide, by decide⟩
theorem fl_RX11_208 : dtFL RX11 208 3 0 0 := ⟨wt_88, rfl, by decide, by decide⟩
theorem fl_RX11_235 : dtFL RX11 235 3 11 3 := ⟨wt_130, rfl, by decide, by decide⟩
theorem fl_RX11_232 : dtFL RX11 232 3 10 3 := ⟨wt_127, rfl, by decide, by decide⟩
theorem fl_RX11_229 : dtFL RX11 229 3 9 3 := ⟨wt_124, rfl, by decide, by decide⟩
theorem fl_RX11_244 : dtFL RX11 244 3 12 3 := ⟨wt_133, rfl, by decide, by decide⟩
theorem fl_RX11_262 : dtFL RX11 262 3 17 3 := ⟨wt_149, rfl, by decide, by decide⟩
theorem fl_RX11_259 : dtFL RX11 259 3 16 3 := ⟨wt_145, rfl, by decide, by decide⟩
theorem fl_RX11_256 : dtFL RX11 256 3 15 3 := ⟨wt_142, rfl, by decide, by decide⟩
theorem fl_RX11_253 : dtFL RX11 253 3 14 3 := ⟨wt_138, rfl, by decide, by decide⟩
theorem fl_RX11_265 : dtFL RX11 265 3 18 3 := ⟨wt_152, rfl, by decide, by decide⟩
theorem fl_RX11_407 : dtFL RX11 407 0 0 1 := ⟨wt_201, rfl, by decide, by decide⟩
theorem fl_RX11_412 : dtFL RX11 412 6 3 0 := ⟨wt_374, rfl, by decide, by decide⟩
theorem fl_RX11_415 : dtFL RX11 415 6 4 0 := ⟨wt_376, rfl, by decide, by decide⟩
theorem fl_RX11_416 : dtFL RX11 416 6 5 0 := ⟨wt_378, rfl, by decide, by decide⟩
theorem fl_RX11_419 : dtFL RX11 419 6 6 0 := ⟨wt_380, rfl, by decide, by decide⟩
theorem fl_RX11_422 : dtFL RX11 422 6 7 1 := ⟨wt_382, rfl, by decide, by decide⟩
theorem fl_RX11_425 : dtFL RX11 425 6 2 0 := ⟨wt_372, rfl, by decide, by decide⟩
theorem fl_RX12_7 : dtFL RX12 7 12 0 3 := ⟨wt_1347, rfl, by decide, by decide⟩
theorem fl_RX12_13 : dtFL RX12 13 12 1 3 := ⟨wt_1348, rfl, by decide, by decide⟩
theorem fl_RX12_17 : dtFL RX12 17 12 4 2 := ⟨wt_1351, rfl, by decide, by decide⟩
theorem fl_RX12_21 : dtFL RX12 21 12 5 3 := ⟨wt_1352, rfl, by decide, by decide⟩
theorem fl_RX12_24 : dtFL RX12 24 12 6 3 := ⟨wt_1353, rfl, by decide, by decide⟩
theorem fl_RX12_27 : dtFL RX12 27 12 7 3 := ⟨wt_1354, rfl, by decide, by decide⟩
theorem fl_RX12_30 : dtFL RX12 30 12 8 3 := ⟨wt_1355, rfl, by decide, by decide⟩
theorem fl_RX12_34 : dtFL RX12 34 12 9 3 := ⟨wt_1356, rfl, by decide, by decide⟩
theorem fl_RX12_37 : dtFL RX12 37 12 16 0 := ⟨wt_1363, rfl, by decide, by decide⟩
theorem fl_RX12_41 : dtFL RX12 41 12 17 0 := ⟨wt_1364, rfl, by decide, by decide⟩
theorem fl_RX12_44 : dtFL RX12 44 12 21 3 := ⟨wt_1368, rfl, by decide, by decide⟩
theorem fl_RX12_47 : dtFL RX12 47 12 24 3 := ⟨wt_1371, rfl, by decide, by decide⟩
theorem fl_RX12_50 : dtFL RX12 50 12 25 3 := ⟨wt_1372, rfl, by decide, by decide⟩
theorem fl_RX12_53 : dtFL RX12 53 12 26 3 := ⟨wt_1373, rfl, by decide, by decide⟩
theorem fl_RX12_56 : dtFL RX12 56 12 28 3 := ⟨wt_1375, rfl, by decide, by decide⟩
theorem fl_RX12_59 : dtFL RX12 59 12 29 3 := ⟨wt_1376, rfl, by decide, by decide⟩
theorem fl_RX12_62 : dtFL RX12 62 12 30 3 := ⟨wt_1377, rfl, by decide, by decide⟩
theorem fl_RX12_65 : dtFL RX12 65 12 31 3 := ⟨wt_1378, rfl, by decide, by decide⟩
theorem fl_RX12_68 : dtFL RX12 68 12 32 3 := ⟨wt_1379, rfl, by decide, by decide⟩
theorem fl_RX12_71 : dtFL RX12 71 12 33 3 := ⟨wt_1380, rfl, by decide, by decide⟩
theorem fl_RX12_74 : dtFL RX12 74 12 36 3 := ⟨wt_1383, rfl, by decide, by decide⟩
theorem fl_RX12_77 : dtFL RX12 77 12 37 3 := ⟨wt_1384, rfl, by decide, by decide⟩
theorem fl_RX12_80 : dtFL RX12 80 12 38 3 := ⟨wt_1385, rfl, by decide, by decide⟩
theorem fl_RX12_87 : dtFL RX12 87 12 2 0 := ⟨wt_1349, rfl, by decide, by decide⟩
theorem fl_RX12_90 : dtFL RX12 90 12 3 2 := ⟨wt_1350, rfl, by decide, by decide⟩
theorem fl_RX12_117 : dtFL RX12 117 12 10 0 := ⟨wt_1357, rfl, by decide, by decide⟩
theorem fl_RX12_123 : dtFL RX12 123 12 11 0 := ⟨wt_1358, rfl, by decide, by decide⟩
theorem fl_RX12_126 : dtFL RX12 126 12 14 0 := ⟨wt_1361, rfl, by decide, by decide⟩
theorem fl_RX12_132 : dtFL RX12 132 12 13 0 := ⟨wt_1360, rfl, by decide, by decide⟩
theorem fl_RX12_135 : dtFL RX12 135 12 15 0 := ⟨wt_1362, rfl, by decide, by decide⟩
theorem fl_RX12_138 : dtFL RX12 138 12 12 0 := ⟨wt_1359, rfl, by decide, by decide⟩
theorem fl_RX12_163 : dtFL RX12 163 12 18 0 := ⟨wt_1365, rfl, by decide, by decide⟩
theorem fl_RX12_166 : dtFL RX12 166 12 19 0 := ⟨wt_1366, rfl, by decide, by decide⟩
theorem fl_RX12_244 : dtFL RX12 244 12 20 0 := ⟨wt_1367, rfl, by decide, by decide⟩
theorem fl_RX12_286 : dtFL RX12 286 12 23 0 := ⟨wt_1370, rfl, by decide, by decide⟩
theorem fl_RX12_283 : dtFL RX12 283 12 22 0 := ⟨wt_1369, rfl, by decide, by decide⟩
theorem fl_RX12_376 : dtFL RX12 376 12 27 0 := ⟨wt_1374, rfl, by decide, by decide⟩
theorem fl_RX12_437 : dtFL RX12 437 12 34 0 := ⟨wt_1381, rfl, by decide, by decide⟩
theorem fl_RX12_456 : dtFL RX12 456 12 35 0 := ⟨wt_1382, rfl, by decide, by decide⟩
theorem fl_RX12_473 : dtFL RX12 473 12 39 1 := ⟨wt_1386, rfl, by decide, by decide⟩
theorem fl_RX12_479 : dtFL RX12 479 12 40 0 := ⟨wt_1387, rfl, by decide, by decide⟩
theorem mf_X8_init : dtMF yX8_init cX8_init 1 none 0 := ⟨wt_256, wt_7, ⟨by decide +kernel, by decide +kernel⟩, by decide +kernel⟩
theorem mf_X11_within : dtMF yX11_within cX11_within 3 (some .boolean) 3 := ⟨wt_479, wt_1, ⟨by decide +kernel, by decide +kernel⟩, by decide +kernel⟩
theorem mf_X8_isRunOf : dtMF yX8_isRunOf cX8_isRunOf 3 (some .boolean) 2 := ⟨wt_557, wt_7, ⟨by decide +kernel, by decide +kernel⟩, by decide +kernel⟩
theorem mf_X8_numberValue : dtMF yX8_numberValue cX8_numberValue 3 (some .int) 0 := ⟨wt_619, wt_7, ⟨by decide +kernel, by decide +kernel⟩, by decide +kernel⟩
theorem mf_X8_findKeyword : dtMF yX8_findKeyword cX8_findKeyword 6 (some .int) 0 := ⟨wt_561, wt_7, ⟨by decide +kernel, by decide +kernel⟩, by decide +kernel⟩
theorem mf_X8_nameCode : dtMF yX8_nameCode cX8_nameCode 4 (some .long) 0 := ⟨wt_614, wt_7, ⟨by decide +kernel, by decide +kernel⟩, by decide +kernel⟩
theorem mf_X1_isStepWord : dtMF yX1_isStepWord cX1_isStepWord 1 (some .boolean) 1 := ⟨wt_794, wt_8, ⟨by decide +kernel, by decide +kernel⟩, by decide +kernel⟩
theorem mf_X0_append : dtMF yX0_append cX0_append 2 (some .int) 1 := ⟨wt_785, wt_5, ⟨by decide +kernel, by decide +kernel⟩, by decide +kernel⟩
theorem mf_X8_advance : dtMF yX8_advance cX8_advance 1 none 0 := ⟨wt_553, wt_7, ⟨by decide +kernel, by decide +kernel⟩, by decide +kernel⟩
theorem mf_X8_flaw : dtMF yX8_flaw cX8_flaw 2 (some .boolean) 1 := ⟨wt_631, wt_7, ⟨by decide +kernel, by decide +kernel⟩, by decide +kernel⟩
theorem mf_X8_isSign : dtMF yX8_isSign cX8_isSign 2 (some .boolean) 1 := ⟨wt_645, wt_7, ⟨by decide +kernel, by decide +kernel⟩, by decide +kernel⟩
theorem mf_X8_passSign : dtMF yX8_passSign cX8_passSign 2 (some .boolean) 1 := ⟨wt_641, wt_7, ⟨by decide +kernel, by decide +kernel⟩, by decide +kernel⟩
theorem mf_X8_isSoundWord : dtMF yX8_isSoundWord cX8_isSoundWord 1 (some .boolean) 0 := ⟨wt_716, wt_7, ⟨by decide +kernel, by decide +kernel⟩, by decide +kernel⟩
theorem mf_X8_passSound : dtMF yX8_passSound cX8_passSound 2 (some .int) 0 := ⟨wt_720, wt_7, ⟨by decide +kernel, by decide +kernel⟩, by decide +kernel⟩
theorem mf_X8_passNumber : dtMF yX8_passNumber cX8_passNumber 4 (some .int) 2 := ⟨wt_636, wt_7, ⟨by decide +kernel, by decide +kernel⟩, by decide +kernel⟩
theorem mf_X8_isName : dtMF yX8_isName cX8_isName 1 (some .boolean) 0 := ⟨wt_657, wt_7, ⟨by decide +kernel, by decide +kernel⟩, by decide +kernel⟩
theorem mf_X8_numberOf : dtMF yX8_numberOf cX8_numberOf 4 (some .int) 2 := ⟨wt_665, wt_7, ⟨by decide +kernel, by decide +kernel⟩, by decide +kernel⟩
theorem mf_X8_findAmong : dtMF yX8_findAmong cX8_findAmong 4 (some .int) 2 := ⟨wt_681, wt_7, ⟨by decide +kernel, by decide +kernel⟩, by decide +kernel⟩
theorem mf_X8_passAmong : dtMF yX8_passAmong cX8_passAmong 4 (some .int) 2 := ⟨wt_677, wt_7, ⟨by decide +kernel, by decide +kernel⟩, by decide +kernel⟩
theorem mf_X1_readWho : dtMF yX1_readWho cX1_readWho 4 (some .boolean) 3 := ⟨wt_803, wt_8, ⟨by decide +kernel, by decide +kernel⟩, by decide +kernel⟩
theorem mf_X1_readWhat : dtMF yX1_readWhat cX1_readWhat 5 (some .boolean) 4 := ⟨wt_812, wt_8, ⟨by decide +kernel, by decide +kernel⟩, by decide +kernel⟩
theorem mf_X1_readSound : dtMF yX1_readSound cX1_readSound 3 (some .boolean) 2 := ⟨wt_826, wt_8, ⟨by decide +kernel, by decide +kernel⟩, by decide +kernel⟩
theorem mf_X1_readCompares : dtMF yX1_readCompares cX1_readCompares 3 (some .boolean) 2 := ⟨wt_817, wt_8, ⟨by decide +kernel, by decide +kernel⟩, by decide +kernel⟩
theorem mf_X1_readRoomName : dtMF yX1_readRoomName cX1_readRoomName 4 (some .boolean) 3 := ⟨wt_808, wt_8, ⟨by decide +kernel, by decide +kernel⟩, by decide +kernel⟩
theorem mf_X0_clear : dtMF yX0_clear cX0_clear 1 none 0 := ⟨wt_761, wt_5, ⟨by decide +kernel, by decide +kernel⟩, by decide +kernel⟩
theorem mf_X8_begin : dtMF yX8_begin cX8_begin 3 none 2 := ⟨wt_546, wt_7, ⟨by decide +kernel, by decide +kernel⟩, by decide +kernel⟩
theorem mf_X8_isOver : dtMF yX8_isOver cX8_isOver 1 (some .boolean) 0 := ⟨wt_623, wt_7, ⟨by decide +kernel, by decide +kernel⟩, by decide +kernel⟩
theorem mf_X1_beginStep : dtMF yX1_beginStep cX1_beginStep 6 (some .int) 1 := ⟨wt_791, wt_8, ⟨by decide +kernel, by decide +kernel⟩, by decide +kernel⟩
theorem mf_X1_readTest : dtMF yX1_readTest cX1_readTest 5 (some .boolean) 3 := ⟨wt_799, wt_8, ⟨by decide +kernel, by decide +kernel⟩, by decide +kernel⟩
theorem mf_X1_readRest : dtMF yX1_readRest cX1_readRest 4 (some .boolean) 3 := ⟨wt_822, wt_8, ⟨by decide +kernel, by decide +kernel⟩, by decide +kernel⟩
theorem mf_X1_readEnd : dtMF yX1_readEnd cX1_readEnd 3 (some .boolean) 1 := ⟨wt_780, wt_8, ⟨by decide +kernel, by decide +kernel⟩, by decide +kernel⟩
theorem mf_X2_spread : dtMF yX2_spread cX2_spread 12 none 4 := ⟨wt_902, wt_9, ⟨by decide +kernel, by decide +kernel⟩, by decide +kernel⟩
theorem mf_X3_roomsOfDoor : dtMF yX3_roomsOfDoor cX3_roomsOfDoor 2 (some .int) 1 := ⟨wt_898, wt_4, ⟨by decide +kernel, by decide +kernel⟩, by decide +kernel⟩
theorem mf_X2_comesTo : dtMF yX2_comesTo cX2_comesTo 4 (some .boolean) 3 := ⟨wt_911, wt_9, ⟨by decide +kernel, by decide +kernel⟩, by decide +kernel⟩
theorem mf_X11_contains : dtMF yX11_contains cX11_contains 2 (some .boolean) 2 := ⟨wt_749, wt_1, ⟨by decide +kernel, by decide +kernel⟩, by decide +kernel⟩
theorem mf_X10_stepOnce : dtMF yX10_stepOnce cX10_stepOnce 6 (some .int) 3 := ⟨wt_1041, wt_11, ⟨by decide +kernel, by decide +kernel⟩, by decide +kernel⟩
theorem mf_X10_reach : dtMF yX10_reach cX10_reach 6 (some .int) 3 := ⟨wt_1038, wt_11, ⟨by decide +kernel, by decide +kernel⟩, by decide +kernel⟩
theorem mf_X3_isOpen : dtMF yX3_isOpen cX3_isOpen 2 (some .boolean) 1 := ⟨wt_847, wt_4, ⟨by decide +kernel, by decide +kernel⟩, by decide +kernel⟩
theorem mf_X2_hearersOf : dtMF yX2_hearersOf cX2_hearersOf 7 (some .int) 4 := ⟨wt_894, wt_9, ⟨by decide +kernel, by decide +kernel⟩, by decide +kernel⟩
theorem mf_X3_shutDoor : dtMF yX3_shutDoor cX3_shutDoor 2 none 1 := ⟨wt_922, wt_4, ⟨by decide +kernel, by decide +kernel⟩, by decide +kernel⟩
theorem mf_X3_catchSound : dtMF yX3_catchSound cX3_catchSound 5 none 2 := ⟨wt_918, wt_4, ⟨by decide +kernel, by decide +kernel⟩, by decide +kernel⟩
theorem mf_X3_hasPerson : dtMF yX3_hasPerson cX3_hasPerson 2 (some .boolean) 1 := ⟨wt_869, wt_4, ⟨by decide +kernel, by decide +kernel⟩, by decide +kernel⟩
theorem mf_X3_hasDoor : dtMF yX3_hasDoor cX3_hasDoor 2 (some .boolean) 1 := ⟨wt_843, wt_4, ⟨by decide +kernel, by decide +kernel⟩, by decide +kernel⟩
theorem mf_X3_unshut : dtMF yX3_unshut cX3_unshut 2 none 1 := ⟨wt_696, wt_4, ⟨by decide +kernel, by decide +kernel⟩, by decide +kernel⟩
theorem mf_X3_soundOfWord : dtMF yX3_soundOfWord cX3_soundOfWord 3 (some .int) 2 := ⟨wt_738, wt_4, ⟨by decide +kernel, by decide +kernel⟩, by decide +kernel⟩
theorem mf_X3_saysTheNew : dtMF yX3_saysTheNew cX3_saysTheNew 3 (some .boolean) 1 := ⟨wt_734, wt_4, ⟨by decide +kernel, by decide +kernel⟩, by decide +kernel⟩
theorem mf_X4_readChoice : dtMF yX4_readChoice cX4_readChoice 3 (some .int) 2 := ⟨wt_688, wt_6, ⟨by decide +kernel, by decide +kernel⟩, by decide +kernel⟩
theorem mf_X3_addDoor : dtMF yX3_addDoor cX3_addDoor 5 none 4 := ⟨wt_692, wt_4, ⟨by decide +kernel, by decide +kernel⟩, by decide +kernel⟩
theorem mf_X4_isTaken : dtMF yX4_isTaken cX4_isTaken 2 (some .boolean) 1 := ⟨wt_661, wt_6, ⟨by decide +kernel, by decide +kernel⟩, by decide +kernel⟩
theorem mf_X4_passNewName : dtMF yX4_passNewName cX4_passNewName 4 (some .long) 1 := ⟨wt_653, wt_6, ⟨by decide +kernel, by decide +kernel⟩, by decide +kernel⟩
theorem mf_X8_passKeyword : dtMF yX8_passKeyword cX8_passKeyword 2 (some .boolean) 1 := ⟨wt_704, wt_7, ⟨by decide +kernel, by decide +kernel⟩, by decide +kernel⟩
theorem mf_X4_readKnown : dtMF yX4_readKnown cX4_readKnown 5 (some .int) 1 := ⟨wt_746, wt_6, ⟨by decide +kernel, by decide +kernel⟩, by decide +kernel⟩
theorem mf_X3_addPerson : dtMF yX3_addPerson cX3_addPerson 4 none 2 := ⟨wt_753, wt_4, ⟨by decide +kernel, by decide +kernel⟩, by decide +kernel⟩
theorem mf_X3_addRoom : dtMF yX3_addRoom cX3_addRoom 3 none 1 := ⟨wt_669, wt_4, ⟨by decide +kernel, by decide +kernel⟩, by decide +kernel⟩
theorem mf_X3_beginWord : dtMF yX3_beginWord cX3_beginWord 1 none 0 := ⟨wt_712, wt_4, ⟨by decide +kernel, by decide +kernel⟩, by decide +kernel⟩
theorem mf_X3_addSound : dtMF yX3_addSound cX3_addSound 2 none 1 := ⟨wt_725, wt_4, ⟨by decide +kernel, by decide +kernel⟩, by decide +kernel⟩
theorem mf_X4_readSounds : dtMF yX4_readSounds cX4_readSounds 4 (some .boolean) 1 := ⟨wt_708, wt_6, ⟨by decide +kernel, by decide +kernel⟩, by decide +kernel⟩
theorem mf_X3_isNewWordSaid : dtMF yX3_isNewWordSaid cX3_isNewWordSaid 2 (some .boolean) 0 := ⟨wt_730, wt_4, ⟨by decide +kernel, by decide +kernel⟩, by decide +kernel⟩
theorem mf_X3_clear : dtMF yX3_clear cX3_clear 1 none 0 := ⟨wt_542, wt_4, ⟨by decide +kernel, by decide +kernel⟩, by decide +kernel⟩
theorem mf_X4_readOdds : dtMF yX4_readOdds cX4_readOdds 3 (some .boolean) 1 := ⟨wt_627, wt_6, ⟨by decide +kernel, by decide +kernel⟩, by decide +kernel⟩
theorem mf_X4_readRoom : dtMF yX4_readRoom cX4_readRoom 4 (some .boolean) 1 := ⟨wt_649, wt_6, ⟨by decide +kernel, by decide +kernel⟩, by decide +kernel⟩
theorem mf_X4_readDoor : dtMF yX4_readDoor cX4_readDoor 6 (some .boolean) 1 := ⟨wt_673, wt_6, ⟨by decide +kernel, by decide +kernel⟩, by decide +kernel⟩
theorem mf_X4_readWord : dtMF yX4_readWord cX4_readWord 4 (some .boolean) 1 := ⟨wt_700, wt_6, ⟨by decide +kernel, by decide +kernel⟩, by decide +kernel⟩
theorem mf_X4_readPerson : dtMF yX4_readPerson cX4_readPerson 7 (some .boolean) 1 := ⟨wt_742, wt_6, ⟨by decide +kernel, by decide +kernel⟩, by decide +kernel⟩
theorem mf_X5_addSound : dtMF yX5_addSound cX5_addSound 2 none 1 := ⟨wt_1060, wt_10, ⟨by decide +kernel, by decide +kernel⟩, by decide +kernel⟩
theorem mf_X5_beginRow : dtMF yX5_beginRow cX5_beginRow 1 none 0 := ⟨wt_1056, wt_10, ⟨by decide +kernel, by decide +kernel⟩, by decide +kernel⟩
theorem mf_X5_agrees : dtMF yX5_agrees cX5_agrees 6 (some .boolean) 4 := ⟨wt_1073, wt_10, ⟨by decide +kernel, by decide +kernel⟩, by decide +kernel⟩
theorem mf_X5_fits : dtMF yX5_fits cX5_fits 5 (some .boolean) 3 := ⟨wt_1069, wt_10, ⟨by decide +kernel, by decide +kernel⟩, by decide +kernel⟩
theorem mf_X5_countReadings : dtMF yX5_countReadings cX5_countReadings 5 (some .int) 2 := ⟨wt_1064, wt_10, ⟨by decide +kernel, by decide +kernel⟩, by decide +kernel⟩
theorem mf_X5_firstWordAt : dtMF yX5_firstWordAt cX5_firstWordAt 5 (some .int) 3 := ⟨wt_1087, wt_10, ⟨by decide +kernel, by decide +kernel⟩, by decide +kernel⟩
theorem mf_X5_wordsOfFirst : dtMF yX5_wordsOfFirst cX5_wordsOfFirst 6 (some .int) 2 := ⟨wt_1082, wt_10, ⟨by decide +kernel, by decide +kernel⟩, by decide +kernel⟩
theorem mf_X5_addWord : dtMF yX5_addWord cX5_addWord 4 none 2 := ⟨wt_1110, wt_10, ⟨by decide +kernel, by decide +kernel⟩, by decide +kernel⟩
theorem mf_X5_countBegun : dtMF yX5_countBegun cX5_countBegun 7 (some .int) 3 := ⟨wt_1137, wt_10, ⟨by decide +kernel, by decide +kernel⟩, by decide +kernel⟩
theorem mf_X5_countEndings : dtMF yX5_countEndings cX5_countEndings 6 (some .int) 2 := ⟨wt_1126, wt_10, ⟨by decide +kernel, by decide +kernel⟩, by decide +kernel⟩
theorem mf_X5_canBeTwo : dtMF yX5_canBeTwo cX5_canBeTwo 5 (some .boolean) 2 := ⟨wt_1130, wt_10, ⟨by decide +kernel, by decide +kernel⟩, by decide +kernel⟩
theorem mf_X5_extendToDoubt : dtMF yX5_extendToDoubt cX5_extendToDoubt 6 (some .boolean) 4 := ⟨wt_1122, wt_10, ⟨by decide +kernel, by decide +kernel⟩, by decide +kernel⟩
theorem mf_X3_passThrough : dtMF yX3_passThrough cX3_passThrough 3 none 2 := ⟨wt_941, wt_4, ⟨by decide +kernel, by decide +kernel⟩, by decide +kernel⟩
theorem mf_X2_shutWith : dtMF yX2_shutWith cX2_shutWith 7 (some .int) 4 := ⟨wt_890, wt_9, ⟨by decide +kernel, by decide +kernel⟩, by decide +kernel⟩
theorem mf_J6_bitCount_0f7a4 : dtMF yJ6_bitCount_0f7a4 cJ6_bitCount_0f7a4 1 (some .int) 1 := ⟨wt_930, wt_20, ⟨by decide +kernel, by decide +kernel⟩, by decide +kernel⟩
theorem mf_X3_isAt : dtMF yX3_isAt cX3_isAt 4 (some .boolean) 2 := ⟨wt_884, wt_4, ⟨by decide +kernel, by decide +kernel⟩, by decide +kernel⟩
theorem mf_X6_unshut : dtMF yX6_unshut cX6_unshut 2 (some .boolean) 2 := ⟨wt_1286, wt_12, ⟨by decide +kernel, by decide +kernel⟩, by decide +kernel⟩
theorem mf_X6_shutBy : dtMF yX6_shutBy cX6_shutBy 6 (some .boolean) 5 := ⟨wt_1280, wt_12, ⟨by decide +kernel, by decide +kernel⟩, by decide +kernel⟩
theorem mf_X6_pass : dtMF yX6_pass cX6_pass 4 (some .boolean) 3 := ⟨wt_1291, wt_12, ⟨by decide +kernel, by decide +kernel⟩, by decide +kernel⟩
theorem mf_X6_forgetAll : dtMF yX6_forgetAll cX6_forgetAll 2 (some .boolean) 2 := ⟨wt_1295, wt_12, ⟨by decide +kernel, by decide +kernel⟩, by decide +kernel⟩
theorem mf_X6_draw : dtMF yX6_draw cX6_draw 2 (some .int) 1 := ⟨wt_1299, wt_12, ⟨by decide +kernel, by decide +kernel⟩, by decide +kernel⟩
theorem mf_J6_compare_7cf53 : dtMF yJ6_compare_7cf53 cJ6_compare_7cf53 2 (some .int) 2 := ⟨wt_1310, wt_20, ⟨by decide +kernel, by decide +kernel⟩, by decide +kernel⟩
theorem mf_X6_holds : dtMF yX6_holds cX6_holds 4 (some .boolean) 3 := ⟨wt_1307, wt_12, ⟨by decide +kernel, by decide +kernel⟩, by decide +kernel⟩
theorem mf_X6_act : dtMF yX6_act cX6_act 8 (some .boolean) 4 := ⟨wt_1275, wt_12, ⟨by decide +kernel, by decide +kernel⟩, by decide +kernel⟩
theorem mf_X6_behindStep : dtMF yX6_behindStep cX6_behindStep 4 (some .int) 3 := ⟨wt_1304, wt_12, ⟨by decide +kernel, by decide +kernel⟩, by decide +kernel⟩
theorem mf_X6_behindEnd : dtMF yX6_behindEnd cX6_behindEnd 4 (some .int) 2 := ⟨wt_1271, wt_12, ⟨by decide +kernel, by decide +kernel⟩, by decide +kernel⟩
theorem mf_X10_distance : dtMF yX10_distance cX10_distance 5 (some .int) 3 := ⟨wt_1161, wt_11, ⟨by decide +kernel, by decide +kernel⟩, by decide +kernel⟩
theorem mf_X10_nextOnWay : dtMF yX10_nextOnWay cX10_nextOnWay 6 (some .int) 4 := ⟨wt_1172, wt_11, ⟨by decide +kernel, by decide +kernel⟩, by decide +kernel⟩
theorem mf_X9_smallNumber : dtMF yX9_smallNumber cX9_smallNumber 2 (some .int) 1 := ⟨wt_967, wt_2, ⟨by decide +kernel, by decide +kernel⟩, by decide +kernel⟩
theorem mf_X10_openerPlays : dtMF yX10_openerPlays cX10_openerPlays 5 none 2 := ⟨wt_1230, wt_11, ⟨by decide +kernel, by decide +kernel⟩, by decide +kernel⟩
theorem mf_X10_shutterPlays : dtMF yX10_shutterPlays cX10_shutterPlays 5 none 2 := ⟨wt_1225, wt_11, ⟨by decide +kernel, by decide +kernel⟩, by decide +kernel⟩
theorem mf_X10_playBack : dtMF yX10_playBack cX10_playBack 7 none 4 := ⟨wt_1221, wt_11, ⟨by decide +kernel, by decide +kernel⟩, by decide +kernel⟩
theorem mf_X7_init : dtMF yX7_init cX7_init 1 none 0 := ⟨wt_58, wt_3, ⟨by decide +kernel, by decide +kernel⟩, by decide +kernel⟩
theorem mf_X3_init : dtMF yX3_init cX3_init 1 none 0 := ⟨wt_82, wt_4, ⟨by decide +kernel, by decide +kernel⟩, by decide +kernel⟩
theorem mf_X0_init : dtMF yX0_init cX0_init 1 none 0 := ⟨wt_197, wt_5, ⟨by decide +kernel, by decide +kernel⟩, by decide +kernel⟩
theorem mf_X4_init : dtMF yX4_init cX4_init 1 none 0 := ⟨wt_250, wt_6, ⟨by decide +kernel, by decide +kernel⟩, by decide +kernel⟩
theorem mf_X1_init : dtMF yX1_init cX1_init 1 none 0 := ⟨wt_309, wt_8, ⟨by decide +kernel, by decide +kernel⟩, by decide +kernel⟩
theorem mf_X2_init : dtMF yX2_init cX2_init 1 none 0 := ⟨wt_328, wt_9, ⟨by decide +kernel, by decide +kernel⟩, by decide +kernel⟩
theorem mf_X5_init : dtMF yX5_init cX5_init 1 none 0 := ⟨wt_338, wt_10, ⟨by decide +kernel, by decide +kernel⟩, by decide +kernel⟩
theorem mf_X10_init : dtMF yX10_init cX10_init 1 none 0 := ⟨wt_357, wt_11, ⟨by decide +kernel, by decide +kernel⟩, by decide +kernel⟩
theorem mf_X6_init : dtMF yX6_init cX6_init 1 none 0 := ⟨wt_367, wt_12, ⟨by decide +kernel, by decide +kernel⟩, by decide +kernel⟩
theorem mf_X9_init : dtMF yX9_init cX9_init 1 none 0 := ⟨wt_34, wt_2, ⟨by decide +kernel, by decide +kernel⟩, by decide +kernel⟩
theorem mf_X11_isTray : dtMF yX11_isTray cX11_isTray 1 (some .boolean) 1 := ⟨wt_476, wt_1, ⟨by decide +kernel, by decide +kernel⟩, by decide +kernel⟩
theorem mf_X11_refuse : dtMF yX11_refuse cX11_refuse 2 (some .boolean) 1 := ⟨wt_483, wt_1, ⟨by decide +kernel, by decide +kernel⟩, by decide +kernel⟩
theorem mf_X9_layOut : dtMF yX9_layOut cX9_layOut 4 none 2 := ⟨wt_487, wt_2, ⟨by decide +kernel, by decide +kernel⟩, by decide +kernel⟩
theorem mf_X11_agree : dtMF yX11_agree cX11_agree 1 (some .boolean) 0 := ⟨wt_491, wt_1, ⟨by decide +kernel, by decide +kernel⟩, by decide +kernel⟩
theorem mf_X11_placeStatus : dtMF yX11_placeStatus cX11_placeStatus 3 (some .int) 2 := ⟨wt_499, wt_1, ⟨by decide +kernel, by decide +kernel⟩, by decide +kernel⟩
theorem mf_X9_put : dtMF yX9_put cX9_put 4 none 2 := ⟨wt_503, wt_2, ⟨by decide +kernel, by decide +kernel⟩, by decide +kernel⟩
theorem mf_X11_fail : dtMF yX11_fail cX11_fail 2 (some .int) 1 := ⟨wt_511, wt_1, ⟨by decide +kernel, by decide +kernel⟩, by decide +kernel⟩
theorem mf_X9_hasRun : dtMF yX9_hasRun cX9_hasRun 3 (some .boolean) 2 := ⟨wt_519, wt_2, ⟨by decide +kernel, by decide +kernel⟩, by decide +kernel⟩
theorem mf_X7_append : dtMF yX7_append cX7_append 3 none 1 := ⟨wt_530, wt_3, ⟨by decide +kernel, by decide +kernel⟩, by decide +kernel⟩
theorem mf_X4_readInto : dtMF yX4_readInto cX4_readInto 6 (some .boolean) 3 := ⟨wt_538, wt_6, ⟨by decide +kernel, by decide +kernel⟩, by decide +kernel⟩
theorem mf_X7_tellFault : dtMF yX7_tellFault cX7_tellFault 2 none 1 := ⟨wt_757, wt_3, ⟨by decide +kernel, by decide +kernel⟩, by decide +kernel⟩
theorem mf_X11_answer : dtMF yX11_answer cX11_answer 2 (some .int) 1 := ⟨wt_765, wt_1, ⟨by decide +kernel, by decide +kernel⟩, by decide +kernel⟩
theorem mf_X1_readInto : dtMF yX1_readInto cX1_readInto 8 (some .boolean) 4 := ⟨wt_773, wt_8, ⟨by decide +kernel, by decide +kernel⟩, by decide +kernel⟩
theorem mf_X3_hasWord : dtMF yX3_hasWord cX3_hasWord 2 (some .boolean) 1 := ⟨wt_856, wt_4, ⟨by decide +kernel, by decide +kernel⟩, by decide +kernel⟩
theorem mf_X11_isSound : dtMF yX11_isSound cX11_isSound 1 (some .boolean) 1 := ⟨wt_880, wt_1, ⟨by decide +kernel, by decide +kernel⟩, by decide +kernel⟩
theorem mf_X9_allBelow : dtMF yX9_allBelow cX9_allBelow 4 (some .boolean) 2 := ⟨wt_962, wt_2, ⟨by decide +kernel, by decide +kernel⟩, by decide +kernel⟩
theorem mf_X11_runStatus : dtMF yX11_runStatus cX11_runStatus 3 (some .int) 2 := ⟨wt_958, wt_1, ⟨by decide +kernel, by decide +kernel⟩, by decide +kernel⟩
theorem mf_X3_hasRoom : dtMF yX3_hasRoom cX3_hasRoom 2 (some .boolean) 1 := ⟨wt_977, wt_4, ⟨by decide +kernel, by decide +kernel⟩, by decide +kernel⟩
theorem mf_X2_lossBetween : dtMF yX2_lossBetween cX2_lossBetween 4 (some .int) 3 := ⟨wt_998, wt_9, ⟨by decide +kernel, by decide +kernel⟩, by decide +kernel⟩
theorem mf_X11_found : dtMF yX11_found cX11_found 2 (some .int) 1 := ⟨wt_1002, wt_1, ⟨by decide +kernel, by decide +kernel⟩, by decide +kernel⟩
theorem mf_X2_doorsHeard : dtMF yX2_doorsHeard cX2_doorsHeard 6 (some .int) 3 := ⟨wt_1015, wt_9, ⟨by decide +kernel, by decide +kernel⟩, by decide +kernel⟩
theorem mf_X2_baizeToHush : dtMF yX2_baizeToHush cX2_baizeToHush 6 (some .int) 4 := ⟨wt_1023, wt_9, ⟨by decide +kernel, by decide +kernel⟩, by decide +kernel⟩
theorem mf_X11_areTwo : dtMF yX11_areTwo cX11_areTwo 3 (some .boolean) 2 := ⟨wt_1031, wt_1, ⟨by decide +kernel, by decide +kernel⟩, by decide +kernel⟩
theorem mf_X2_secretDoor : dtMF yX2_secretDoor cX2_secretDoor 8 (some .int) 5 := ⟨wt_1035, wt_9, ⟨by decide +kernel, by decide +kernel⟩, by decide +kernel⟩
theorem mf_X5_loadHeard : dtMF yX5_loadHeard cX5_loadHeard 4 none 2 := ⟨wt_1052, wt_10, ⟨by decide +kernel, by decide +kernel⟩, by decide +kernel⟩
theorem mf_X5_wordOfFirst : dtMF yX5_wordOfFirst cX5_wordOfFirst 6 (some .int) 3 := ⟨wt_1095, wt_10, ⟨by decide +kernel, by decide +kernel⟩, by decide +kernel⟩
theorem mf_X5_findDoubt : dtMF yX5_findDoubt cX5_findDoubt 4 (some .int) 2 := ⟨wt_1118, wt_10, ⟨by decide +kernel, by decide +kernel⟩, by decide +kernel⟩
theorem mf_X5_soundAt : dtMF yX5_soundAt cX5_soundAt 2 (some .int) 1 := ⟨wt_1145, wt_10, ⟨by decide +kernel, by decide +kernel⟩, by decide +kernel⟩
theorem mf_X5_wordsShared : dtMF yX5_wordsShared cX5_wordsShared 6 (some .int) 3 := ⟨wt_1153, wt_10, ⟨by decide +kernel, by decide +kernel⟩, by decide +kernel⟩
theorem mf_X10_roomOnWay : dtMF yX10_roomOnWay cX10_roomOnWay 7 (some .int) 4 := ⟨wt_1168, wt_11, ⟨by decide +kernel, by decide +kernel⟩, by decide +kernel⟩
theorem mf_X10_doorsThatPart : dtMF yX10_doorsThatPart cX10_doorsThatPart 6 (some .int) 3 := ⟨wt_1184, wt_11, ⟨by decide +kernel, by decide +kernel⟩, by decide +kernel⟩
theorem mf_X10_doorsToJoin : dtMF yX10_doorsToJoin cX10_doorsToJoin 6 (some .int) 3 := ⟨wt_1197, wt_11, ⟨by decide +kernel, by decide +kernel⟩, by decide +kernel⟩
theorem mf_X11_areOpenDoors : dtMF yX11_areOpenDoors cX11_areOpenDoors 6 (some .boolean) 2 := ⟨wt_1205, wt_1, ⟨by decide +kernel, by decide +kernel⟩, by decide +kernel⟩
theorem mf_X10_canShutAll : dtMF yX10_canShutAll cX10_canShutAll 9 (some .boolean) 4 := ⟨wt_1208, wt_11, ⟨by decide +kernel, by decide +kernel⟩, by decide +kernel⟩
theorem mf_X10_outcome : dtMF yX10_outcome cX10_outcome 4 (some .int) 3 := ⟨wt_1217, wt_11, ⟨by decide +kernel, by decide +kernel⟩, by decide +kernel⟩
theorem mf_X10_bestMove : dtMF yX10_bestMove cX10_bestMove 8 (some .int) 3 := ⟨wt_1239, wt_11, ⟨by decide +kernel, by decide +kernel⟩, by decide +kernel⟩
theorem mf_X11_commonDivisor : dtMF yX11_commonDivisor cX11_commonDivisor 11 (some .long) 2 := ⟨wt_1254, wt_1, ⟨by decide +kernel, by decide +kernel⟩, by decide +kernel⟩
theorem mf_X11_power : dtMF yX11_power cX11_power 5 (some .long) 2 := ⟨wt_1247, wt_1, ⟨by decide +kernel, by decide +kernel⟩, by decide +kernel⟩
theorem mf_X11_tellFraction : dtMF yX11_tellFraction cX11_tellFraction 7 none 2 := ⟨wt_1251, wt_1, ⟨by decide +kernel, by decide +kernel⟩, by decide +kernel⟩
theorem mf_X6_run : dtMF yX6_run cX6_run 9 none 4 := ⟨wt_1266, wt_12, ⟨by decide +kernel, by decide +kernel⟩, by decide +kernel⟩
theorem mf_X3_copyFrom : dtMF yX3_copyFrom cX3_copyFrom 2 none 1 := ⟨wt_1322, wt_4, ⟨by decide +kernel, by decide +kernel⟩, by decide +kernel⟩
theorem mf_X0_copyFrom : dtMF yX0_copyFrom cX0_copyFrom 2 none 1 := ⟨wt_1331, wt_5, ⟨by decide +kernel, by decide +kernel⟩, by decide +kernel⟩
theorem mf_X12_plain : dtMF yX12_plain cX12_plain 3 none 1 := ⟨wt_1346, wt_13, ⟨by decide +kernel, by decide +kernel⟩, by decide +kernel⟩
theorem mf_X12_gives : dtMF yX12_gives cX12_gives 2 (some .int) 1 := ⟨wt_1669, wt_13, ⟨by decide +kernel, by decide +kernel⟩, by decide +kernel⟩
theorem mf_X12_refuse : dtMF yX12_refuse cX12_refuse 2 (some .int) 1 := ⟨wt_1553, wt_13, ⟨by decide +kernel, by decide +kernel⟩, by decide +kernel⟩
theorem mf_X12_is : dtMF yX12_is cX12_is 2 (some .boolean) 1 := ⟨wt_1493, wt_13, ⟨by decide +kernel, by decide +kernel⟩, by decide +kernel⟩
theorem mf_X12_isTray : dtMF yX12_isTray cX12_isTray 1 (some .boolean) 1 := ⟨wt_1489, wt_13, ⟨by decide +kernel, by decide +kernel⟩, by decide +kernel⟩
theorem mf_X12_wrongPlace : dtMF yX12_wrongPlace cX12_wrongPlace 3 (some .int) 2 := ⟨wt_1501, wt_13, ⟨by decide +kernel, by decide +kernel⟩, by decide +kernel⟩
theorem mf_X12_cut : dtMF yX12_cut cX12_cut 3 (some .long) 2 := ⟨wt_1504, wt_13, ⟨by decide +kernel, by decide +kernel⟩, by decide +kernel⟩
theorem mf_X12_four : dtMF yX12_four cX12_four 3 none 1 := ⟨wt_1521, wt_13, ⟨by decide +kernel, by decide +kernel⟩, by decide +kernel⟩
theorem mf_X12_byteAt : dtMF yX12_byteAt cX12_byteAt 2 (some .int) 1 := ⟨wt_1541, wt_13, ⟨by decide +kernel, by decide +kernel⟩, by decide +kernel⟩
theorem mf_X12_isSmall : dtMF yX12_isSmall cX12_isSmall 1 (some .boolean) 1 := ⟨wt_1544, wt_13, ⟨by decide +kernel, by decide +kernel⟩, by decide +kernel⟩
theorem mf_X12_isDigit : dtMF yX12_isDigit cX12_isDigit 1 (some .boolean) 1 := ⟨wt_1547, wt_13, ⟨by decide +kernel, by decide +kernel⟩, by decide +kernel⟩
theorem mf_X12_ahead : dtMF yX12_ahead cX12_ahead 2 none 0 := ⟨wt_1537, wt_13, ⟨by decide +kernel, by decide +kernel⟩, by decide +kernel⟩
theorem mf_X12_isSign : dtMF yX12_isSign cX12_isSign 2 (some .boolean) 1 := ⟨wt_1638, wt_13, ⟨by decide +kernel, by decide +kernel⟩, by decide +kernel⟩
theorem mf_X12_fails : dtMF yX12_fails cX12_fails 2 (some .boolean) 1 := ⟨wt_1568, wt_13, ⟨by decide +kernel, by decide +kernel⟩, by decide +kernel⟩
theorem mf_X12_inWords : dtMF yX12_inWords cX12_inWords 7 (some .int) 1 := ⟨wt_1562, wt_13, ⟨by decide +kernel, by decide +kernel⟩, by decide +kernel⟩
theorem mf_X12_nameHere : dtMF yX12_nameHere cX12_nameHere 4 (some .long) 0 := ⟨wt_1600, wt_13, ⟨by decide +kernel, by decide +kernel⟩, by decide +kernel⟩
theorem mf_X12_findHere : dtMF yX12_findHere cX12_findHere 4 (some .int) 2 := ⟨wt_1596, wt_13, ⟨by decide +kernel, by decide +kernel⟩, by decide +kernel⟩
theorem mf_X12_isFull : dtMF yX12_isFull cX12_isFull 3 (some .boolean) 2 := ⟨wt_1584, wt_13, ⟨by decide +kernel, by decide +kernel⟩, by decide +kernel⟩
theorem mf_X12_isName : dtMF yX12_isName cX12_isName 2 (some .boolean) 1 := ⟨wt_1588, wt_13, ⟨by decide +kernel, by decide +kernel⟩, by decide +kernel⟩
theorem mf_X12_isOld : dtMF yX12_isOld cX12_isOld 1 (some .boolean) 0 := ⟨wt_1592, wt_13, ⟨by decide +kernel, by decide +kernel⟩, by decide +kernel⟩
theorem mf_X12_oldOne : dtMF yX12_oldOne cX12_oldOne 4 (some .boolean) 3 := ⟨wt_1615, wt_13, ⟨by decide +kernel, by decide +kernel⟩, by decide +kernel⟩
theorem mf_X12_newOne : dtMF yX12_newOne cX12_newOne 4 (some .boolean) 3 := ⟨wt_1580, wt_13, ⟨by decide +kernel, by decide +kernel⟩, by decide +kernel⟩
theorem mf_X12_doorRow : dtMF yX12_doorRow cX12_doorRow 1 (some .int) 1 := ⟨wt_1607, wt_13, ⟨by decide +kernel, by decide +kernel⟩, by decide +kernel⟩
theorem mf_X12_newRoomTo : dtMF yX12_newRoomTo cX12_newRoomTo 2 (some .boolean) 1 := ⟨wt_1611, wt_13, ⟨by decide +kernel, by decide +kernel⟩, by decide +kernel⟩
theorem mf_X12_isThere : dtMF yX12_isThere cX12_isThere 2 (some .boolean) 1 := ⟨wt_1619, wt_13, ⟨by decide +kernel, by decide +kernel⟩, by decide +kernel⟩
theorem mf_X12_number : dtMF yX12_number cX12_number 4 (some .boolean) 3 := ⟨wt_1572, wt_13, ⟨by decide +kernel, by decide +kernel⟩, by decide +kernel⟩
theorem mf_X12_wordRow : dtMF yX12_wordRow cX12_wordRow 1 (some .int) 1 := ⟨wt_1626, wt_13, ⟨by decide +kernel, by decide +kernel⟩, by decide +kernel⟩
theorem mf_X12_isSame : dtMF yX12_isSame cX12_isSame 5 (some .boolean) 3 := ⟨wt_1646, wt_13, ⟨by decide +kernel, by decide +kernel⟩, by decide +kernel⟩
theorem mf_X12_wantWord : dtMF yX12_wantWord cX12_wantWord 3 (some .boolean) 2 := ⟨wt_1630, wt_13, ⟨by decide +kernel, by decide +kernel⟩, by decide +kernel⟩
theorem mf_X12_isSound : dtMF yX12_isSound cX12_isSound 1 (some .boolean) 0 := ⟨wt_1634, wt_13, ⟨by decide +kernel, by decide +kernel⟩, by decide +kernel⟩
theorem mf_X12_sameAs : dtMF yX12_sameAs cX12_sameAs 4 (some .int) 2 := ⟨wt_1642, wt_13, ⟨by decide +kernel, by decide +kernel⟩, by decide +kernel⟩
theorem mf_X12_personRow : dtMF yX12_personRow cX12_personRow 1 (some .int) 1 := ⟨wt_1653, wt_13, ⟨by decide +kernel, by decide +kernel⟩, by decide +kernel⟩
theorem mf_X12_isIn : dtMF yX12_isIn cX12_isIn 3 (some .boolean) 2 := ⟨wt_1657, wt_13, ⟨by decide +kernel, by decide +kernel⟩, by decide +kernel⟩
theorem mf_X12_aPerson : dtMF yX12_aPerson cX12_aPerson 5 (some .boolean) 0 := ⟨wt_1650, wt_13, ⟨by decide +kernel, by decide +kernel⟩, by decide +kernel⟩
theorem mf_X12_wantSign : dtMF yX12_wantSign cX12_wantSign 2 (some .boolean) 1 := ⟨wt_1661, wt_13, ⟨by decide +kernel, by decide +kernel⟩, by decide +kernel⟩
theorem mf_X12_aRoom : dtMF yX12_aRoom cX12_aRoom 1 (some .boolean) 0 := ⟨wt_1576, wt_13, ⟨by decide +kernel, by decide +kernel⟩, by decide +kernel⟩
theorem mf_X12_aDoor : dtMF yX12_aDoor cX12_aDoor 2 (some .boolean) 0 := ⟨wt_1604, wt_13, ⟨by decide +kernel, by decide +kernel⟩, by decide +kernel⟩
theorem mf_X12_aWord : dtMF yX12_aWord cX12_aWord 4 (some .boolean) 0 := ⟨wt_1623, wt_13, ⟨by decide +kernel, by decide +kernel⟩, by decide +kernel⟩
theorem mf_X12_begins : dtMF yX12_begins cX12_begins 4 (some .boolean) 2 := ⟨wt_1533, wt_13, ⟨by decide +kernel, by decide +kernel⟩, by decide +kernel⟩
theorem mf_X12_taken : dtMF yX12_taken cX12_taken 2 (some .int) 1 := ⟨wt_1665, wt_13, ⟨by decide +kernel, by decide +kernel⟩, by decide +kernel⟩
theorem mf_X12_housePart : dtMF yX12_housePart cX12_housePart 3 (some .boolean) 0 := ⟨wt_1557, wt_13, ⟨by decide +kernel, by decide +kernel⟩, by decide +kernel⟩
theorem mf_X12_personTo : dtMF yX12_personTo cX12_personTo 2 (some .boolean) 1 := ⟨wt_1685, wt_13, ⟨by decide +kernel, by decide +kernel⟩, by decide +kernel⟩
theorem mf_X12_doorTo : dtMF yX12_doorTo cX12_doorTo 2 (some .boolean) 1 := ⟨wt_1689, wt_13, ⟨by decide +kernel, by decide +kernel⟩, by decide +kernel⟩
theorem mf_X12_soundTo : dtMF yX12_soundTo cX12_soundTo 2 (some .boolean) 1 := ⟨wt_1693, wt_13, ⟨by decide +kernel, by decide +kernel⟩, by decide +kernel⟩
theorem mf_X12_test : dtMF yX12_test cX12_test 3 (some .boolean) 1 := ⟨wt_1697, wt_13, ⟨by decide +kernel, by decide +kernel⟩, by decide +kernel⟩
theorem mf_X12_dayOrder : dtMF yX12_dayOrder cX12_dayOrder 3 (some .boolean) 2 := ⟨wt_1681, wt_13, ⟨by decide +kernel, by decide +kernel⟩, by decide +kernel⟩
theorem mf_X12_dayStep : dtMF yX12_dayStep cX12_dayStep 6 (some .boolean) 0 := ⟨wt_1677, wt_13, ⟨by decide +kernel, by decide +kernel⟩, by decide +kernel⟩
theorem mf_X12_personOf : dtMF yX12_personOf cX12_personOf 3 (some .int) 2 := ⟨wt_1737, wt_13, ⟨by decide +kernel, by decide +kernel⟩, by decide +kernel⟩
theorem mf_X12_doorOf : dtMF yX12_doorOf cX12_doorOf 3 (some .int) 2 := ⟨wt_1713, wt_13, ⟨by decide +kernel, by decide +kernel⟩, by decide +kernel⟩
theorem mf_X12_isDoor : dtMF yX12_isDoor cX12_isDoor 2 (some .boolean) 1 := ⟨wt_1709, wt_13, ⟨by decide +kernel, by decide +kernel⟩, by decide +kernel⟩
theorem mf_X12_isWord : dtMF yX12_isWord cX12_isWord 2 (some .boolean) 1 := ⟨wt_1721, wt_13, ⟨by decide +kernel, by decide +kernel⟩, by decide +kernel⟩
theorem mf_X12_isPerson : dtMF yX12_isPerson cX12_isPerson 2 (some .boolean) 1 := ⟨wt_1733, wt_13, ⟨by decide +kernel, by decide +kernel⟩, by decide +kernel⟩
theorem mf_X12_isOpen : dtMF yX12_isOpen cX12_isOpen 2 (some .boolean) 1 := ⟨wt_1758, wt_13, ⟨by decide +kernel, by decide +kernel⟩, by decide +kernel⟩
theorem mf_X12_isRoom : dtMF yX12_isRoom cX12_isRoom 2 (some .boolean) 1 := ⟨wt_1749, wt_13, ⟨by decide +kernel, by decide +kernel⟩, by decide +kernel⟩
theorem mf_X12_laysLoss : dtMF yX12_laysLoss cX12_laysLoss 8 none 2 := ⟨wt_1753, wt_13, ⟨by decide +kernel, by decide +kernel⟩, by decide +kernel⟩
theorem mf_X12_loud : dtMF yX12_loud cX12_loud 1 (some .int) 1 := ⟨wt_1776, wt_13, ⟨by decide +kernel, by decide +kernel⟩, by decide +kernel⟩
theorem mf_X12_isHeard : dtMF yX12_isHeard cX12_isHeard 6 (some .boolean) 3 := ⟨wt_1773, wt_13, ⟨by decide +kernel, by decide +kernel⟩, by decide +kernel⟩
theorem mf_X12_isNoise : dtMF yX12_isNoise cX12_isNoise 1 (some .boolean) 1 := ⟨wt_1765, wt_13, ⟨by decide +kernel, by decide +kernel⟩, by decide +kernel⟩
theorem mf_X12_hearing : dtMF yX12_hearing cX12_hearing 6 (some .int) 3 := ⟨wt_1769, wt_13, ⟨by decide +kernel, by decide +kernel⟩, by decide +kernel⟩
theorem mf_X12_reaches : dtMF yX12_reaches cX12_reaches 7 (some .int) 2 := ⟨wt_1792, wt_13, ⟨by decide +kernel, by decide +kernel⟩, by decide +kernel⟩
theorem mf_X12_isAt : dtMF yX12_isAt cX12_isAt 3 (some .boolean) 2 := ⟨wt_1796, wt_13, ⟨by decide +kernel, by decide +kernel⟩, by decide +kernel⟩
theorem mf_X12_keepsSound : dtMF yX12_keepsSound cX12_keepsSound 5 none 2 := ⟨wt_1816, wt_13, ⟨by decide +kernel, by decide +kernel⟩, by decide +kernel⟩
theorem mf_X12_isBy : dtMF yX12_isBy cX12_isBy 3 (some .boolean) 2 := ⟨wt_1808, wt_13, ⟨by decide +kernel, by decide +kernel⟩, by decide +kernel⟩
theorem mf_X12_sounds : dtMF yX12_sounds cX12_sounds 6 (some .int) 3 := ⟨wt_1812, wt_13, ⟨by decide +kernel, by decide +kernel⟩, by decide +kernel⟩
theorem mf_X12_closes : dtMF yX12_closes cX12_closes 5 (some .int) 3 := ⟨wt_1804, wt_13, ⟨by decide +kernel, by decide +kernel⟩, by decide +kernel⟩
theorem mf_X12_opens : dtMF yX12_opens cX12_opens 3 (some .boolean) 2 := ⟨wt_1824, wt_13, ⟨by decide +kernel, by decide +kernel⟩, by decide +kernel⟩
theorem mf_X12_bits : dtMF yX12_bits cX12_bits 3 (some .int) 1 := ⟨wt_1827, wt_13, ⟨by decide +kernel, by decide +kernel⟩, by decide +kernel⟩
theorem mf_X12_goes : dtMF yX12_goes cX12_goes 3 (some .boolean) 2 := ⟨wt_1835, wt_13, ⟨by decide +kernel, by decide +kernel⟩, by decide +kernel⟩
theorem mf_X12_forgets : dtMF yX12_forgets cX12_forgets 5 (some .int) 1 := ⟨wt_1843, wt_13, ⟨by decide +kernel, by decide +kernel⟩, by decide +kernel⟩
theorem mf_X12_isFrom : dtMF yX12_isFrom cX12_isFrom 6 (some .boolean) 3 := ⟨wt_1855, wt_13, ⟨by decide +kernel, by decide +kernel⟩, by decide +kernel⟩
theorem mf_X12_isSaid : dtMF yX12_isSaid cX12_isSaid 5 (some .boolean) 2 := ⟨wt_1890, wt_13, ⟨by decide +kernel, by decide +kernel⟩, by decide +kernel⟩
theorem mf_X12_laysReadings : dtMF yX12_laysReadings cX12_laysReadings 4 (some .int) 1 := ⟨wt_1886, wt_13, ⟨by decide +kernel, by decide +kernel⟩, by decide +kernel⟩
theorem mf_X12_laysHeard : dtMF yX12_laysHeard cX12_laysHeard 3 (some .int) 1 := ⟨wt_1882, wt_13, ⟨by decide +kernel, by decide +kernel⟩, by decide +kernel⟩
theorem mf_X12_firstWord : dtMF yX12_firstWord cX12_firstWord 4 (some .int) 2 := ⟨wt_1898, wt_13, ⟨by decide +kernel, by decide +kernel⟩, by decide +kernel⟩
theorem mf_X12_wrongRow : dtMF yX12_wrongRow cX12_wrongRow 7 (some .int) 5 := ⟨wt_1910, wt_13, ⟨by decide +kernel, by decide +kernel⟩, by decide +kernel⟩
theorem mf_X12_utters : dtMF yX12_utters cX12_utters 3 none 1 := ⟨wt_1918, wt_13, ⟨by decide +kernel, by decide +kernel⟩, by decide +kernel⟩
theorem mf_X12_laysDoubt : dtMF yX12_laysDoubt cX12_laysDoubt 7 (some .boolean) 1 := ⟨wt_1926, wt_13, ⟨by decide +kernel, by decide +kernel⟩, by decide +kernel⟩
theorem mf_X12_laysFar : dtMF yX12_laysFar cX12_laysFar 6 none 1 := ⟨wt_1942, wt_13, ⟨by decide +kernel, by decide +kernel⟩, by decide +kernel⟩
theorem mf_X12_nextTo : dtMF yX12_nextTo cX12_nextTo 5 (some .int) 1 := ⟨wt_1950, wt_13, ⟨by decide +kernel, by decide +kernel⟩, by decide +kernel⟩
theorem mf_X12_areTwo : dtMF yX12_areTwo cX12_areTwo 3 (some .boolean) 2 := ⟨wt_1962, wt_13, ⟨by decide +kernel, by decide +kernel⟩, by decide +kernel⟩
theorem mf_X12_doorsBetween : dtMF yX12_doorsBetween cX12_doorsBetween 8 (some .int) 3 := ⟨wt_1966, wt_13, ⟨by decide +kernel, by decide +kernel⟩, by decide +kernel⟩
theorem mf_X12_orNone : dtMF yX12_orNone cX12_orNone 2 (some .int) 1 := ⟨wt_1974, wt_13, ⟨by decide +kernel, by decide +kernel⟩, by decide +kernel⟩
theorem mf_X12_canHave : dtMF yX12_canHave cX12_canHave 8 (some .boolean) 3 := ⟨wt_1987, wt_13, ⟨by decide +kernel, by decide +kernel⟩, by decide +kernel⟩
theorem mf_X12_roomsBy : dtMF yX12_roomsBy cX12_roomsBy 3 (some .int) 2 := ⟨wt_1999, wt_13, ⟨by decide +kernel, by decide +kernel⟩, by decide +kernel⟩
theorem mf_X12_settles : dtMF yX12_settles cX12_settles 4 none 2 := ⟨wt_2003, wt_13, ⟨by decide +kernel, by decide +kernel⟩, by decide +kernel⟩
theorem mf_X12_playing : dtMF yX12_playing cX12_playing 6 (some .int) 2 := ⟨wt_1995, wt_13, ⟨by decide +kernel, by decide +kernel⟩, by decide +kernel⟩
theorem mf_X12_tellsBy : dtMF yX12_tellsBy cX12_tellsBy 11 (some .boolean) 2 := ⟨wt_2016, wt_13, ⟨by decide +kernel, by decide +kernel⟩, by decide +kernel⟩
theorem mf_X12_counts : dtMF yX12_counts cX12_counts 2 none 1 := ⟨wt_2041, wt_13, ⟨by decide +kernel, by decide +kernel⟩, by decide +kernel⟩
theorem mf_X12_draw : dtMF yX12_draw cX12_draw 2 (some .int) 1 := ⟨wt_2053, wt_13, ⟨by decide +kernel, by decide +kernel⟩, by decide +kernel⟩
theorem mf_X12_closesBy : dtMF yX12_closesBy cX12_closesBy 5 (some .boolean) 3 := ⟨wt_2037, wt_13, ⟨by decide +kernel, by decide +kernel⟩, by decide +kernel⟩
theorem mf_X12_goesBy : dtMF yX12_goesBy cX12_goesBy 3 (some .boolean) 2 := ⟨wt_2045, wt_13, ⟨by decide +kernel, by decide +kernel⟩, by decide +kernel⟩
theorem mf_X12_blows : dtMF yX12_blows cX12_blows 2 (some .boolean) 0 := ⟨wt_2049, wt_13, ⟨by decide +kernel, by decide +kernel⟩, by decide +kernel⟩
theorem mf_X12_does : dtMF yX12_does cX12_does 4 (some .boolean) 1 := ⟨wt_2033, wt_13, ⟨by decide +kernel, by decide +kernel⟩, by decide +kernel⟩
theorem mf_X12_behindEnds : dtMF yX12_behindEnds cX12_behindEnds 5 (some .int) 1 := ⟨wt_2062, wt_13, ⟨by decide +kernel, by decide +kernel⟩, by decide +kernel⟩
theorem mf_X12_holds : dtMF yX12_holds cX12_holds 5 (some .boolean) 1 := ⟨wt_2058, wt_13, ⟨by decide +kernel, by decide +kernel⟩, by decide +kernel⟩
theorem mf_X12_lives : dtMF yX12_lives cX12_lives 4 none 1 := ⟨wt_2029, wt_13, ⟨by decide +kernel, by decide +kernel⟩, by decide +kernel⟩
theorem mf_X12_copies : dtMF yX12_copies cX12_copies 4 none 2 := ⟨wt_2079, wt_13, ⟨by decide +kernel, by decide +kernel⟩, by decide +kernel⟩
theorem mf_X11_init : dtMF yX11_init cX11_init 2 none 0 := ⟨wt_25, wt_1, ⟨by decide +kernel, by decide +kernel⟩, by decide +kernel⟩
theorem mf_X12_init : dtMF yX12_init cX12_init 1 none 0 := ⟨wt_1341, wt_13, ⟨by decide +kernel, by decide +kernel⟩, by decide +kernel⟩
theorem mf_X11_status : dtMF yX11_status cX11_status 1 (some .int) 0 := ⟨wt_461, wt_1, ⟨by decide +kernel, by decide +kernel⟩, by decide +kernel⟩
theorem mf_X12_status : dtMF yX12_status cX12_status 1 (some .int) 0 := ⟨wt_1474, wt_13, ⟨by decide +kernel, by decide +kernel⟩, by decide +kernel⟩
theorem mf_X11_top : dtMF yX11_top cX11_top 1 (some .long) 0 := ⟨wt_465, wt_1, ⟨by decide +kernel, by decide +kernel⟩, by decide +kernel⟩
theorem mf_X12_top : dtMF yX12_top cX12_top 1 (some .long) 0 := ⟨wt_1478, wt_13, ⟨by decide +kernel, by decide +kernel⟩, by decide +kernel⟩
theorem mf_X11_bottom : dtMF yX11_bottom cX11_bottom 1 (some .long) 0 := ⟨wt_469, wt_1, ⟨by decide +kernel, by decide +kernel⟩, by decide +kernel⟩
theorem mf_X12_bottom : dtMF yX12_bottom cX12_bottom 1 (some .long) 0 := ⟨wt_1482, wt_13, ⟨by decide +kernel, by decide +kernel⟩, by decide +kernel⟩
theorem mf_X11_tray : dtMF yX11_tray cX11_tray 4 (some .boolean) 3 := ⟨wt_473, wt_1, ⟨by decide +kernel, by decide +kernel⟩, by decide +kernel⟩
theorem mf_X12_tray : dtMF yX12_tray cX12_tray 5 (some .boolean) 3 := ⟨wt_1486, wt_13, ⟨by decide +kernel, by decide +kernel⟩, by decide +kernel⟩
theorem mf_X11_write : dtMF yX11_write cX11_write 6 (some .boolean) 3 := ⟨wt_495, wt_1, ⟨by decide +kernel, by decide +kernel⟩, by decide +kernel⟩
theorem mf_X12_write : dtMF yX12_write cX12_write 6 (some .boolean) 3 := ⟨wt_1497, wt_13, ⟨by decide +kernel, by decide +kernel⟩, by decide +kernel⟩
theorem mf_X11_read : dtMF yX11_read cX11_read 4 (some .long) 2 := ⟨wt_507, wt_1, ⟨by decide +kernel, by decide +kernel⟩, by decide +kernel⟩
theorem mf_X12_read : dtMF yX12_read cX12_read 3 (some .long) 2 := ⟨wt_1508, wt_13, ⟨by decide +kernel, by decide +kernel⟩, by decide +kernel⟩
theorem mf_X11_pour : dtMF yX11_pour cX11_pour 8 (some .boolean) 5 := ⟨wt_515, wt_1, ⟨by decide +kernel, by decide +kernel⟩, by decide +kernel⟩
theorem mf_X12_pour : dtMF yX12_pour cX12_pour 8 (some .boolean) 5 := ⟨wt_1513, wt_13, ⟨by decide +kernel, by decide +kernel⟩, by decide +kernel⟩
theorem mf_X11_feed : dtMF yX11_feed cX11_feed 6 (some .int) 5 := ⟨wt_526, wt_1, ⟨by decide +kernel, by decide +kernel⟩, by decide +kernel⟩
theorem mf_X12_feed : dtMF yX12_feed cX12_feed 6 (some .int) 5 := ⟨wt_1517, wt_13, ⟨by decide +kernel, by decide +kernel⟩, by decide +kernel⟩
theorem mf_X11_house : dtMF yX11_house cX11_house 4 (some .int) 1 := ⟨wt_534, wt_1, ⟨by decide +kernel, by decide +kernel⟩, by decide +kernel⟩
theorem mf_X12_house : dtMF yX12_house cX12_house 4 (some .int) 1 := ⟨wt_1529, wt_13, ⟨by decide +kernel, by decide +kernel⟩, by decide +kernel⟩
theorem mf_X11_days : dtMF yX11_days cX11_days 4 (some .int) 1 := ⟨wt_769, wt_1, ⟨by decide +kernel, by decide +kernel⟩, by decide +kernel⟩
theorem mf_X12_days : dtMF yX12_days cX12_days 4 (some .int) 1 := ⟨wt_1673, wt_13, ⟨by decide +kernel, by decide +kernel⟩, by decide +kernel⟩
theorem mf_X11_fault : dtMF yX11_fault cX11_fault 2 (some .int) 1 := ⟨wt_831, wt_1, ⟨by decide +kernel, by decide +kernel⟩, by decide +kernel⟩
theorem mf_X12_fault : dtMF yX12_fault cX12_fault 2 (some .int) 1 := ⟨wt_1525, wt_13, ⟨by decide +kernel, by decide +kernel⟩, by decide +kernel⟩
theorem mf_X11_told : dtMF yX11_told cX11_told 2 (some .int) 1 := ⟨wt_835, wt_1, ⟨by decide +kernel, by decide +kernel⟩, by decide +kernel⟩
theorem mf_X12_told : dtMF yX12_told cX12_told 2 (some .int) 1 := ⟨wt_1701, wt_13, ⟨by decide +kernel, by decide +kernel⟩, by decide +kernel⟩
theorem mf_X11_door : dtMF yX11_door cX11_door 3 (some .int) 2 := ⟨wt_839, wt_1, ⟨by decide +kernel, by decide +kernel⟩, by decide +kernel⟩
theorem mf_X12_door : dtMF yX12_door cX12_door 3 (some .int) 2 := ⟨wt_1705, wt_13, ⟨by decide +kernel, by decide +kernel⟩, by decide +kernel⟩
theorem mf_X11_says : dtMF yX11_says cX11_says 2 (some .int) 1 := ⟨wt_852, wt_1, ⟨by decide +kernel, by decide +kernel⟩, by decide +kernel⟩
theorem mf_X12_says : dtMF yX12_says cX12_says 2 (some .int) 1 := ⟨wt_1717, wt_13, ⟨by decide +kernel, by decide +kernel⟩, by decide +kernel⟩
theorem mf_X11_saysAt : dtMF yX11_saysAt cX11_saysAt 3 (some .int) 2 := ⟨wt_860, wt_1, ⟨by decide +kernel, by decide +kernel⟩, by decide +kernel⟩
theorem mf_X12_saysAt : dtMF yX12_saysAt cX12_saysAt 3 (some .int) 2 := ⟨wt_1725, wt_13, ⟨by decide +kernel, by decide +kernel⟩, by decide +kernel⟩
theorem mf_X11_person : dtMF yX11_person cX11_person 3 (some .int) 2 := ⟨wt_865, wt_1, ⟨by decide +kernel, by decide +kernel⟩, by decide +kernel⟩
theorem mf_X12_person : dtMF yX12_person cX12_person 3 (some .int) 2 := ⟨wt_1729, wt_13, ⟨by decide +kernel, by decide +kernel⟩, by decide +kernel⟩
theorem mf_X11_heardAt : dtMF yX11_heardAt cX11_heardAt 3 (some .int) 2 := ⟨wt_873, wt_1, ⟨by decide +kernel, by decide +kernel⟩, by decide +kernel⟩
theorem mf_X12_heardAt : dtMF yX12_heardAt cX12_heardAt 3 (some .int) 2 := ⟨wt_1741, wt_13, ⟨by decide +kernel, by decide +kernel⟩, by decide +kernel⟩
theorem mf_X11_close : dtMF yX11_close cX11_close 4 (some .int) 3 := ⟨wt_877, wt_1, ⟨by decide +kernel, by decide +kernel⟩, by decide +kernel⟩
theorem mf_X12_close : dtMF yX12_close cX12_close 5 (some .int) 3 := ⟨wt_1800, wt_13, ⟨by decide +kernel, by decide +kernel⟩, by decide +kernel⟩
theorem mf_X11_open : dtMF yX11_open cX11_open 3 (some .int) 2 := ⟨wt_926, wt_1, ⟨by decide +kernel, by decide +kernel⟩, by decide +kernel⟩
theorem mf_X12_open : dtMF yX12_open cX12_open 3 (some .int) 2 := ⟨wt_1820, wt_13, ⟨by decide +kernel, by decide +kernel⟩, by decide +kernel⟩
theorem mf_X11_go : dtMF yX11_go cX11_go 3 (some .int) 2 := ⟨wt_937, wt_1, ⟨by decide +kernel, by decide +kernel⟩, by decide +kernel⟩
theorem mf_X12_go : dtMF yX12_go cX12_go 3 (some .int) 2 := ⟨wt_1831, wt_13, ⟨by decide +kernel, by decide +kernel⟩, by decide +kernel⟩
theorem mf_X11_forget : dtMF yX11_forget cX11_forget 3 (some .int) 1 := ⟨wt_945, wt_1, ⟨by decide +kernel, by decide +kernel⟩, by decide +kernel⟩
theorem mf_X12_forget : dtMF yX12_forget cX12_forget 3 (some .int) 1 := ⟨wt_1839, wt_13, ⟨by decide +kernel, by decide +kernel⟩, by decide +kernel⟩
theorem mf_X11_teach : dtMF yX11_teach cX11_teach 4 (some .boolean) 3 := ⟨wt_949, wt_1, ⟨by decide +kernel, by decide +kernel⟩, by decide +kernel⟩
theorem mf_X12_teach : dtMF yX12_teach cX12_teach 4 (some .boolean) 3 := ⟨wt_1847, wt_13, ⟨by decide +kernel, by decide +kernel⟩, by decide +kernel⟩
theorem mf_X11_coin : dtMF yX11_coin cX11_coin 5 (some .int) 2 := ⟨wt_954, wt_1, ⟨by decide +kernel, by decide +kernel⟩, by decide +kernel⟩
theorem mf_X12_coin : dtMF yX12_coin cX12_coin 6 (some .int) 2 := ⟨wt_1851, wt_13, ⟨by decide +kernel, by decide +kernel⟩, by decide +kernel⟩
theorem mf_X11_come : dtMF yX11_come cX11_come 2 (some .int) 1 := ⟨wt_973, wt_1, ⟨by decide +kernel, by decide +kernel⟩, by decide +kernel⟩
theorem mf_X12_come : dtMF yX12_come cX12_come 4 (some .int) 1 := ⟨wt_1860, wt_13, ⟨by decide +kernel, by decide +kernel⟩, by decide +kernel⟩
theorem mf_X11_line : dtMF yX11_line cX11_line 4 (some .int) 2 := ⟨wt_982, wt_1, ⟨by decide +kernel, by decide +kernel⟩, by decide +kernel⟩
theorem mf_X12_line : dtMF yX12_line cX12_line 4 (some .int) 2 := ⟨wt_1864, wt_13, ⟨by decide +kernel, by decide +kernel⟩, by decide +kernel⟩
theorem mf_X11_deafen : dtMF yX11_deafen cX11_deafen 4 (some .int) 2 := ⟨wt_986, wt_1, ⟨by decide +kernel, by decide +kernel⟩, by decide +kernel⟩
theorem mf_X12_deafen : dtMF yX12_deafen cX12_deafen 4 (some .int) 2 := ⟨wt_1869, wt_13, ⟨by decide +kernel, by decide +kernel⟩, by decide +kernel⟩
theorem mf_X11_rule : dtMF yX11_rule cX11_rule 2 (some .boolean) 1 := ⟨wt_990, wt_1, ⟨by decide +kernel, by decide +kernel⟩, by decide +kernel⟩
theorem mf_X12_rule : dtMF yX12_rule cX12_rule 2 (some .boolean) 1 := ⟨wt_1873, wt_13, ⟨by decide +kernel, by decide +kernel⟩, by decide +kernel⟩
theorem mf_X11_loss : dtMF yX11_loss cX11_loss 3 (some .int) 2 := ⟨wt_994, wt_1, ⟨by decide +kernel, by decide +kernel⟩, by decide +kernel⟩
theorem mf_X12_loss : dtMF yX12_loss cX12_loss 4 (some .int) 2 := ⟨wt_1745, wt_13, ⟨by decide +kernel, by decide +kernel⟩, by decide +kernel⟩
theorem mf_X11_hearers : dtMF yX11_hearers cX11_hearers 3 (some .int) 2 := ⟨wt_1006, wt_1, ⟨by decide +kernel, by decide +kernel⟩, by decide +kernel⟩
theorem mf_X12_hearers : dtMF yX12_hearers cX12_hearers 3 (some .int) 2 := ⟨wt_1762, wt_13, ⟨by decide +kernel, by decide +kernel⟩, by decide +kernel⟩
theorem mf_X11_hears : dtMF yX11_hears cX11_hears 3 (some .int) 2 := ⟨wt_1011, wt_1, ⟨by decide +kernel, by decide +kernel⟩, by decide +kernel⟩
theorem mf_X12_hears : dtMF yX12_hears cX12_hears 5 (some .int) 2 := ⟨wt_1780, wt_13, ⟨by decide +kernel, by decide +kernel⟩, by decide +kernel⟩
theorem mf_X11_hush : dtMF yX11_hush cX11_hush 4 (some .int) 3 := ⟨wt_1019, wt_1, ⟨by decide +kernel, by decide +kernel⟩, by decide +kernel⟩
theorem mf_X12_hush : dtMF yX12_hush cX12_hush 5 (some .int) 3 := ⟨wt_1784, wt_13, ⟨by decide +kernel, by decide +kernel⟩, by decide +kernel⟩
theorem mf_X11_secret : dtMF yX11_secret cX11_secret 5 (some .int) 4 := ⟨wt_1027, wt_1, ⟨by decide +kernel, by decide +kernel⟩, by decide +kernel⟩
theorem mf_X12_secret : dtMF yX12_secret cX12_secret 8 (some .int) 4 := ⟨wt_1788, wt_13, ⟨by decide +kernel, by decide +kernel⟩, by decide +kernel⟩
theorem mf_X11_readings : dtMF yX11_readings cX11_readings 2 (some .int) 1 := ⟨wt_1048, wt_1, ⟨by decide +kernel, by decide +kernel⟩, by decide +kernel⟩
theorem mf_X12_readings : dtMF yX12_readings cX12_readings 2 (some .int) 1 := ⟨wt_1878, wt_13, ⟨by decide +kernel, by decide +kernel⟩, by decide +kernel⟩
theorem mf_X11_first : dtMF yX11_first cX11_first 2 (some .int) 1 := ⟨wt_1078, wt_1, ⟨by decide +kernel, by decide +kernel⟩, by decide +kernel⟩
theorem mf_X12_first : dtMF yX12_first cX12_first 4 (some .int) 1 := ⟨wt_1894, wt_13, ⟨by decide +kernel, by decide +kernel⟩, by decide +kernel⟩
theorem mf_X11_firstAt : dtMF yX11_firstAt cX11_firstAt 3 (some .int) 2 := ⟨wt_1091, wt_1, ⟨by decide +kernel, by decide +kernel⟩, by decide +kernel⟩
theorem mf_X12_firstAt : dtMF yX12_firstAt cX12_firstAt 6 (some .int) 2 := ⟨wt_1902, wt_13, ⟨by decide +kernel, by decide +kernel⟩, by decide +kernel⟩
theorem mf_X11_means : dtMF yX11_means cX11_means 7 (some .int) 3 := ⟨wt_1100, wt_1, ⟨by decide +kernel, by decide +kernel⟩, by decide +kernel⟩
theorem mf_X12_means : dtMF yX12_means cX12_means 6 (some .int) 3 := ⟨wt_1906, wt_13, ⟨by decide +kernel, by decide +kernel⟩, by decide +kernel⟩
theorem mf_X11_unsaid : dtMF yX11_unsaid cX11_unsaid 7 (some .int) 3 := ⟨wt_1106, wt_1, ⟨by decide +kernel, by decide +kernel⟩, by decide +kernel⟩
theorem mf_X12_unsaid : dtMF yX12_unsaid cX12_unsaid 6 (some .int) 3 := ⟨wt_1914, wt_13, ⟨by decide +kernel, by decide +kernel⟩, by decide +kernel⟩
theorem mf_X11_doubt : dtMF yX11_doubt cX11_doubt 2 (some .int) 1 := ⟨wt_1114, wt_1, ⟨by decide +kernel, by decide +kernel⟩, by decide +kernel⟩
theorem mf_X12_doubt : dtMF yX12_doubt cX12_doubt 2 (some .int) 1 := ⟨wt_1922, wt_13, ⟨by decide +kernel, by decide +kernel⟩, by decide +kernel⟩
theorem mf_X11_doubtAt : dtMF yX11_doubtAt cX11_doubtAt 4 (some .int) 2 := ⟨wt_1141, wt_1, ⟨by decide +kernel, by decide +kernel⟩, by decide +kernel⟩
theorem mf_X12_doubtAt : dtMF yX12_doubtAt cX12_doubtAt 3 (some .int) 2 := ⟨wt_1930, wt_13, ⟨by decide +kernel, by decide +kernel⟩, by decide +kernel⟩
theorem mf_X11_shared : dtMF yX11_shared cX11_shared 3 (some .int) 2 := ⟨wt_1149, wt_1, ⟨by decide +kernel, by decide +kernel⟩, by decide +kernel⟩
theorem mf_X12_shared : dtMF yX12_shared cX12_shared 5 (some .int) 2 := ⟨wt_1934, wt_13, ⟨by decide +kernel, by decide +kernel⟩, by decide +kernel⟩
theorem mf_X11_far : dtMF yX11_far cX11_far 3 (some .int) 2 := ⟨wt_1158, wt_1, ⟨by decide +kernel, by decide +kernel⟩, by decide +kernel⟩
theorem mf_X12_far : dtMF yX12_far cX12_far 3 (some .int) 2 := ⟨wt_1938, wt_13, ⟨by decide +kernel, by decide +kernel⟩, by decide +kernel⟩
theorem mf_X11_way : dtMF yX11_way cX11_way 4 (some .int) 3 := ⟨wt_1165, wt_1, ⟨by decide +kernel, by decide +kernel⟩, by decide +kernel⟩
theorem mf_X12_way : dtMF yX12_way cX12_way 6 (some .int) 3 := ⟨wt_1946, wt_13, ⟨by decide +kernel, by decide +kernel⟩, by decide +kernel⟩
theorem mf_X11_part : dtMF yX11_part cX11_part 2 (some .int) 1 := ⟨wt_1176, wt_1, ⟨by decide +kernel, by decide +kernel⟩, by decide +kernel⟩
theorem mf_X12_part : dtMF yX12_part cX12_part 2 (some .int) 1 := ⟨wt_1954, wt_13, ⟨by decide +kernel, by decide +kernel⟩, by decide +kernel⟩
theorem mf_X11_apart : dtMF yX11_apart cX11_apart 4 (some .int) 2 := ⟨wt_1181, wt_1, ⟨by decide +kernel, by decide +kernel⟩, by decide +kernel⟩
theorem mf_X12_apart : dtMF yX12_apart cX12_apart 4 (some .int) 2 := ⟨wt_1958, wt_13, ⟨by decide +kernel, by decide +kernel⟩, by decide +kernel⟩
theorem mf_X11_apartSet : dtMF yX11_apartSet cX11_apartSet 3 (some .int) 2 := ⟨wt_1190, wt_1, ⟨by decide +kernel, by decide +kernel⟩, by decide +kernel⟩
theorem mf_X12_apartSet : dtMF yX12_apartSet cX12_apartSet 3 (some .int) 2 := ⟨wt_1970, wt_13, ⟨by decide +kernel, by decide +kernel⟩, by decide +kernel⟩
theorem mf_X11_together : dtMF yX11_together cX11_together 3 (some .int) 2 := ⟨wt_1194, wt_1, ⟨by decide +kernel, by decide +kernel⟩, by decide +kernel⟩
theorem mf_X12_together : dtMF yX12_together cX12_together 4 (some .int) 2 := ⟨wt_1978, wt_13, ⟨by decide +kernel, by decide +kernel⟩, by decide +kernel⟩
theorem mf_X11_culprits : dtMF yX11_culprits cX11_culprits 6 (some .int) 2 := ⟨wt_1201, wt_1, ⟨by decide +kernel, by decide +kernel⟩, by decide +kernel⟩
theorem mf_X12_culprits : dtMF yX12_culprits cX12_culprits 7 (some .int) 2 := ⟨wt_1982, wt_13, ⟨by decide +kernel, by decide +kernel⟩, by decide +kernel⟩
theorem mf_X11_game : dtMF yX11_game cX11_game 3 (some .int) 2 := ⟨wt_1213, wt_1, ⟨by decide +kernel, by decide +kernel⟩, by decide +kernel⟩
theorem mf_X12_game : dtMF yX12_game cX12_game 3 (some .int) 2 := ⟨wt_1991, wt_13, ⟨by decide +kernel, by decide +kernel⟩, by decide +kernel⟩
theorem mf_X11_moveOf : dtMF yX11_moveOf cX11_moveOf 3 (some .int) 2 := ⟨wt_1235, wt_1, ⟨by decide +kernel, by decide +kernel⟩, by decide +kernel⟩
theorem mf_X12_moveOf : dtMF yX12_moveOf cX12_moveOf 3 (some .int) 2 := ⟨wt_2007, wt_13, ⟨by decide +kernel, by decide +kernel⟩, by decide +kernel⟩
theorem mf_X11_gale : dtMF yX11_gale cX11_gale 8 (some .boolean) 2 := ⟨wt_1244, wt_1, ⟨by decide +kernel, by decide +kernel⟩, by decide +kernel⟩
theorem mf_X12_gale : dtMF yX12_gale cX12_gale 8 (some .boolean) 2 := ⟨wt_2011, wt_13, ⟨by decide +kernel, by decide +kernel⟩, by decide +kernel⟩
theorem mf_X11_copyRooms : dtMF yX11_copyRooms cX11_copyRooms 4 (some .int) 1 := ⟨wt_1258, wt_1, ⟨by decide +kernel, by decide +kernel⟩, by decide +kernel⟩
theorem mf_X12_copyRooms : dtMF yX12_copyRooms cX12_copyRooms 3 (some .int) 1 := ⟨wt_2020, wt_13, ⟨by decide +kernel, by decide +kernel⟩, by decide +kernel⟩
theorem mf_X11_live : dtMF yX11_live cX11_live 2 (some .int) 1 := ⟨wt_1262, wt_1, ⟨by decide +kernel, by decide +kernel⟩, by decide +kernel⟩
theorem mf_X12_live : dtMF yX12_live cX12_live 3 (some .int) 1 := ⟨wt_2024, wt_13, ⟨by decide +kernel, by decide +kernel⟩, by decide +kernel⟩
theorem mf_X11_lived : dtMF yX11_lived cX11_lived 2 (some .int) 1 := ⟨wt_1314, wt_1, ⟨by decide +kernel, by decide +kernel⟩, by decide +kernel⟩
theorem mf_X12_lived : dtMF yX12_lived cX12_lived 2 (some .int) 1 := ⟨wt_2066, wt_13, ⟨by decide +kernel, by decide +kernel⟩, by decide +kernel⟩
theorem mf_X11_mean : dtMF yX11_mean cX11_mean 6 (some .boolean) 2 := ⟨wt_1318, wt_1, ⟨by decide +kernel, by decide +kernel⟩, by decide +kernel⟩
theorem mf_X12_mean : dtMF yX12_mean cX12_mean 7 (some .boolean) 2 := ⟨wt_2070, wt_13, ⟨by decide +kernel, by decide +kernel⟩, by decide +kernel⟩
theorem mf_X11_mark : dtMF yX11_mark cX11_mark 1 (some .int) 0 := ⟨wt_1327, wt_1, ⟨by decide +kernel, by decide +kernel⟩, by decide +kernel⟩
theorem mf_X12_mark : dtMF yX12_mark cX12_mark 1 (some .int) 0 := ⟨wt_2075, wt_13, ⟨by decide +kernel, by decide +kernel⟩, by decide +kernel⟩
theorem mf_X11_undo : dtMF yX11_undo cX11_undo 1 (some .int) 0 := ⟨wt_1336, wt_1, ⟨by decide +kernel, by decide +kernel⟩, by decide +kernel⟩
theorem mf_X12_undo : dtMF yX12_undo cX12_undo 1 (some .int) 0 := ⟨wt_2083, wt_13, ⟨by decide +kernel, by decide +kernel⟩, by decide +kernel⟩
