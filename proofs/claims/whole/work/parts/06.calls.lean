/-! calls -/
def dtMF (x : MethodName) (code : ByteArray) (maxL : Nat) (rt : Option FieldType) (np : Nat) : Prop := Cond.code x code maxL rt ∈ dtWT ∧ Cond.initialized x.cls ∈ dtWT ∧ (x.cls ≠ "java/lang/invoke/MethodHandle" ∧ x.cls ≠ "java/lang/invoke/VarHandle") ∧ (parseMethodDescriptor x.desc).map (fun d => d.parameters.length) = some np
theorem dtPc_blind {D : va_G} {E : dtE} {base : Nat} {av : List Value} {μ : dtM} : FrameBlind (dtPc D E base av μ) := fun a U g mk h => ⟨h.1, (show dtSt D E base (U.calling g mk a) U.heap from dtX_same (u := U) rfl h.2.1), h.2.2⟩
theorem dtWT_good : ∀ w ∈ dtWT, (w.onTables && w.keeps) = true ∨ ∃ ty, w = .arrayClass ty := fun w h => good_of_word (List.mem_filter.mp h).2
theorem dtWT_in {x : MethodName} {code : ByteArray} {maxL : Nat} {rt : Option FieldType} (h : Cond.code x code maxL rt ∈ dtWT) : GoodIn dtWT (.code x code maxL rt :: dtWT) := by
  intro w hw
  rcases List.mem_cons.mp hw with rfl | hw
  · exact ⟨h, dtWT_good _ h⟩
  · exact ⟨hw, dtWT_good _ hw⟩
theorem dtV_sum {E : dtE} {base : Nat} (hE : E.2.2.2.2.2 = .null ∨ ∃ t, E.2.2.2.2.2 = .ref t) (S : List Value) : ((S.map (dtV E base)).map fun v => v.category).sum = (S.map fun v => v.category).sum := by
  rw [List.map_map, show (fun v => v.category) ∘ dtV E base = (fun v => v.category) from funext (fun v => dtV_cat hE)]
theorem dtRoom {d dx maxL N0 Z0 : Nat} {R : Room} {μ μ' F : dtM} (hr : d ≤ R.frames ∧ 40 * d ≤ R.locals ∧ dtN F - N0 ≤ R.cells ∧ dtZ F - Z0 ≤ R.slots) (hdx : dx + 1 ≤ d) (hml : maxL ≤ 21) (h1 : N0 ≤ dtN μ) (h2 : Z0 ≤ dtZ μ) (hM : dtN μ ≤ dtN μ' ∧ dtZ μ ≤ dtZ μ') (k : dtN μ' ≤ dtN F ∧ dtZ μ' ≤ dtZ F) :
    ((dtRm dx (dtN μ' - dtN μ) (dtZ μ' - dtZ μ)).frames + 1 ≤ R.frames ∧ 8 + (maxL + 11) + (dtRm dx (dtN μ' - dtN μ) (dtZ μ' - dtZ μ)).locals ≤ R.locals) ∧ (dtN μ - N0 + (dtN μ' - dtN μ) ≤ R.cells ∧ dtZ μ - Z0 + (dtZ μ' - dtZ μ) ≤ R.slots) := by
  obtain ⟨a, b, c, e⟩ := hr
  refine ⟨⟨Nat.le_trans hdx a, Nat.le_trans (m := 40 * d) ?_ b⟩, by omega, by omega⟩
  show 8 + (maxL + 11) + 40 * dx ≤ 40 * d
  omega
/-- behind a call's run, the caller goes on -/
theorem dtBack {y : MethodName} {cc : ByteArray} {nL : Nat} {ret : Option FieldType} {d : Nat} {r : Option Value} {F : dtM} {pc : Nat} {L : List (Option Value)} {S0 : List Value} {μ μ' : dtM} {rv : Option Value} (k : dtW y cc nL ret d r F (pc + 3) L (rv.toList ++ S0) μ') (hM : dtN μ ≤ dtN μ' ∧ dtZ μ ≤ dtZ μ')
    {p : Program} {l : Launch} {e : Env} {R : Room} {s : State} {m : MethodId} {args : Array Value} {below : List Frame} {meth : Method} {c : Code} {Q : State → Prop} {D : va_G} {E : dtE} {base N0 Z0 : Nat} (K : dtK y cc nL ret d r F p l e R s m args below meth c Q D E base N0 Z0) {H : Heap} {locs : List Loc} {ls : Array Slot} (hs : va_S (dtO base) s.heap H locs) (h1 : N0 ≤ dtN μ) (h2 : Z0 ≤ dtZ μ) (hL : lv_has ls nL (dtP E base 0 L)) {st : List Value} {a : Array Value} {T : State} (hT : T.heap = H) (X : Stand p l e R s m args below meth c T locs (dtN μ - N0) (dtZ μ - Z0))
    (hr : va_Run p l e R s m args below meth c H locs (dtN μ - N0) (dtZ μ - Z0) (dtN μ' - dtN μ) (dtZ μ' - dtZ μ) (F0 m pc ls st) (S0.map (dtV E base)) (dtQc D E base rv μ' a) (dtO base)) : ∃ t, Steps p.tables e below (T.setTop (F0 m pc ls st)) t ∧ Q t := by
  obtain ⟨v, st₀, t, T', L1, h0, X', hL1, e1, e2, ⟨hv, hmem, hz, hk⟩, go⟩ := hr T hT X
  have hv' : v = rv.map (dtV E base) := by
    have := hv
    cases this
    rfl
  subst hv'
  rw [h0] at hz hk
  rw [show dtN μ - N0 + (dtN μ' - dtN μ) = dtN μ' - N0 by omega, show dtZ μ - Z0 + (dtZ μ' - dtZ μ) = dtZ μ' - Z0 by omega] at X'
  have kk := k.2 p l e R s m args below meth c Q D E base N0 Z0 K T'.heap (locs ++ L1) ls (by rw [e1]; exact hmem) ⟨Nat.le_trans hs.1 (by rw [e1]; exact hz), fun q g1 g2 => by rw [e1, hk q (Nat.lt_of_lt_of_le g1 hs.1) g2]; exact hs.2.1 q g1 g2, fun q hq => by
      rcases List.mem_append.mp hq with h | h
      · exact hs.2.2 q h
      · exact hL1 q h⟩ (by omega) (by omega) hL
  rw [List.map_append, show (rv.toList).map (dtV E base) = (rv.map (dtV E base)).toList by cases rv <;> rfl] at kk
  obtain ⟨t2, a1, b1⟩ := kk T' rfl X'
  exact ⟨t2, go t2 a1, b1⟩
theorem dtPre {D : va_G} {E : dtE} {base : Nat} {av : List Value} {μ : dtM} {s : State} {H : Heap} {locs : List Loc} (hst : dtSt D E base s s.heap) (hm : dtMem D E base μ H) (hs : va_S (dtO base) s.heap H locs) (hsz : H.size = base + dtN μ) : PreS s H (dtPc D E base av μ) (av.map (dtV E base)) :=
  ⟨dtPc_blind, fun U hU hW => ⟨rfl, by rw [hU]; exact dtX_warm hW (dtX_kept hst hs.1 hs.2.1), by rw [hU]; exact hm, by rw [hU]; exact hsz⟩⟩
set_option maxHeartbeats 200000 in
theorem dr_callV {y : MethodName} {cc : ByteArray} {nL : Nat} {ret : Option FieldType} {d : Nat} {r : Option Value} {F : dtM} {pc : Nat} {L : List (Option Value)} {S0 : List Value} {μ : dtM} {x : MethodName} {code : ByteArray} {maxL dx np idx : Nat} {rt : Option FieldType} {rv : Option Value} (μ' : dtM) {b ci : Nat} (As : List Value) (hd : decode cc pc = .ok (.invokevirtual idx, 3)) (hM : dtMet x code maxL rt dx (.ref b :: As) μ rv μ') (hmf : dtMF x code maxL rt np) (hin : Cond.instanceMethod x ∈ dtWT) (hsel : Cond.selects x.cls x x ∈ dtWT) (hlk : Cond.methodLink y.cls idx x ∈ dtWT) (hnp : As.length = np) (hb : dtS μ b = (0, ci)) (hci : ci < 13) (hcls : (dtC ci).1 = x.cls) (hdx : dx + 1 ≤ d) (hml : Nat.ble maxL 21 = true) (hsum : Nat.ble ((S0.map fun v => v.category).sum) 8 = true) (k : dtW y cc nL ret d r F (pc + 3) L (rv.toList ++ S0) μ') : dtW y cc nL ret d r F pc L (As.reverse ++ .ref b :: S0) μ := by
  have hbk := k.1
  have hdx' := hdx
  have hml' := Nat.le_of_ble_eq_true hml
  have hMM : dtN μ ≤ dtN μ' ∧ dtZ μ ≤ dtZ μ' := ⟨hM.1, hM.2.1⟩
  refine ⟨⟨Nat.le_trans hM.1 k.1.1, Nat.le_trans hM.2.1 k.1.2⟩, ?_⟩
  intro p l e R s m args below meth c Q D E base N0 Z0 K H locs ls hm hs h1 h2 hL T hT X
  have hsz := dtSize hm hs K.2.2.2.2.2.2.2.2.2.2.1 h1 hT X
  have hr := dtRoom (maxL := maxL) K.2.2.2.2.2.2.2.2.1 hdx' hml' h1 h2 hMM hbk
  have hsum' : 2 * (F0 m pc ls ([] : List Value)).monitorRoom + ((S0.map (dtV E base)).map fun v => v.category).sum ≤ 8 := lv_room (by rw [dtV_sum K.nul]; exact Nat.le_of_ble_eq_true hsum)
  have hMet := hM.2.2 l D E base
  have hlt := hm.lt hb (show 0 < 7 by decide)
  have hav : (Value.ref b :: As).map (dtV E base) = .ref (base + b) :: As.map (dtV E base) := by rw [List.map_cons, dtV_ref (by have := hm.2.2.1; omega)]
  have hpre : PreS s H (dtPc D E base (.ref b :: As) μ) (.ref (base + b) :: As.map (dtV E base)) := hav ▸ dtPre K.st hm hs hsz
  have hrc : ∃ cell : Cell, H[base + b]? = some cell ∧ cell.vm.isStatics = false ∧ s.vm.findClass x.cls = some cell.cls := hcls ▸ va_recv K.st.1 hm.1 (dtC_at ci hci) (by rw [dtWs_at hlt, dtAt_o hb])
  have hstk : (As.reverse ++ .ref b :: S0).map (dtV E base) = (As.map (dtV E base)).reverse ++ .ref (base + b) :: S0.map (dtV E base) := by rw [List.map_append, List.map_reverse, List.map_cons, dtV_ref (by have := hm.2.2.1; omega)]
  rw [hstk]
  refine dtBack k hMM K hs h1 h2 hL hT X (va_runV (As := As.map (dtV E base)) (rest := S0.map (dtV E base)) ⟨K.1, K.2.1, K.2.2.1, K.2.2.2.1, K.2.2.2.2.1⟩ hMet ⟨⟨rfl, rfl, hr.1.1, hr.1.2, pay_in K.2.2.2.2.1 (dtWT_in hmf.1), List.mem_cons_self, K.2.2.2.2.1 _ hmf.1, K.2.2.2.2.1 _ hmf.2.1, hmf.2.2.1, fun sig h => by have h2 := hmf.2.2.2; rw [h] at h2; exact (Option.some.inj h2).symm, K.2.2.2.2.1 _ hlk⟩, K.2.2.2.2.1 _ hin, K.2.2.2.2.1 _ hsel⟩ ⟨hpre.1, hrc, hpre.2⟩ rfl (by rw [List.length_map]; exact hnp) hL.1 rfl hsum' hd hr.2)
set_option maxHeartbeats 200000 in
theorem dr_callS {y : MethodName} {cc : ByteArray} {nL : Nat} {ret : Option FieldType} {d : Nat} {r : Option Value} {F : dtM} {pc : Nat} {L : List (Option Value)} {S0 : List Value} {μ : dtM} {x : MethodName} {code : ByteArray} {maxL dx np idx : Nat} {rt : Option FieldType} {rv : Option Value} (μ' : dtM) (As : List Value) (hd : decode cc pc = .ok (.invokestatic idx, 3)) (hM : dtMet x code maxL rt dx As μ rv μ') (hmf : dtMF x code maxL rt np) (hst : Cond.static x ∈ dtWT) (hlk : Cond.methodLink y.cls idx x ∈ dtWT) (hnp : As.length = np) (hdx : dx + 1 ≤ d) (hml : Nat.ble maxL 21 = true) (hsum : Nat.ble ((S0.map fun v => v.category).sum) 8 = true) (k : dtW y cc nL ret d r F (pc + 3) L (rv.toList ++ S0) μ') : dtW y cc nL ret d r F pc L (As.reverse ++ S0) μ := by
  have hbk := k.1
  have hdx' := hdx
  have hml' := Nat.le_of_ble_eq_true hml
  have hMM : dtN μ ≤ dtN μ' ∧ dtZ μ ≤ dtZ μ' := ⟨hM.1, hM.2.1⟩
  refine ⟨⟨Nat.le_trans hM.1 k.1.1, Nat.le_trans hM.2.1 k.1.2⟩, ?_⟩
  intro p l e R s m args below meth c Q D E base N0 Z0 K H locs ls hm hs h1 h2 hL T hT X
  have hsz := dtSize hm hs K.2.2.2.2.2.2.2.2.2.2.1 h1 hT X
  have hr := dtRoom (maxL := maxL) K.2.2.2.2.2.2.2.2.1 hdx' hml' h1 h2 hMM hbk
  have hsum' : 2 * (F0 m pc ls ([] : List Value)).monitorRoom + ((S0.map (dtV E base)).map fun v => v.category).sum ≤ 8 := lv_room (by rw [dtV_sum K.nul]; exact Nat.le_of_ble_eq_true hsum)
  have hMet := hM.2.2 l D E base
  rw [List.map_append, List.map_reverse]
  refine dtBack k hMM K hs h1 h2 hL hT X (va_runS (As := As.map (dtV E base)) (rest := S0.map (dtV E base)) ⟨K.1, K.2.1, K.2.2.1, K.2.2.2.1, K.2.2.2.2.1⟩ hMet ⟨⟨rfl, rfl, hr.1.1, hr.1.2, pay_in K.2.2.2.2.1 (dtWT_in hmf.1), List.mem_cons_self, K.2.2.2.2.1 _ hmf.1, K.2.2.2.2.1 _ hmf.2.1, hmf.2.2.1, fun sig h => by have h2 := hmf.2.2.2; rw [h] at h2; exact (Option.some.inj h2).symm, K.2.2.2.2.1 _ hlk⟩, K.2.2.2.2.1 _ hst⟩ (dtPre K.st hm hs hsz) rfl (by rw [List.length_map]; exact hnp) hL.1 rfl hsum' hd hr.2)
set_option maxHeartbeats 200000 in
theorem dr_callSN {y : MethodName} {cc : ByteArray} {nL : Nat} {ret : Option FieldType} {d : Nat} {r : Option Value} {F : dtM} {pc : Nat} {L : List (Option Value)} {S0 : List Value} {μ : dtM} {x : MethodName} {code : ByteArray} {maxL dx np idx : Nat} {rt : Option FieldType} {rv : Option Value} (μ' : dtM) {host : String} (As : List Value) (hd : decode cc pc = .ok (.invokestatic idx, 3)) (hM : dtMet x code maxL rt dx As μ rv μ') (hmf : dtMF x code maxL rt np) (hst : Cond.static x ∈ dtWT) (hlk : Cond.methodLinkNest y.cls idx x host ∈ dtNest) (hnp : As.length = np) (hdx : dx + 1 ≤ d) (hml : Nat.ble maxL 21 = true) (hsum : Nat.ble ((S0.map fun v => v.category).sum) 8 = true) (k : dtW y cc nL ret d r F (pc + 3) L (rv.toList ++ S0) μ') : dtW y cc nL ret d r F pc L (As.reverse ++ S0) μ := by
  have hbk := k.1
  have hdx' := hdx
  have hml' := Nat.le_of_ble_eq_true hml
  have hMM : dtN μ ≤ dtN μ' ∧ dtZ μ ≤ dtZ μ' := ⟨hM.1, hM.2.1⟩
  refine ⟨⟨Nat.le_trans hM.1 k.1.1, Nat.le_trans hM.2.1 k.1.2⟩, ?_⟩
  intro p l e R s m args below meth c Q D E base N0 Z0 K H locs ls hm hs h1 h2 hL T hT X
  have hsz := dtSize hm hs K.2.2.2.2.2.2.2.2.2.2.1 h1 hT X
  have hr := dtRoom (maxL := maxL) K.2.2.2.2.2.2.2.2.1 hdx' hml' h1 h2 hMM hbk
  have hsum' : 2 * (F0 m pc ls ([] : List Value)).monitorRoom + ((S0.map (dtV E base)).map fun v => v.category).sum ≤ 8 := lv_room (by rw [dtV_sum K.nul]; exact Nat.le_of_ble_eq_true hsum)
  have hMet := hM.2.2 l D E base
  rw [List.map_append, List.map_reverse]
  refine dtBack k hMM K hs h1 h2 hL hT X (va_runSN (host := host) (As := As.map (dtV E base)) (rest := S0.map (dtV E base)) ⟨K.1, K.2.1, K.2.2.1, K.2.2.2.1, K.2.2.2.2.1⟩ hMet ⟨⟨⟨rfl, rfl, hr.1.1, hr.1.2, pay_in K.2.2.2.2.1 (dtWT_in hmf.1), List.mem_cons_self⟩, K.2.2.2.2.1 _ hmf.1, K.2.2.2.2.1 _ hmf.2.1, hmf.2.2.1, fun sig h => by have h2 := hmf.2.2.2; rw [h] at h2; exact (Option.some.inj h2).symm, va_Nw.use rfl (K.st.2.1.1 _ hlk)⟩, K.2.2.2.2.1 _ hst, trivial⟩ (dtPre K.st hm hs hsz) rfl (by rw [List.length_map]; exact hnp) hL.1 rfl hsum' hd hr.2)
theorem dr_callI {y : MethodName} {cc : ByteArray} {nL : Nat} {ret : Option FieldType} {d : Nat} {r : Option Value} {F : dtM} {pc : Nat} {L : List (Option Value)} {S0 : List Value} {μ : dtM} {x : MethodName} {code : ByteArray} {maxL dx np idx : Nat} (μ' : dtM) {b : Nat} (As : List Value) (hd : decode cc pc = .ok (.invokespecial idx, 3)) (hM : dtMet x code maxL none dx (.ref b :: As) μ none μ') (hmf : dtMF x code maxL none np) (hy1 : x.name = "<init>") (hin : Cond.instanceMethod x ∈ dtWT) (hlk : Cond.methodLink y.cls idx x ∈ dtWT) (hnp : As.length = np) (hb : b < 1000000) (hdx : dx + 1 ≤ d) (hml : Nat.ble maxL 21 = true) (hsum : Nat.ble ((S0.map fun v => v.category).sum) 8 = true) (k : dtW y cc nL ret d r F (pc + 3) L S0 μ') : dtW y cc nL ret d r F pc L (As.reverse ++ .ref b :: S0) μ := by
  have hbk := k.1
  have hdx' := hdx
  have hml' := Nat.le_of_ble_eq_true hml
  have hMM : dtN μ ≤ dtN μ' ∧ dtZ μ ≤ dtZ μ' := ⟨hM.1, hM.2.1⟩
  refine ⟨⟨Nat.le_trans hM.1 k.1.1, Nat.le_trans hM.2.1 k.1.2⟩, ?_⟩
  intro p l e R s m args below meth c Q D E base N0 Z0 K H locs ls hm hs h1 h2 hL T hT X
  have hsz := dtSize hm hs K.2.2.2.2.2.2.2.2.2.2.1 h1 hT X
  have hr := dtRoom (maxL := maxL) K.2.2.2.2.2.2.2.2.1 hdx' hml' h1 h2 hMM hbk
  have hsum' : 2 * (F0 m pc ls ([] : List Value)).monitorRoom + ((S0.map (dtV E base)).map fun v => v.category).sum ≤ 8 := lv_room (by rw [dtV_sum K.nul]; exact Nat.le_of_ble_eq_true hsum)
  have hMet := hM.2.2 l D E base
  have hlt := hb
  have hav : (Value.ref b :: As).map (dtV E base) = .ref (base + b) :: As.map (dtV E base) := by rw [List.map_cons, dtV_ref hb]
  have hpre : PreS s H (dtPc D E base (.ref b :: As) μ) (.ref (base + b) :: As.map (dtV E base)) := hav ▸ dtPre K.st hm hs hsz
  have hstk : (As.reverse ++ .ref b :: S0).map (dtV E base) = (As.map (dtV E base)).reverse ++ .ref (base + b) :: S0.map (dtV E base) := by rw [List.map_append, List.map_reverse, List.map_cons, dtV_ref hb]
  rw [hstk]
  refine dtBack (rv := none) k hMM K hs h1 h2 hL hT X (va_runI (As := As.map (dtV E base)) (rest := S0.map (dtV E base)) ⟨K.1, K.2.1, K.2.2.1, K.2.2.2.1, K.2.2.2.2.1⟩ hMet ⟨⟨rfl, rfl, hr.1.1, hr.1.2, pay_in K.2.2.2.2.1 (dtWT_in hmf.1), List.mem_cons_self, K.2.2.2.2.1 _ hmf.1, K.2.2.2.2.1 _ hmf.2.1, hmf.2.2.1, fun sig h => by have h2 := hmf.2.2.2; rw [h] at h2; exact (Option.some.inj h2).symm, K.2.2.2.2.1 _ hlk⟩, hy1, K.2.2.2.2.1 _ hin⟩ hpre rfl (by rw [List.length_map]; exact hnp) hL.1 rfl hsum' hd hr.2)
theorem dr_callIN {y : MethodName} {cc : ByteArray} {nL : Nat} {ret : Option FieldType} {d : Nat} {r : Option Value} {F : dtM} {pc : Nat} {L : List (Option Value)} {S0 : List Value} {μ : dtM} {x : MethodName} {code : ByteArray} {maxL dx np idx : Nat} (μ' : dtM) {b : Nat} (As : List Value) (hd : decode cc pc = .ok (.invokespecial idx, 3)) (hM : dtMet x code maxL none dx (.ref b :: As) μ none μ') (hmf : dtMF x code maxL none np) (hy1 : x.name = "<init>") (hin : Cond.instanceMethod x ∈ dtWT) {host : String} (hlk : Cond.methodLinkNest y.cls idx x host ∈ dtNest) (hnp : As.length = np) (hb : b < 1000000) (hdx : dx + 1 ≤ d) (hml : Nat.ble maxL 21 = true) (hsum : Nat.ble ((S0.map fun v => v.category).sum) 8 = true) (k : dtW y cc nL ret d r F (pc + 3) L S0 μ') : dtW y cc nL ret d r F pc L (As.reverse ++ .ref b :: S0) μ := by
  have hbk := k.1
  have hdx' := hdx
  have hml' := Nat.le_of_ble_eq_true hml
  have hMM : dtN μ ≤ dtN μ' ∧ dtZ μ ≤ dtZ μ' := ⟨hM.1, hM.2.1⟩
  refine ⟨⟨Nat.le_trans hM.1 k.1.1, Nat.le_trans hM.2.1 k.1.2⟩, ?_⟩
  intro p l e R s m args below meth c Q D E base N0 Z0 K H locs ls hm hs h1 h2 hL T hT X
  have hsz := dtSize hm hs K.2.2.2.2.2.2.2.2.2.2.1 h1 hT X
  have hr := dtRoom (maxL := maxL) K.2.2.2.2.2.2.2.2.1 hdx' hml' h1 h2 hMM hbk
  have hsum' : 2 * (F0 m pc ls ([] : List Value)).monitorRoom + ((S0.map (dtV E base)).map fun v => v.category).sum ≤ 8 := lv_room (by rw [dtV_sum K.nul]; exact Nat.le_of_ble_eq_true hsum)
  have hMet := hM.2.2 l D E base
  have hlt := hb
  have hav : (Value.ref b :: As).map (dtV E base) = .ref (base + b) :: As.map (dtV E base) := by rw [List.map_cons, dtV_ref hb]
  have hpre : PreS s H (dtPc D E base (.ref b :: As) μ) (.ref (base + b) :: As.map (dtV E base)) := hav ▸ dtPre K.st hm hs hsz
  have hstk : (As.reverse ++ .ref b :: S0).map (dtV E base) = (As.map (dtV E base)).reverse ++ .ref (base + b) :: S0.map (dtV E base) := by rw [List.map_append, List.map_reverse, List.map_cons, dtV_ref hb]
  rw [hstk]
  refine dtBack (rv := none) k hMM K hs h1 h2 hL hT X (va_runIN (host := host) (As := As.map (dtV E base)) (rest := S0.map (dtV E base)) ⟨K.1, K.2.1, K.2.2.1, K.2.2.2.1, K.2.2.2.2.1⟩ hMet ⟨⟨⟨rfl, rfl, hr.1.1, hr.1.2, pay_in K.2.2.2.2.1 (dtWT_in hmf.1), List.mem_cons_self⟩, K.2.2.2.2.1 _ hmf.1, K.2.2.2.2.1 _ hmf.2.1, hmf.2.2.1, fun sig h => by have h2 := hmf.2.2.2; rw [h] at h2; exact (Option.some.inj h2).symm, va_Nw.use rfl (K.st.2.1.1 _ hlk)⟩, hy1, K.2.2.2.2.1 _ hin⟩ hpre rfl (by rw [List.length_map]; exact hnp) hL.1 rfl hsum' hd hr.2)
theorem dr_objInit {y : MethodName} {cc : ByteArray} {nL : Nat} {ret : Option FieldType} {d : Nat} {r : Option Value} {F : dtM} {pc : Nat} {L : List (Option Value)} {S0 : List Value} {μ : dtM} {idx b : Nat} (hd : decode cc pc = .ok (.invokespecial idx, 3)) (hlk : Cond.methodLink y.cls idx Lib.objectInit ∈ dtWT) (hin : Cond.instanceMethod Lib.objectInit ∈ dtWT) (hco : Cond.code Lib.objectInit ⟨#[0xb1]⟩ 1 none ∈ dtWT) (hb : b < 1000000) (hd1 : 1 ≤ d) (hsum : Nat.ble ((S0.map fun v => v.category).sum) 8 = true) (k : dtW y cc nL ret d r F (pc + 3) L S0 μ) : dtW y cc nL ret d r F pc L (.ref b :: S0) μ := by
  refine ⟨k.1, ?_⟩
  intro p l e R s m args below meth c Q D E base N0 Z0 K H locs ls hm hs h1 h2 hL
  have hr := K.2.2.2.2.2.2.2.2.1
  have hd1' := hd1
  have hs8 := Nat.le_of_ble_eq_true hsum
  rw [List.map_cons, dtV_ref hb]
  exact W.objInit (own := y.cls) K.1 K.2.1 K.2.2.2.1 (K.2.2.2.2.1 _ hlk) (K.2.2.2.2.1 _ hin) (K.2.2.2.2.1 _ hco) rfl (by rw [K.2.2.1]; exact hL.1) rfl hd (Nat.le_trans hd1' hr.1) (by
    show 2 * 0 + ((S0.map (dtV E base)).map fun v => v.category).sum + 12 ≤ _
    have := hr.2.1; rw [dtV_sum K.nul]; omega) (k.2 p l e R s m args below meth c Q D E base N0 Z0 K H locs ls hm hs h1 h2 hL)
