theorem dtSize {D : va_G} {E : dtE} {base N0 sl : Nat} {μ : dtM} {H : Heap} {p : Program} {l : Launch} {e : Env} {R : Room} {s T : State} {m : MethodId} {args : Array Value} {below : List Frame} {meth : Method} {c : Code} {locs : List Loc} (hm : dtMem D E base μ H) (hs : va_S (dtO base) s.heap H locs) (h0 : s.heap.size = base + N0) (h1 : N0 ≤ dtN μ) (hT : T.heap = H) (X : Stand p l e R s m args below meth c T locs (dtN μ - N0) sl) : H.size = base + dtN μ := by
  have a := X.heapSize
  rw [hT] at a
  have b := hs.1
  rcases Nat.eq_zero_or_pos (dtN μ) with q | q
  · omega
  · have c := (hm.1 (dtN μ - 1) _ (dtWs_at (by omega))).lt
    have c' : base + (dtN μ - 1) < H.size := c
    omega
theorem dtSized {D : va_G} {E : dtE} {base N0 sl : Nat} {μ : dtM} {H : Heap} {p : Program} {l : Launch} {e : Env} {R : Room} {s : State} {m : MethodId} {args : Array Value} {below : List Frame} {meth : Method} {c : Code} {locs : List Loc} {Q : State → Prop} {g : JFrame} (hm : dtMem D E base μ H) (hs : va_S (dtO base) s.heap H locs) (h0 : s.heap.size = base + N0) (h1 : N0 ≤ dtN μ) (w : H.size = base + dtN μ → W p l e R s m args below meth c H locs (dtN μ - N0) sl Q g) : W p l e R s m args below meth c H locs (dtN μ - N0) sl Q g := fun T hT X => w (dtSize hm hs h0 h1 hT X) T hT X
theorem dtMem.new {D : va_G} {E : dtE} {base n : Nat} {kd : Nat × Nat} {μ : dtM} {H H1 : Heap} (h : dtMem D E base μ H) (hz : H.size = base + dtN μ) (h9 : dtN μ < 900000) (o1 : ∀ q, q < base + dtN μ → H1[q]? = H[q]?) (hx : va_at D vwCl (base + dtN μ, dtEl E base kd (fun _ => 0) (fun _ => 0) (fun _ => none)) H1) : dtMem D E base (dtNew μ kd n) H1 := by
  refine ⟨?_, fun k hk hx => ?_, ?_, fun a b w hw => ?_, ?_, ?_⟩
  · rw [← dtWs_new (E := E) (base := base) (μ := μ) (kd := kd) (n := n) rfl]
    refine va_P.app (h.1.kept fun k q hq => ?_) (fun k q hq => ?_)
    · obtain ⟨hl, rfl⟩ := dtWs_of hq
      exact o1 _ (show base + k < base + dtN μ by omega)
    · have hz : k < 1 := (List.getElem?_eq_some_iff.mp hq).1
      rw [show k = 0 by omega] at hq
      cases hq
      exact hx
  · have hk' : dtN μ + 1 ≤ k := hk
    show (if k = dtN μ then kd else dtS μ k) = _
    rw [if_neg (by omega)]
    exact h.2.1 k (by omega) hx
  · show dtN μ + 1 ≤ 900000
    omega
  · have hw' : dtRow (dtR μ) (dtN μ) (fun _ => none) a b = some w := hw
    by_cases ha : a = dtN μ
    · subst ha
      rw [dtRow_s] at hw'
      cases hw'
    · rw [dtRow_n _ _ ha] at hw'
      exact h.2.2.2.1 _ _ _ hw'
  · show (if 1000000 = dtN μ then kd else dtS μ 1000000) = _
    rw [if_neg (by omega)]
    exact h.2.2.2.2.1
  · show dtRow (dtI μ) (dtN μ) (fun _ => 0) 1000000 = _
    rw [dtRow_n _ _ (by omega)]
    exact h.2.2.2.2.2
theorem dtS_new {base : Nat} {s : State} {H H1 : Heap} {locs : List Loc} {n : Nat} (hs : va_S (dtO base) s.heap H locs) (hz : H.size = n) (z1 : H1.size = n + 1) (o1 : ∀ q, q < n → H1[q]? = H[q]?) : va_S (dtO base) s.heap H1 locs := by
  refine ⟨by have := hs.1; omega, fun q h1 h2 => ?_, hs.2.2⟩
  rw [o1 q (by have := hs.1; omega)]
  exact hs.2.1 q h1 h2
theorem dtNew_fs {E : dtE} {base ci : Nat} (hci : ci < 13) : ∀ j, j < (dtC ci).2.2 → defaultValue (dtTy ci j) = vp_V (dtFs E base ci (fun _ => 0) (fun _ => 0) (fun _ => none)) j := by
  intro j hj
  rw [vp_V, List.getD_eq_getElem?_getD, dtFs_at hj]
  rcases dtC_kd ci hci j hj with q | q | q | q
  · rw [q]; rfl
  · rw [q]; rfl
  · rw [q]; rfl
  · have : (∃ n, dtTy ci j = .object n) ∨ ∃ n, dtTy ci j = .array n := by revert q; cases dtTy ci j <;> intro q <;> first | exact Or.inl ⟨_, rfl⟩ | exact Or.inr ⟨_, rfl⟩ | exact absurd q (by decide)
    rcases this with ⟨n, h⟩ | ⟨n, h⟩ <;> rw [h] <;> rfl
set_option maxHeartbeats 200000 in
theorem dr_new {y : MethodName} {cc : ByteArray} {nL : Nat} {ret : Option FieldType} {d : Nat} {r : Option Value} {F : dtM} {pc : Nat} {L : List (Option Value)} {S : List Value} {μ : dtM} {idx ci : Nat} (q : Nat) (μ' : dtM) (hd : decode cc pc = .ok (.new idx, 3)) (hcl : Cond.classLink y.cls idx (dtC ci).1 ∈ dtWT) (hin : Cond.instantiable (dtC ci).1 (dtC ci).2.2 ∈ dtWT) (hini : Cond.initialized (dtC ci).1 ∈ dtWT) (hci : ci < 13) (hv : opNew ci μ = some (q, μ')) (k : dtW y cc nL ret d r F (pc + 3) L (.ref q :: S) μ') : dtW y cc nL ret d r F pc L S μ := by
  obtain ⟨hk, e⟩ := dtIf hv
  cases e
  have hb1 : dtN μ + 1 ≤ dtN F := k.1.1
  have hb2 : dtZ μ + (dtC ci).2.2 ≤ dtZ F := k.1.2
  refine ⟨⟨by omega, by omega⟩, ?_⟩
  intro p l e R s m args below meth c Q D E base N0 Z0 K H locs ls hm hs h1 h2 hL
  refine dtSized hm hs K.2.2.2.2.2.2.2.2.2.2.1 h1 (fun hsz => ?_)
  have hr := K.2.2.2.2.2.2.2.2.1
  have hKn := K.st.1.1 ci _ (dtC_at ci hci)
  refine W.newcK (own := y.cls) (C := (dtC ci).1) (n := (dtC ci).2.2) K.1 K.2.1 K.2.2.2.1 (K.2.2.2.2.1 _ hcl) (K.2.2.2.2.1 _ hin) (K.2.2.2.2.1 _ hini) rfl hd (by have := hr.2.2.1; omega) (by have := hr.2.2.2; omega) hKn.2.1 hsz (fun H1 kC hkC e1 z1 o1 => ?_)
  refine W.cs (cells' := dtN (dtNew μ (0, ci) (dtC ci).2.2) - N0) (slots' := dtZ (dtNew μ (0, ci) (dtC ci).2.2) - Z0) (by show _ = dtN μ + 1 - N0; omega) (by show _ = dtZ μ + _ - Z0; omega) ?_
  have kk := k.2 p l e R s m args below meth c Q D E base N0 Z0 K H1 locs ls (hm.new hsz hk o1 ⟨_, dtC_at ci hci, (u_born (dtTy ci) K.2.2.2.2.1 (dtC_in ci hci) hKn hkC e1 (dtC_ty ci hci)).to (dtNew_fs hci)⟩) (dtS_new hs hsz z1 o1) (by show N0 ≤ dtN μ + 1; omega) (by show Z0 ≤ dtZ μ + _; omega) hL
  rw [List.map_cons, dtV_ref (by omega)] at kk
  exact kk
set_option maxHeartbeats 200000 in
theorem dr_newarray_i {y : MethodName} {cc : ByteArray} {nL : Nat} {ret : Option FieldType} {d : Nat} {r : Option Value} {F : dtM} {pc : Nat} {L : List (Option Value)} {S : List Value} {μ : dtM} {n : Int32} (q : Nat) (μ' : dtM) (hd : decode cc pc = .ok (.newarray .int, 2)) (harr : Cond.arrayClass .int ∈ dtWT) (hv : opNA 1 μ n = some (q, μ')) (k : dtW y cc nL ret d r F (pc + 2) L (.ref q :: S) μ') : dtW y cc nL ret d r F pc L (.int n :: S) μ := by
  obtain ⟨hk, e⟩ := dtIf hv
  cases e
  have hb1 : dtN μ + 1 ≤ dtN F := k.1.1
  have hb2 : dtZ μ + n.toNatClampNeg ≤ dtZ F := k.1.2
  refine ⟨⟨by omega, by omega⟩, ?_⟩
  intro p l e R s m args below meth c Q D E base N0 Z0 K H locs ls hm hs h1 h2 hL
  refine dtSized hm hs K.2.2.2.2.2.2.2.2.2.2.1 h1 (fun hsz => ?_)
  have hr := K.2.2.2.2.2.2.2.2.1
  have hA : s.vm.findClass ("[" ++ (FieldType.int).toString) = some E.1.1 := (K.st.1.2 0 (E.1.1, .int) rfl).2
  refine va_newaK (atype := .int) (N := n.toNatClampNeg) K.1 K.2.1 (K.2.2.2.2.1 _ harr) rfl hd rfl hk.2.1 rfl (Nat.le_trans (Nat.mul_le_mul hk.2.2 (show componentBytes .int ≤ 8 by decide)) (by decide)) (by have := hr.2.2.1; omega) (by have := hr.2.2.2; omega) hsz (fun H1 cA e1 z1 o1 _ hn => ?_)
  cases hA.symm.trans hn
  refine W.cs (cells' := dtN (dtNew μ (1, n.toNatClampNeg) n.toNatClampNeg) - N0) (slots' := dtZ (dtNew μ (1, n.toNatClampNeg) n.toNatClampNeg) - Z0) (by show _ = dtN μ + 1 - N0; omega) (by show _ = dtZ μ + _ - Z0; omega) ?_
  have kk := k.2 p l e R s m args below meth c Q D E base N0 Z0 K H1 locs ls (hm.new hsz hk.1 o1 e1) (dtS_new hs hsz z1 o1) (by show N0 ≤ dtN μ + 1; omega) (by show Z0 ≤ dtZ μ + _; omega) hL
  rw [List.map_cons, dtV_ref (by omega)] at kk
  exact kk
set_option maxHeartbeats 200000 in
theorem dr_newarray_b {y : MethodName} {cc : ByteArray} {nL : Nat} {ret : Option FieldType} {d : Nat} {r : Option Value} {F : dtM} {pc : Nat} {L : List (Option Value)} {S : List Value} {μ : dtM} {n : Int32} (q : Nat) (μ' : dtM) (hd : decode cc pc = .ok (.newarray .byte, 2)) (harr : Cond.arrayClass .byte ∈ dtWT) (hv : opNA 2 μ n = some (q, μ')) (k : dtW y cc nL ret d r F (pc + 2) L (.ref q :: S) μ') : dtW y cc nL ret d r F pc L (.int n :: S) μ := by
  obtain ⟨hk, e⟩ := dtIf hv
  cases e
  have hb1 : dtN μ + 1 ≤ dtN F := k.1.1
  have hb2 : dtZ μ + n.toNatClampNeg ≤ dtZ F := k.1.2
  refine ⟨⟨by omega, by omega⟩, ?_⟩
  intro p l e R s m args below meth c Q D E base N0 Z0 K H locs ls hm hs h1 h2 hL
  refine dtSized hm hs K.2.2.2.2.2.2.2.2.2.2.1 h1 (fun hsz => ?_)
  have hr := K.2.2.2.2.2.2.2.2.1
  have hA : s.vm.findClass ("[" ++ (FieldType.byte).toString) = some E.1.2.1 := (K.st.1.2 1 (E.1.2.1, .byte) rfl).2
  refine va_newaK (atype := .byte) (N := n.toNatClampNeg) K.1 K.2.1 (K.2.2.2.2.1 _ harr) rfl hd rfl hk.2.1 rfl (Nat.le_trans (Nat.mul_le_mul hk.2.2 (show componentBytes .byte ≤ 8 by decide)) (by decide)) (by have := hr.2.2.1; omega) (by have := hr.2.2.2; omega) hsz (fun H1 cA e1 z1 o1 _ hn => ?_)
  cases hA.symm.trans hn
  refine W.cs (cells' := dtN (dtNew μ (2, n.toNatClampNeg) n.toNatClampNeg) - N0) (slots' := dtZ (dtNew μ (2, n.toNatClampNeg) n.toNatClampNeg) - Z0) (by show _ = dtN μ + 1 - N0; omega) (by show _ = dtZ μ + _ - Z0; omega) ?_
  have kk := k.2 p l e R s m args below meth c Q D E base N0 Z0 K H1 locs ls (hm.new hsz hk.1 o1 e1) (dtS_new hs hsz z1 o1) (by show N0 ≤ dtN μ + 1; omega) (by show Z0 ≤ dtZ μ + _; omega) hL
  rw [List.map_cons, dtV_ref (by omega)] at kk
  exact kk
set_option maxHeartbeats 200000 in
theorem dr_newarray_l {y : MethodName} {cc : ByteArray} {nL : Nat} {ret : Option FieldType} {d : Nat} {r : Option Value} {F : dtM} {pc : Nat} {L : List (Option Value)} {S : List Value} {μ : dtM} {n : Int32} (q : Nat) (μ' : dtM) (hd : decode cc pc = .ok (.newarray .long, 2)) (harr : Cond.arrayClass .long ∈ dtWT) (hv : opNA 3 μ n = some (q, μ')) (k : dtW y cc nL ret d r F (pc + 2) L (.ref q :: S) μ') : dtW y cc nL ret d r F pc L (.int n :: S) μ := by
  obtain ⟨hk, e⟩ := dtIf hv
  cases e
  have hb1 : dtN μ + 1 ≤ dtN F := k.1.1
  have hb2 : dtZ μ + n.toNatClampNeg ≤ dtZ F := k.1.2
  refine ⟨⟨by omega, by omega⟩, ?_⟩
  intro p l e R s m args below meth c Q D E base N0 Z0 K H locs ls hm hs h1 h2 hL
  refine dtSized hm hs K.2.2.2.2.2.2.2.2.2.2.1 h1 (fun hsz => ?_)
  have hr := K.2.2.2.2.2.2.2.2.1
  have hA : s.vm.findClass ("[" ++ (FieldType.long).toString) = some E.1.2.2.1 := (K.st.1.2 2 (E.1.2.2.1, .long) rfl).2
  refine va_newaK (atype := .long) (N := n.toNatClampNeg) K.1 K.2.1 (K.2.2.2.2.1 _ harr) rfl hd rfl hk.2.1 rfl (Nat.le_trans (Nat.mul_le_mul hk.2.2 (show componentBytes .long ≤ 8 by decide)) (by decide)) (by have := hr.2.2.1; omega) (by have := hr.2.2.2; omega) hsz (fun H1 cA e1 z1 o1 _ hn => ?_)
  cases hA.symm.trans hn
  refine W.cs (cells' := dtN (dtNew μ (3, n.toNatClampNeg) n.toNatClampNeg) - N0) (slots' := dtZ (dtNew μ (3, n.toNatClampNeg) n.toNatClampNeg) - Z0) (by show _ = dtN μ + 1 - N0; omega) (by show _ = dtZ μ + _ - Z0; omega) ?_
  have kk := k.2 p l e R s m args below meth c Q D E base N0 Z0 K H1 locs ls (hm.new hsz hk.1 o1 e1) (dtS_new hs hsz z1 o1) (by show N0 ≤ dtN μ + 1; omega) (by show Z0 ≤ dtZ μ + _; omega) hL
  rw [List.map_cons, dtV_ref (by omega)] at kk
  exact kk
set_option maxHeartbeats 200000 in
theorem dr_anewarray4 {y : MethodName} {cc : ByteArray} {nL : Nat} {ret : Option FieldType} {d : Nat} {r : Option Value} {F : dtM} {pc : Nat} {L : List (Option Value)} {S : List Value} {μ : dtM} {idx : Nat} {n : Int32} (q : Nat) (μ' : dtM) (hd : decode cc pc = .ok (.anewarray idx, 3)) (hcl : Cond.classLink y.cls idx RX9 ∈ dtWT) (hv : opNA 4 μ n = some (q, μ')) (k : dtW y cc nL ret d r F (pc + 3) L (.ref q :: S) μ') : dtW y cc nL ret d r F pc L (.int n :: S) μ := by
  obtain ⟨hk, e⟩ := dtIf hv
  cases e
  have hb1 : dtN μ + 1 ≤ dtN F := k.1.1
  have hb2 : dtZ μ + n.toNatClampNeg ≤ dtZ F := k.1.2
  refine ⟨⟨by omega, by omega⟩, ?_⟩
  intro p l e R s m args below meth c Q D E base N0 Z0 K H locs ls hm hs h1 h2 hL
  refine dtSized hm hs K.2.2.2.2.2.2.2.2.2.2.1 h1 (fun hsz => ?_)
  have hr := K.2.2.2.2.2.2.2.2.1
  obtain ⟨-, -, -, -, -, hA⟩ := (K.st.1.2 3 (E.1.2.2.2.1, .object RX9) rfl).2
  refine W.anew (own := y.cls) (C := RX9) K.1 K.2.1 K.2.2.2.1 (K.2.2.2.2.1 _ hcl) (va_AO.use K.st.2.1.2.1) rfl hd rfl hk.2.1 (by omega) (by have := hr.2.2.1; omega) (by have := hr.2.2.2; omega) (fun cA kA comp f1 f2 f3 f4 => ?_)
  cases hA.symm.trans f1
  rw [hsz]
  generalize hH1 : H.push ({ cls := E.1.2.2.2.1, slots := Array.replicate n.toNatClampNeg .null, vm := .none } : Cell) = H1
  have z1 : H1.size = base + dtN μ + 1 := by rw [← hH1, Array.size_push, hsz]
  have e1 : H1[base + dtN μ]? = some (arrV E.1.2.2.2.1 n.toNatClampNeg (fun _ => .null)) := by rw [← hH1, ← hsz, Array.getElem?_push_size, ← arrV_new]
  have o1 : ∀ q : Nat, q < base + dtN μ → H1[q]? = H[q]? := fun q hq => by rw [← hH1, Array.getElem?_push, if_neg (by omega)]
  refine W.cs (cells' := dtN (dtNew μ (4, n.toNatClampNeg) n.toNatClampNeg) - N0) (slots' := dtZ (dtNew μ (4, n.toNatClampNeg) n.toNatClampNeg) - Z0) (by show _ = dtN μ + 1 - N0; omega) (by show _ = dtZ μ + _ - Z0; omega) ?_
  have kk := k.2 p l e R s m args below meth c Q D E base N0 Z0 K H1 locs ls (hm.new hsz hk.1 o1 e1) (dtS_new hs hsz z1 o1) (by show N0 ≤ dtN μ + 1; omega) (by show Z0 ≤ dtZ μ + _; omega) hL
  rw [List.map_cons, dtV_ref (by omega)] at kk
  exact kk
set_option maxHeartbeats 200000 in
theorem dr_anewarray5 {y : MethodName} {cc : ByteArray} {nL : Nat} {ret : Option FieldType} {d : Nat} {r : Option Value} {F : dtM} {pc : Nat} {L : List (Option Value)} {S : List Value} {μ : dtM} {idx : Nat} {n : Int32} (q : Nat) (μ' : dtM) (hd : decode cc pc = .ok (.anewarray idx, 3)) (hcl : Cond.classLink y.cls idx RX3 ∈ dtWT) (hv : opNA 5 μ n = some (q, μ')) (k : dtW y cc nL ret d r F (pc + 3) L (.ref q :: S) μ') : dtW y cc nL ret d r F pc L (.int n :: S) μ := by
  obtain ⟨hk, e⟩ := dtIf hv
  cases e
  have hb1 : dtN μ + 1 ≤ dtN F := k.1.1
  have hb2 : dtZ μ + n.toNatClampNeg ≤ dtZ F := k.1.2
  refine ⟨⟨by omega, by omega⟩, ?_⟩
  intro p l e R s m args below meth c Q D E base N0 Z0 K H locs ls hm hs h1 h2 hL
  refine dtSized hm hs K.2.2.2.2.2.2.2.2.2.2.1 h1 (fun hsz => ?_)
  have hr := K.2.2.2.2.2.2.2.2.1
  obtain ⟨-, -, -, -, -, hA⟩ := (K.st.1.2 4 (E.1.2.2.2.2.1, .object RX3) rfl).2
  refine W.anew (own := y.cls) (C := RX3) K.1 K.2.1 K.2.2.2.1 (K.2.2.2.2.1 _ hcl) (va_AO.use K.st.2.1.2.2.1) rfl hd rfl hk.2.1 (by omega) (by have := hr.2.2.1; omega) (by have := hr.2.2.2; omega) (fun cA kA comp f1 f2 f3 f4 => ?_)
  cases hA.symm.trans f1
  rw [hsz]
  generalize hH1 : H.push ({ cls := E.1.2.2.2.2.1, slots := Array.replicate n.toNatClampNeg .null, vm := .none } : Cell) = H1
  have z1 : H1.size = base + dtN μ + 1 := by rw [← hH1, Array.size_push, hsz]
  have e1 : H1[base + dtN μ]? = some (arrV E.1.2.2.2.2.1 n.toNatClampNeg (fun _ => .null)) := by rw [← hH1, ← hsz, Array.getElem?_push_size, ← arrV_new]
  have o1 : ∀ q : Nat, q < base + dtN μ → H1[q]? = H[q]? := fun q hq => by rw [← hH1, Array.getElem?_push, if_neg (by omega)]
  refine W.cs (cells' := dtN (dtNew μ (5, n.toNatClampNeg) n.toNatClampNeg) - N0) (slots' := dtZ (dtNew μ (5, n.toNatClampNeg) n.toNatClampNeg) - Z0) (by show _ = dtN μ + 1 - N0; omega) (by show _ = dtZ μ + _ - Z0; omega) ?_
  have kk := k.2 p l e R s m args below meth c Q D E base N0 Z0 K H1 locs ls (hm.new hsz hk.1 o1 e1) (dtS_new hs hsz z1 o1) (by show N0 ≤ dtN μ + 1; omega) (by show Z0 ≤ dtZ μ + _; omega) hL
  rw [List.map_cons, dtV_ref (by omega)] at kk
  exact kk
set_option maxHeartbeats 200000 in
theorem dr_anewarray6 {y : MethodName} {cc : ByteArray} {nL : Nat} {ret : Option FieldType} {d : Nat} {r : Option Value} {F : dtM} {pc : Nat} {L : List (Option Value)} {S : List Value} {μ : dtM} {idx : Nat} {n : Int32} (q : Nat) (μ' : dtM) (hd : decode cc pc = .ok (.anewarray idx, 3)) (hcl : Cond.classLink y.cls idx RX0 ∈ dtWT) (hv : opNA 6 μ n = some (q, μ')) (k : dtW y cc nL ret d r F (pc + 3) L (.ref q :: S) μ') : dtW y cc nL ret d r F pc L (.int n :: S) μ := by
  obtain ⟨hk, e⟩ := dtIf hv
  cases e
  have hb1 : dtN μ + 1 ≤ dtN F := k.1.1
  have hb2 : dtZ μ + n.toNatClampNeg ≤ dtZ F := k.1.2
  refine ⟨⟨by omega, by omega⟩, ?_⟩
  intro p l e R s m args below meth c Q D E base N0 Z0 K H locs ls hm hs h1 h2 hL
  refine dtSized hm hs K.2.2.2.2.2.2.2.2.2.2.1 h1 (fun hsz => ?_)
  have hr := K.2.2.2.2.2.2.2.2.1
  obtain ⟨-, -, -, -, -, hA⟩ := (K.st.1.2 5 (E.1.2.2.2.2.2, .object RX0) rfl).2
  refine W.anew (own := y.cls) (C := RX0) K.1 K.2.1 K.2.2.2.1 (K.2.2.2.2.1 _ hcl) (va_AO.use K.st.2.1.2.2.2) rfl hd rfl hk.2.1 (by omega) (by have := hr.2.2.1; omega) (by have := hr.2.2.2; omega) (fun cA kA comp f1 f2 f3 f4 => ?_)
  cases hA.symm.trans f1
  rw [hsz]
  generalize hH1 : H.push ({ cls := E.1.2.2.2.2.2, slots := Array.replicate n.toNatClampNeg .null, vm := .none } : Cell) = H1
  have z1 : H1.size = base + dtN μ + 1 := by rw [← hH1, Array.size_push, hsz]
  have e1 : H1[base + dtN μ]? = some (arrV E.1.2.2.2.2.2 n.toNatClampNeg (fun _ => .null)) := by rw [← hH1, ← hsz, Array.getElem?_push_size, ← arrV_new]
  have o1 : ∀ q : Nat, q < base + dtN μ → H1[q]? = H[q]? := fun q hq => by rw [← hH1, Array.getElem?_push, if_neg (by omega)]
  refine W.cs (cells' := dtN (dtNew μ (6, n.toNatClampNeg) n.toNatClampNeg) - N0) (slots' := dtZ (dtNew μ (6, n.toNatClampNeg) n.toNatClampNeg) - Z0) (by show _ = dtN μ + 1 - N0; omega) (by show _ = dtZ μ + _ - Z0; omega) ?_
  have kk := k.2 p l e R s m args below meth c Q D E base N0 Z0 K H1 locs ls (hm.new hsz hk.1 o1 e1) (dtS_new hs hsz z1 o1) (by show N0 ≤ dtN μ + 1; omega) (by show Z0 ≤ dtZ μ + _; omega) hL
  rw [List.map_cons, dtV_ref (by omega)] at kk
  exact kk
set_option maxHeartbeats 200000 in
theorem dr_copy_i {y : MethodName} {cc : ByteArray} {nL : Nat} {ret : Option FieldType} {d : Nat} {r : Option Value} {F : dtM} {pc : Nat} {L : List (Option Value)} {S : List Value} {μ : dtM} {idx a b : Nat} {sp dp n : Int32} (μ' : dtM) (hd : decode cc pc = .ok (.invokestatic idx, 3)) (hlk : Cond.methodLink y.cls idx arraycopyName ∈ dtWT) (hnat : Cond.native arraycopyName ∈ dtWT) (hst : Cond.static arraycopyName ∈ dtWT) (hini : Cond.initialized "java/lang/System" ∈ dtWT) (hd1 : 1 ≤ d) (hsum : Nat.ble ((S.map fun v => v.category).sum) 8 = true) (hv : opCI μ a sp b dp n = some μ') (k : dtW y cc nL ret d r F (pc + 3) L S μ') : dtW y cc nL ret d r F pc L (.int n :: .int dp :: .ref b :: .int sp :: .ref a :: S) μ := by
  obtain ⟨hk, rfl⟩ := dtIf hv
  refine ⟨k.1, ?_⟩
  intro p l e R s m args below meth c Q D E base N0 Z0 K H locs ls hm hs h1 h2 hL
  have hla := hm.lt (k := a) rfl (by rw [hk.1.1]; decide)
  have hlb := hm.lt (k := b) rfl (by rw [hk.1.2]; decide)
  have hr := K.2.2.2.2.2.2.2.2.1
  simp only [List.map_cons]
  rw [dtV_ref (k := a) (by have := hm.2.2.1; omega), dtV_ref (k := b) (by have := hm.2.2.1; omega)]
  refine va_copyi (own := y.cls) (H0 := s.heap) (A := dtO base) (n0 := (dtS μ a).2) (n1 := (dtS μ b).2) (f := dtI μ a) (g := dtI μ b) K.1 K.2.1 (by rw [K.2.2.1, hL.1]) K.2.2.2.1 (K.2.2.2.2.1 _ hlk) (K.2.2.2.2.1 _ hnat) (K.2.2.2.2.1 _ hst) (K.2.2.2.2.1 _ hini) K.st.1 hm.1 dtWs_D hs a b 0 0 (ty := .int) (by rw [dtWs_at hla, dtAt, dtEl, hk.1.1]; rfl) (by rw [dtWs_at hlb, dtAt, dtEl, hk.1.2]; rfl) rfl rfl rfl hk.2.1.1 hk.2.1.2.1 hk.2.1.2.2 hk.2.2.1 hk.2.2.2 (fun i hi => rfl) (Nat.le_trans hd1 hr.1) (by
    have hr21 := hr.2.1
    rw [List.map_map, show (fun v => v.category) ∘ dtV E base = (fun v => v.category) from funext (fun v => dtV_cat K.nul)]
    have := Nat.le_of_ble_eq_true hsum
    have : nativeFrameWords "java/lang/System" "arraycopy" 5 + 11 ≤ 30 := by decide
    omega) hd (fun H1 locs1 hP _ hs1 => ?_)
  refine k.2 p l e R s m args below meth c Q D E base N0 Z0 K H1 locs1 ls (hm.of ?_ rfl rfl hm.2.2.2.1 (dtRow_n _ _ (by have := hm.2.2.1; omega))) hs1 h1 h2 hL
  rw [dtWs_RI (g := va_cpy (dtI μ a) (dtI μ b) sp.toNatClampNeg dp.toNatClampNeg n.toNatClampNeg) (by rw [dtEl, hk.1.2]; rfl)] at hP
  exact hP
set_option maxHeartbeats 200000 in
theorem dr_copy_l {y : MethodName} {cc : ByteArray} {nL : Nat} {ret : Option FieldType} {d : Nat} {r : Option Value} {F : dtM} {pc : Nat} {L : List (Option Value)} {S : List Value} {μ : dtM} {idx a b : Nat} {sp dp n : Int32} (μ' : dtM) (hd : decode cc pc = .ok (.invokestatic idx, 3)) (hlk : Cond.methodLink y.cls idx arraycopyName ∈ dtWT) (hnat : Cond.native arraycopyName ∈ dtWT) (hst : Cond.static arraycopyName ∈ dtWT) (hini : Cond.initialized "java/lang/System" ∈ dtWT) (hd1 : 1 ≤ d) (hsum : Nat.ble ((S.map fun v => v.category).sum) 8 = true) (hv : opCJ μ a sp b dp n = some μ') (k : dtW y cc nL ret d r F (pc + 3) L S μ') : dtW y cc nL ret d r F pc L (.int n :: .int dp :: .ref b :: .int sp :: .ref a :: S) μ := by
  obtain ⟨hk, rfl⟩ := dtIf hv
  refine ⟨k.1, ?_⟩
  intro p l e R s m args below meth c Q D E base N0 Z0 K H locs ls hm hs h1 h2 hL
  have hla := hm.lt (k := a) rfl (by rw [hk.1.1]; decide)
  have hlb := hm.lt (k := b) rfl (by rw [hk.1.2]; decide)
  have hr := K.2.2.2.2.2.2.2.2.1
  simp only [List.map_cons]
  rw [dtV_ref (k := a) (by have := hm.2.2.1; omega), dtV_ref (k := b) (by have := hm.2.2.1; omega)]
  refine va_copyl (own := y.cls) (H0 := s.heap) (A := dtO base) (n0 := (dtS μ a).2) (n1 := (dtS μ b).2) (f := dtJ μ a) (g := dtJ μ b) K.1 K.2.1 (by rw [K.2.2.1, hL.1]) K.2.2.2.1 (K.2.2.2.2.1 _ hlk) (K.2.2.2.2.1 _ hnat) (K.2.2.2.2.1 _ hst) (K.2.2.2.2.1 _ hini) K.st.1 hm.1 dtWs_D hs a b 2 2 (ty := .long) (by rw [dtWs_at hla, dtAt, dtEl, hk.1.1]; rfl) (by rw [dtWs_at hlb, dtAt, dtEl, hk.1.2]; rfl) rfl rfl rfl hk.2.1.1 hk.2.1.2.1 hk.2.1.2.2 hk.2.2.1 hk.2.2.2 (fun i hi => rfl) (Nat.le_trans hd1 hr.1) (by
    have hr21 := hr.2.1
    rw [List.map_map, show (fun v => v.category) ∘ dtV E base = (fun v => v.category) from funext (fun v => dtV_cat K.nul)]
    have := Nat.le_of_ble_eq_true hsum
    have : nativeFrameWords "java/lang/System" "arraycopy" 5 + 11 ≤ 30 := by decide
    omega) hd (fun H1 locs1 hP _ hs1 => ?_)
  refine k.2 p l e R s m args below meth c Q D E base N0 Z0 K H1 locs1 ls (hm.of ?_ rfl rfl hm.2.2.2.1 rfl) hs1 h1 h2 hL
  rw [dtWs_RJ (g := va_cpy (dtJ μ a) (dtJ μ b) sp.toNatClampNeg dp.toNatClampNeg n.toNatClampNeg) (by rw [dtEl, hk.1.2]; rfl)] at hP
  exact hP
set_option maxHeartbeats 200000 in
theorem dr_min {y : MethodName} {cc : ByteArray} {nL : Nat} {ret : Option FieldType} {d : Nat} {r : Option Value} {F : dtM} {pc : Nat} {L : List (Option Value)} {S : List Value} {μ : dtM} {idx : Nat} {x z : Int32} (hd : decode cc pc = .ok (.invokestatic idx, 3)) (hlk : Cond.methodLink y.cls idx Lib.Math.min.name ∈ dtWT) (hst : Cond.static Lib.Math.min.name ∈ dtWT) (hini : Cond.initialized "java/lang/Math" ∈ dtWT) (hcode : Cond.code Lib.Math.min.name Lib.Math.min.code 2 (some .int) ∈ dtWT) (hd1 : 1 ≤ d) (hsum : Nat.ble ((S.map fun v => v.category).sum) 8 = true) (k : dtW y cc nL ret d r F (pc + 3) L (.int (if z < x then z else x) :: S) μ) : dtW y cc nL ret d r F pc L (.int z :: .int x :: S) μ := by
  refine ⟨k.1, ?_⟩
  intro p l e R s m args below meth c Q D E base N0 Z0 K H locs ls hm hs h1 h2 hL
  have hr := K.2.2.2.2.2.2.2.2.1
  have hb1 := k.1.1
  have hb2 := k.1.2
  exact va_mmin K.1 K.2.1 (by rw [K.2.2.1, hL.1]) K.2.2.2.1 (K.2.2.2.2.1 _ hlk) (K.2.2.2.2.1 _ hst) (K.2.2.2.2.1 _ hini) (K.2.2.2.2.1 _ hcode) (Nat.le_trans hd1 hr.1) (by
    have hr21 := hr.2.1
    rw [List.map_map, show (fun v => v.category) ∘ dtV E base = (fun v => v.category) from funext (fun v => dtV_cat K.nul)]
    have := Nat.le_of_ble_eq_true hsum
    omega) (by have := hr.2.2.1; omega) (by have := hr.2.2.2; omega) hd (k.2 p l e R s m args below meth c Q D E base N0 Z0 K H locs ls hm hs h1 h2 hL)
set_option maxHeartbeats 200000 in
theorem dr_max {y : MethodName} {cc : ByteArray} {nL : Nat} {ret : Option FieldType} {d : Nat} {r : Option Value} {F : dtM} {pc : Nat} {L : List (Option Value)} {S : List Value} {μ : dtM} {idx : Nat} {x z : Int32} (hd : decode cc pc = .ok (.invokestatic idx, 3)) (hlk : Cond.methodLink y.cls idx Lib.Math.max.name ∈ dtWT) (hst : Cond.static Lib.Math.max.name ∈ dtWT) (hini : Cond.initialized "java/lang/Math" ∈ dtWT) (hcode : Cond.code Lib.Math.max.name Lib.Math.max.code 2 (some .int) ∈ dtWT) (hd1 : 1 ≤ d) (hsum : Nat.ble ((S.map fun v => v.category).sum) 8 = true) (k : dtW y cc nL ret d r F (pc + 3) L (.int (if x < z then z else x) :: S) μ) : dtW y cc nL ret d r F pc L (.int z :: .int x :: S) μ := by
  refine ⟨k.1, ?_⟩
  intro p l e R s m args below meth c Q D E base N0 Z0 K H locs ls hm hs h1 h2 hL
  have hr := K.2.2.2.2.2.2.2.2.1
  have hb1 := k.1.1
  have hb2 := k.1.2
  exact va_mmax K.1 K.2.1 (by rw [K.2.2.1, hL.1]) K.2.2.2.1 (K.2.2.2.2.1 _ hlk) (K.2.2.2.2.1 _ hst) (K.2.2.2.2.1 _ hini) (K.2.2.2.2.1 _ hcode) (Nat.le_trans hd1 hr.1) (by
    have hr21 := hr.2.1
    rw [List.map_map, show (fun v => v.category) ∘ dtV E base = (fun v => v.category) from funext (fun v => dtV_cat K.nul)]
    have := Nat.le_of_ble_eq_true hsum
    omega) (by have := hr.2.2.1; omega) (by have := hr.2.2.2; omega) hd (k.2 p l e R s m args below meth c Q D E base N0 Z0 K H locs ls hm hs h1 h2 hL)
set_option maxHeartbeats 200000 in
theorem dr_abs {y : MethodName} {cc : ByteArray} {nL : Nat} {ret : Option FieldType} {d : Nat} {r : Option Value} {F : dtM} {pc : Nat} {L : List (Option Value)} {S : List Value} {μ : dtM} {idx : Nat} {x : Int32} (hd : decode cc pc = .ok (.invokestatic idx, 3)) (hlk : Cond.methodLink y.cls idx Lib.Math.abs.name ∈ dtWT) (hst : Cond.static Lib.Math.abs.name ∈ dtWT) (hini : Cond.initialized "java/lang/Math" ∈ dtWT) (hcode : Cond.code Lib.Math.abs.name Lib.Math.abs.code 1 (some .int) ∈ dtWT) (hd1 : 1 ≤ d) (hsum : Nat.ble ((S.map fun v => v.category).sum) 8 = true) (k : dtW y cc nL ret d r F (pc + 3) L (.int (if 0 ≤ x then x else 0 - x) :: S) μ) : dtW y cc nL ret d r F pc L (.int x :: S) μ := by
  refine ⟨k.1, ?_⟩
  intro p l e R s m args below meth c Q D E base N0 Z0 K H locs ls hm hs h1 h2 hL
  have hr := K.2.2.2.2.2.2.2.2.1
  have hb1 := k.1.1
  have hb2 := k.1.2
  exact va_mabs K.1 K.2.1 (by rw [K.2.2.1, hL.1]) K.2.2.2.1 (K.2.2.2.2.1 _ hlk) (K.2.2.2.2.1 _ hst) (K.2.2.2.2.1 _ hini) (K.2.2.2.2.1 _ hcode) (Nat.le_trans hd1 hr.1) (by
    have hr21 := hr.2.1
    rw [List.map_map, show (fun v => v.category) ∘ dtV E base = (fun v => v.category) from funext (fun v => dtV_cat K.nul)]
    have := Nat.le_of_ble_eq_true hsum
    omega) (by have := hr.2.2.1; omega) (by have := hr.2.2.2; omega) hd (k.2 p l e R s m args below meth c Q D E base N0 Z0 K H locs ls hm hs h1 h2 hL)
