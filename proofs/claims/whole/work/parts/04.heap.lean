/-! operations of the memory -/
def opGI (ci j : Nat) (μ : dtM) (k : Nat) : Option Int32 := if dtS μ k = (0, ci) then some (dtI μ k j) else none
def opGJ (ci j : Nat) (μ : dtM) (k : Nat) : Option Int64 := if dtS μ k = (0, ci) then some (dtJ μ k j) else none
def opGR (ci j : Nat) (μ : dtM) (k : Nat) : Option Nat := if dtS μ k = (0, ci) then dtR μ k j else none
def opPI (ci j : Nat) (μ : dtM) (k : Nat) (v : Int32) : Option dtM := if dtS μ k = (0, ci) then some (dtSI μ k j v) else none
def opPZ (ci j : Nat) (μ : dtM) (k : Nat) (v : Int32) : Option dtM := if dtS μ k = (0, ci) ∧ (v = 0 ∨ v = 1) then some (dtSI μ k j v) else none
def opPJ (ci j : Nat) (μ : dtM) (k : Nat) (v : Int64) : Option dtM := if dtS μ k = (0, ci) then some (dtSJ μ k j v) else none
def opPR (ci j : Nat) (μ : dtM) (k v : Nat) : Option dtM := if dtS μ k = (0, ci) ∧ v < 1000000 then some (dtSR μ k j (some v)) else none
def opAL (μ : dtM) (k : Nat) : Option Int32 := if 0 < (dtS μ k).1 ∧ (dtS μ k).1 < 7 then some (Int32.ofNat (dtS μ k).2) else none
def opLI (t : Nat) (μ : dtM) (k : Nat) (i : Int32) : Option Int32 := if (dtS μ k).1 = t ∧ ¬ (i < 0 ∨ (dtS μ k).2 ≤ i.toNatClampNeg) then some (dtI μ k i.toNatClampNeg) else none
def opLJ (t : Nat) (μ : dtM) (k : Nat) (i : Int32) : Option Int64 := if (dtS μ k).1 = t ∧ ¬ (i < 0 ∨ (dtS μ k).2 ≤ i.toNatClampNeg) then some (dtJ μ k i.toNatClampNeg) else none
def opLR (t : Nat) (μ : dtM) (k : Nat) (i : Int32) : Option Nat := if (dtS μ k).1 = t ∧ ¬ (i < 0 ∨ (dtS μ k).2 ≤ i.toNatClampNeg) then dtR μ k i.toNatClampNeg else none
def opSI (μ : dtM) (k : Nat) (i v : Int32) : Option dtM := if (dtS μ k).1 = 1 ∧ ¬ (i < 0 ∨ (dtS μ k).2 ≤ i.toNatClampNeg) then some (dtSI μ k i.toNatClampNeg v) else none
def opSB (μ : dtM) (k : Nat) (i v : Int32) : Option dtM := if (dtS μ k).1 = 2 ∧ ¬ (i < 0 ∨ (dtS μ k).2 ≤ i.toNatClampNeg) then some (dtSI μ k i.toNatClampNeg (vp_nar .byte v)) else none
def opSJ (μ : dtM) (k : Nat) (i : Int32) (v : Int64) : Option dtM := if (dtS μ k).1 = 3 ∧ ¬ (i < 0 ∨ (dtS μ k).2 ≤ i.toNatClampNeg) then some (dtSJ μ k i.toNatClampNeg v) else none
def opSR (t ci : Nat) (μ : dtM) (k : Nat) (i : Int32) (v : Nat) : Option dtM := if (dtS μ k).1 = t ∧ ¬ (i < 0 ∨ (dtS μ k).2 ≤ i.toNatClampNeg) ∧ dtS μ v = (0, ci) then some (dtSR μ k i.toNatClampNeg (some v)) else none
def opNew (ci : Nat) (μ : dtM) : Option (Nat × dtM) := if dtN μ < 900000 then some (dtN μ, dtNew μ (0, ci) (dtC ci).2.2) else none
def opNA (t : Nat) (μ : dtM) (n : Int32) : Option (Nat × dtM) := if dtN μ < 900000 ∧ ¬ n < 0 ∧ n.toNatClampNeg ≤ 100000 then some (dtN μ, dtNew μ (t, n.toNatClampNeg) n.toNatClampNeg) else none
def opCI (μ : dtM) (a : Nat) (sp : Int32) (b : Nat) (dp n : Int32) : Option dtM := if ((dtS μ a).1 = 1 ∧ (dtS μ b).1 = 1) ∧ (¬ sp < 0 ∧ ¬ dp < 0 ∧ ¬ n < 0) ∧ sp.toNatClampNeg + n.toNatClampNeg ≤ (dtS μ a).2 ∧ dp.toNatClampNeg + n.toNatClampNeg ≤ (dtS μ b).2 then some (dtRI μ b (va_cpy (dtI μ a) (dtI μ b) sp.toNatClampNeg dp.toNatClampNeg n.toNatClampNeg)) else none
def opCJ (μ : dtM) (a : Nat) (sp : Int32) (b : Nat) (dp n : Int32) : Option dtM := if ((dtS μ a).1 = 3 ∧ (dtS μ b).1 = 3) ∧ (¬ sp < 0 ∧ ¬ dp < 0 ∧ ¬ n < 0) ∧ sp.toNatClampNeg + n.toNatClampNeg ≤ (dtS μ a).2 ∧ dp.toNatClampNeg + n.toNatClampNeg ≤ (dtS μ b).2 then some (dtRJ μ b (va_cpy (dtJ μ a) (dtJ μ b) sp.toNatClampNeg dp.toNatClampNeg n.toNatClampNeg)) else none
def opScr (μ : dtM) (i : Int32) : Option Int32 := if ¬ (i < 0 ∨ (dtS μ 1000000).2 ≤ i.toNatClampNeg) then some (dtI μ 1000000 i.toNatClampNeg) else none
def opLoud (i : Int32) : Option Int32 := if ¬ (i < 0 ∨ 4 ≤ i.toNatClampNeg) then some (dtLoud i.toNatClampNeg) else none
def opChar (k : Nat) (i : Int32) : Option Int32 := if (k = 1000002 ∨ k = 1000003) ∧ ¬ (i < 0 ∨ 123 + (k - 1000002) ≤ i.toNatClampNeg) then some ((dtTxt (k - 1000002)).getD i.toNatClampNeg 0) else none
def opLen (k : Nat) : Option Int32 := if k = 1000002 ∨ k = 1000003 then some (Int32.ofNat (123 + (k - 1000002))) else none
def opRv (ci : Nat) (μ : dtM) (b : Nat) : Option Unit := if dtS μ b = (0, ci) then some () else none
def opDiv (x z : Int32) : Option Int32 := if ¬ z = 0 then some (x / z) else none
def opRem (x z : Int32) : Option Int32 := if ¬ z = 0 then some (x - x / z * z) else none
def opDivJ (x z : Int64) : Option Int64 := if ¬ z = 0 then some (x / z) else none
def opRemJ (x z : Int64) : Option Int64 := if ¬ z = 0 then some (x - x / z * z) else none
def opRet (v : Int32) (μ : dtM) : Option (Int32 × dtM) := if v = 0 ∨ v = 1 then some (v, μ) else none
def opCall {α β : Type} (o : Option (α × dtM)) (f : α → dtM → Option β) : Option β := o.bind (fun q => f q.1 q.2)
/-! the classes' tables -/
theorem dtC_in : ∀ ci, ci < 13 → ∀ w ∈ u_ws (dtC ci).1 (dtC ci).2.1 (dtC ci).2.2, w ∈ dtWT := dtC_words
theorem dtC_at : ∀ ci, ci < 13 → vwCl[ci]? = some ((dtC ci).1, (dtC ci).2.1, (dtC ci).2.2)
  | 0, _ => rfl | 1, _ => rfl | 2, _ => rfl | 3, _ => rfl | 4, _ => rfl | 5, _ => rfl | 6, _ => rfl | 7, _ => rfl | 8, _ => rfl | 9, _ => rfl | 10, _ => rfl | 11, _ => rfl | 12, _ => rfl
  | n + 13, h => absurd h (by omega)
theorem dtC_ty : ∀ ci, ci < 13 → ∀ k, k < (dtC ci).2.2 → parseFieldDescriptor ((dtC ci).2.1 k).2.2.1 = some (dtTy ci k)
  | 0, _ => tyX0_ok | 1, _ => tyX1_ok | 2, _ => tyX2_ok | 3, _ => tyX3_ok | 4, _ => tyX4_ok | 5, _ => tyX5_ok | 6, _ => tyX6_ok | 7, _ => tyX7_ok | 8, _ => tyX8_ok | 9, _ => tyX9_ok | 10, _ => tyX10_ok | 11, _ => tyX11_ok | 12, _ => tyX12_ok
  | n + 13, h => absurd h (by omega)
theorem dtC_nm : ∀ ci, ci < 13 → ∀ a, a < (dtC ci).2.2 → ∀ b, b < (dtC ci).2.2 → a ≠ b → ((dtC ci).2.1 a).2.1 ≠ ((dtC ci).2.1 b).2.1
  | 0, _ => nmX0 | 1, _ => nmX1 | 2, _ => nmX2 | 3, _ => nmX3 | 4, _ => nmX4 | 5, _ => nmX5 | 6, _ => nmX6 | 7, _ => nmX7 | 8, _ => nmX8 | 9, _ => nmX9 | 10, _ => nmX10 | 11, _ => nmX11 | 12, _ => nmX12
  | n + 13, h => absurd h (by omega)
theorem dtC_ow : ∀ ci, ci < 13 → ∀ j, j < (dtC ci).2.2 → ((dtC ci).2.1 j).1 = (dtC ci).1 := by decide +kernel
theorem dtC_kd : ∀ ci, ci < 13 → ∀ j, j < (dtC ci).2.2 → dtTy ci j = .int ∨ dtTy ci j = .boolean ∨ dtTy ci j = .long ∨ dtKd (dtTy ci j) = 3 := by decide +kernel
def dtFL (own : String) (idx ci j kd : Nat) : Prop := Cond.fieldLink own idx (dtC ci).1 ((dtC ci).2.1 j).2.1 ((dtC ci).2.1 j).2.2.1 ∈ dtWT ∧ dtKd (dtTy ci j) = kd ∧ j < (dtC ci).2.2 ∧ ci < 13
theorem dtFs_at {E : dtE} {base ci j : Nat} {i : Nat → Int32} {g : Nat → Int64} {r : Nat → Option Nat} (h : j < (dtC ci).2.2) : (dtFs E base ci i g r)[j]? = some (dtFv E base (dtTy ci j) (i j) (g j) (r j)) := by
  simp [dtFs, List.getElem?_map, List.getElem?_range h]
theorem dtFs_len {E : dtE} {base ci : Nat} {i : Nat → Int32} {g : Nat → Int64} {r : Nat → Option Nat} : (dtFs E base ci i g r).length = (dtC ci).2.2 := by simp [dtFs]
theorem dtFs_set {E : dtE} {base ci j : Nat} {i i' : Nat → Int32} {g g' : Nat → Int64} {r r' : Nat → Option Nat} {x : Value} (h : j < (dtC ci).2.2) (hx : dtFv E base (dtTy ci j) (i' j) (g' j) (r' j) = x) (ho : ∀ a, ¬ a = j → i' a = i a ∧ g' a = g a ∧ r' a = r a) : (dtFs E base ci i g r).set j x = dtFs E base ci i' g' r' := by
  apply List.ext_getElem?
  intro a
  by_cases ha : a < (dtC ci).2.2
  · rw [dtFs_at ha]
    by_cases hj : a = j
    · subst hj
      rw [List.getElem?_set_self (by rw [dtFs_len]; exact ha), hx]
    · obtain ⟨e1, e2, e3⟩ := ho a hj
      rw [List.getElem?_set_ne (fun e => hj e.symm), dtFs_at ha, e1, e2, e3]
  · rw [List.getElem?_eq_none (by rw [List.length_set, dtFs_len]; omega), List.getElem?_eq_none (by rw [dtFs_len]; omega)]
theorem dtAt_o {E : dtE} {base k ci : Nat} {μ : dtM} (h : dtS μ k = (0, ci)) : dtAt E base μ k = .inr (ci, dtFs E base ci (dtI μ k) (dtJ μ k) (dtR μ k)) := by rw [dtAt, h]; rfl
theorem dtIf {α : Type} {c : Prop} [Decidable c] {x y : α} (h : (if c then some x else none) = some y) : c ∧ y = x := by
  by_cases hc : c
  · rw [if_pos hc] at h
    exact ⟨hc, (Option.some.inj h).symm⟩
  · rw [if_neg hc] at h
    cases h
theorem dtIfR {α : Type} {c : Prop} [Decidable c] {x : Option α} {y : α} (h : (if c then x else none) = some y) : c ∧ x = some y := by
  by_cases hc : c
  · rw [if_pos hc] at h
    exact ⟨hc, h⟩
  · rw [if_neg hc] at h
    cases h
theorem dtMem.of {D : va_G} {E : dtE} {base : Nat} {μ μ' : dtM} {H H1 : Heap} (h : dtMem D E base μ H) (hP : va_P D vwCl (dtWs E base μ') H1) (hN : dtN μ' = dtN μ) (hS : dtS μ' = dtS μ) (hR : ∀ k j v, dtR μ' k j = some v → v < 1000000) (hI : dtI μ' 1000000 = dtI μ 1000000) : dtMem D E base μ' H1 := ⟨hP, by rw [hN, hS]; exact h.2.1, by rw [hN]; exact h.2.2.1, hR, by rw [hS]; exact h.2.2.2.2.1, by rw [hI]; exact h.2.2.2.2.2⟩
theorem dtRR_lt {μ : dtM} {k j v : Nat} (h : ∀ k j v, dtR μ k j = some v → v < 1000000) (hv : v < 1000000) : ∀ a b w, dtR (dtRR μ k (dtUp (dtR μ k) j (some v))) a b = some w → w < 1000000 := by
  intro a b w hw
  have hw' : dtRow (dtR μ) k (dtUp (dtR μ k) j (some v)) a b = some w := hw
  by_cases ha : a = k
  · subst ha
    rw [dtRow_s] at hw'
    by_cases hb : b = j
    · subst hb
      simp only [dtUp, if_true] at hw'
      cases hw'
      exact hv
    · simp only [dtUp, hb, if_false] at hw'
      exact h _ _ _ hw'
  · rw [dtRow_n _ _ ha] at hw'
    exact h _ _ _ hw'
theorem dtUp_s {α : Type} (g : Nat → α) (j : Nat) (v : α) : dtUp g j v j = v := by simp [dtUp]
theorem dtUp_n {α : Type} (g : Nat → α) {j a : Nat} (v : α) (h : ¬ a = j) : dtUp g j v a = g a := by simp [dtUp, h]
theorem dr_getI {y : MethodName} {cc : ByteArray} {nL : Nat} {ret : Option FieldType} {d : Nat} {r : Option Value} {F : dtM} {pc : Nat} {L : List (Option Value)} {S : List Value} {μ : dtM} {idx ci j k0 : Nat} (v : Int32) (hd : decode cc pc = .ok (.getfield idx, 3)) (hl : dtFL y.cls idx ci j 0) (hv : opGI ci j μ k0 = some v) (k : dtW y cc nL ret d r F (pc + 3) L (.int v :: S) μ) : dtW y cc nL ret d r F pc L (.ref k0 :: S) μ := by
  obtain ⟨hk, rfl⟩ := dtIf hv
  refine ⟨k.1, ?_⟩
  intro p l e R s m args below meth c Q D E base N0 Z0 K H locs ls hm hs h1 h2 hL
  have hlt := hm.lt hk (show 0 < 7 by decide)
  rw [List.map_cons, dtV_ref (k := k0) (by have := hm.2.2.1; omega)]
  exact va_get K.1 K.2.1 K.2.2.2.2.1 (dtC_in ci hl.2.2.2) K.2.2.2.1 K.st.1 hm.1 k0 (by rw [dtWs_at hlt, dtAt_o hk]) (dtC_at ci hl.2.2.2) j hl.2.2.1 (K.2.2.2.2.1 _ hl.1) (fun x hx => by rw [dtC_ow ci hl.2.2.2 j hl.2.2.1] at hx; exact hx) (by rw [dtFs_at hl.2.2.1, dtFv, hl.2.1]; rfl) hd (k.2 p l e R s m args below meth c Q D E base N0 Z0 K H locs ls hm hs h1 h2 hL)
theorem dr_getZ {y : MethodName} {cc : ByteArray} {nL : Nat} {ret : Option FieldType} {d : Nat} {r : Option Value} {F : dtM} {pc : Nat} {L : List (Option Value)} {S : List Value} {μ : dtM} {idx ci j k0 : Nat} (v : Int32) (hd : decode cc pc = .ok (.getfield idx, 3)) (hl : dtFL y.cls idx ci j 1) (hv : opGI ci j μ k0 = some v) (k : dtW y cc nL ret d r F (pc + 3) L (.int v :: S) μ) : dtW y cc nL ret d r F pc L (.ref k0 :: S) μ := by
  obtain ⟨hk, rfl⟩ := dtIf hv
  refine ⟨k.1, ?_⟩
  intro p l e R s m args below meth c Q D E base N0 Z0 K H locs ls hm hs h1 h2 hL
  have hlt := hm.lt hk (show 0 < 7 by decide)
  rw [List.map_cons, dtV_ref (k := k0) (by have := hm.2.2.1; omega)]
  exact va_get K.1 K.2.1 K.2.2.2.2.1 (dtC_in ci hl.2.2.2) K.2.2.2.1 K.st.1 hm.1 k0 (by rw [dtWs_at hlt, dtAt_o hk]) (dtC_at ci hl.2.2.2) j hl.2.2.1 (K.2.2.2.2.1 _ hl.1) (fun x hx => by rw [dtC_ow ci hl.2.2.2 j hl.2.2.1] at hx; exact hx) (by rw [dtFs_at hl.2.2.1, dtFv, hl.2.1]; rfl) hd (k.2 p l e R s m args below meth c Q D E base N0 Z0 K H locs ls hm hs h1 h2 hL)
theorem dr_getJ {y : MethodName} {cc : ByteArray} {nL : Nat} {ret : Option FieldType} {d : Nat} {r : Option Value} {F : dtM} {pc : Nat} {L : List (Option Value)} {S : List Value} {μ : dtM} {idx ci j k0 : Nat} (v : Int64) (hd : decode cc pc = .ok (.getfield idx, 3)) (hl : dtFL y.cls idx ci j 2) (hv : opGJ ci j μ k0 = some v) (k : dtW y cc nL ret d r F (pc + 3) L (.long v :: S) μ) : dtW y cc nL ret d r F pc L (.ref k0 :: S) μ := by
  obtain ⟨hk, rfl⟩ := dtIf hv
  refine ⟨k.1, ?_⟩
  intro p l e R s m args below meth c Q D E base N0 Z0 K H locs ls hm hs h1 h2 hL
  have hlt := hm.lt hk (show 0 < 7 by decide)
  rw [List.map_cons, dtV_ref (k := k0) (by have := hm.2.2.1; omega)]
  exact va_get K.1 K.2.1 K.2.2.2.2.1 (dtC_in ci hl.2.2.2) K.2.2.2.1 K.st.1 hm.1 k0 (by rw [dtWs_at hlt, dtAt_o hk]) (dtC_at ci hl.2.2.2) j hl.2.2.1 (K.2.2.2.2.1 _ hl.1) (fun x hx => by rw [dtC_ow ci hl.2.2.2 j hl.2.2.1] at hx; exact hx) (by rw [dtFs_at hl.2.2.1, dtFv, hl.2.1]; rfl) hd (k.2 p l e R s m args below meth c Q D E base N0 Z0 K H locs ls hm hs h1 h2 hL)
theorem dr_getR {y : MethodName} {cc : ByteArray} {nL : Nat} {ret : Option FieldType} {d : Nat} {r : Option Value} {F : dtM} {pc : Nat} {L : List (Option Value)} {S : List Value} {μ : dtM} {idx ci j k0 : Nat} (v : Nat) (hd : decode cc pc = .ok (.getfield idx, 3)) (hl : dtFL y.cls idx ci j 3) (hv : opGR ci j μ k0 = some v) (k : dtW y cc nL ret d r F (pc + 3) L (.ref v :: S) μ) : dtW y cc nL ret d r F pc L (.ref k0 :: S) μ := by
  obtain ⟨hk, hr⟩ := dtIfR hv
  refine ⟨k.1, ?_⟩
  intro p l e R s m args below meth c Q D E base N0 Z0 K H locs ls hm hs h1 h2 hL
  have hlt := hm.lt hk (show 0 < 7 by decide)
  have h4 := hm.2.2.2.1 _ _ _ hr
  rw [List.map_cons, dtV_ref (k := k0) (by have := hm.2.2.1; omega)]
  have kk := k.2 p l e R s m args below meth c Q D E base N0 Z0 K H locs ls hm hs h1 h2 hL
  rw [List.map_cons, dtV_ref h4] at kk
  exact va_get K.1 K.2.1 K.2.2.2.2.1 (dtC_in ci hl.2.2.2) K.2.2.2.1 K.st.1 hm.1 k0 (by rw [dtWs_at hlt, dtAt_o hk]) (dtC_at ci hl.2.2.2) j hl.2.2.1 (K.2.2.2.2.1 _ hl.1) (fun x hx => by rw [dtC_ow ci hl.2.2.2 j hl.2.2.1] at hx; exact hx) (by rw [dtFs_at hl.2.2.1, dtFv, hl.2.1, hr]; show some (Value.ref (dtA E base v)) = _; rw [dtA_in h4]) hd kk
theorem dr_putI {y : MethodName} {cc : ByteArray} {nL : Nat} {ret : Option FieldType} {d : Nat} {r : Option Value} {F : dtM} {pc : Nat} {L : List (Option Value)} {S : List Value} {μ : dtM} {idx ci j k0 : Nat} {v : Int32} (μ' : dtM) (hd : decode cc pc = .ok (.putfield idx, 3)) (hl : dtFL y.cls idx ci j 0) (hfin : ((dtC ci).2.1 j).2.2.2 = false) (hv : opPI ci j μ k0 v = some μ') (k : dtW y cc nL ret d r F (pc + 3) L S μ') : dtW y cc nL ret d r F pc L (.int v :: .ref k0 :: S) μ := by
  obtain ⟨hk, rfl⟩ := dtIf hv
  refine ⟨k.1, ?_⟩
  intro p l e R s m args below meth c Q D E base N0 Z0 K H locs ls hm hs h1 h2 hL
  have hlt := hm.lt hk (show 0 < 7 by decide)
  have ht : dtTy ci j = .int := by rcases dtC_kd ci hl.2.2.2 j hl.2.2.1 with q | q | q | q <;> first | exact q | (have := hl.2.1; rw [q] at this; exact absurd this (by decide)) | (have := hl.2.1; omega)
  rw [List.map_cons, List.map_cons, dtV_ref (k := k0) (by have := hm.2.2.1; omega)]
  refine va_put (H0 := s.heap) (A := dtO base) K.1 K.2.1 K.2.2.2.2.1 (dtC_in ci hl.2.2.2) (dtTy ci) (dtC_ty ci hl.2.2.2) (dtC_nm ci hl.2.2.2) K.2.2.2.1 K.st.1 hm.1 dtWs_D hs k0 (fs := dtFs E base ci (dtI μ k0) (dtJ μ k0) (dtR μ k0)) (by rw [dtWs_at hlt, dtAt_o hk]) (dtC_at ci hl.2.2.2) j hl.2.2.1 (K.2.2.2.2.1 _ hl.1) (fun x hx => by rw [dtC_ow ci hl.2.2.2 j hl.2.2.1] at hx; exact hx) hfin (dtC_ty ci hl.2.2.2 j hl.2.2.1) (by rw [ht]; rfl) (by rw [ht]; rfl) (by rw [dtFs_len]; exact hl.2.2.1) hd (fun H1 locs1 hP _ hs1 => ?_)
  refine k.2 p l e R s m args below meth c Q D E base N0 Z0 K H1 locs1 ls (hm.of ?_ rfl rfl hm.2.2.2.1 (dtRow_n _ _ (by have := hm.2.2.1; omega))) hs1 h1 h2 hL
  rw [dtFs_set (i' := dtUp (dtI μ k0) j v) (g' := dtJ μ k0) (r' := dtR μ k0) hl.2.2.1 (by rw [dtFv, hl.2.1, dtUp_s]; rfl) (fun a ha => ⟨dtUp_n _ _ ha, rfl, rfl⟩), dtWs_RI (g := dtUp (dtI μ k0) j v) (by rw [hk]; rfl)] at hP
  exact hP
theorem dr_putZ {y : MethodName} {cc : ByteArray} {nL : Nat} {ret : Option FieldType} {d : Nat} {r : Option Value} {F : dtM} {pc : Nat} {L : List (Option Value)} {S : List Value} {μ : dtM} {idx ci j k0 : Nat} {v : Int32} (μ' : dtM) (hd : decode cc pc = .ok (.putfield idx, 3)) (hl : dtFL y.cls idx ci j 1) (hfin : ((dtC ci).2.1 j).2.2.2 = false) (hv : opPZ ci j μ k0 v = some μ') (k : dtW y cc nL ret d r F (pc + 3) L S μ') : dtW y cc nL ret d r F pc L (.int v :: .ref k0 :: S) μ := by
  obtain ⟨hk, rfl⟩ := dtIf hv
  refine ⟨k.1, ?_⟩
  intro p l e R s m args below meth c Q D E base N0 Z0 K H locs ls hm hs h1 h2 hL
  have hlt := hm.lt hk.1 (show 0 < 7 by decide)
  have ht : dtTy ci j = .boolean := by rcases dtC_kd ci hl.2.2.2 j hl.2.2.1 with q | q | q | q <;> first | exact q | (have := hl.2.1; rw [q] at this; exact absurd this (by decide)) | (have := hl.2.1; omega)
  rw [List.map_cons, List.map_cons, dtV_ref (k := k0) (by have := hm.2.2.1; omega)]
  refine va_put (H0 := s.heap) (A := dtO base) K.1 K.2.1 K.2.2.2.2.1 (dtC_in ci hl.2.2.2) (dtTy ci) (dtC_ty ci hl.2.2.2) (dtC_nm ci hl.2.2.2) K.2.2.2.1 K.st.1 hm.1 dtWs_D hs k0 (fs := dtFs E base ci (dtI μ k0) (dtJ μ k0) (dtR μ k0)) (by rw [dtWs_at hlt, dtAt_o hk.1]) (dtC_at ci hl.2.2.2) j hl.2.2.1 (K.2.2.2.2.1 _ hl.1) (fun x hx => by rw [dtC_ow ci hl.2.2.2 j hl.2.2.1] at hx; exact hx) hfin (dtC_ty ci hl.2.2.2 j hl.2.2.1) (by rw [ht]; rcases hk.2 with q | q <;> rw [q] <;> rfl) (by rw [ht]; rcases hk.2 with q | q <;> rw [q] <;> rfl) (by rw [dtFs_len]; exact hl.2.2.1) hd (fun H1 locs1 hP _ hs1 => ?_)
  refine k.2 p l e R s m args below meth c Q D E base N0 Z0 K H1 locs1 ls (hm.of ?_ rfl rfl hm.2.2.2.1 (dtRow_n _ _ (by have := hm.2.2.1; omega))) hs1 h1 h2 hL
  rw [dtFs_set (i' := dtUp (dtI μ k0) j v) (g' := dtJ μ k0) (r' := dtR μ k0) hl.2.2.1 (by rw [dtFv, hl.2.1, dtUp_s]; rfl) (fun a ha => ⟨dtUp_n _ _ ha, rfl, rfl⟩), dtWs_RI (g := dtUp (dtI μ k0) j v) (by rw [hk.1]; rfl)] at hP
  exact hP
theorem dr_putJ {y : MethodName} {cc : ByteArray} {nL : Nat} {ret : Option FieldType} {d : Nat} {r : Option Value} {F : dtM} {pc : Nat} {L : List (Option Value)} {S : List Value} {μ : dtM} {idx ci j k0 : Nat} {v : Int64} (μ' : dtM) (hd : decode cc pc = .ok (.putfield idx, 3)) (hl : dtFL y.cls idx ci j 2) (hfin : ((dtC ci).2.1 j).2.2.2 = false) (hv : opPJ ci j μ k0 v = some μ') (k : dtW y cc nL ret d r F (pc + 3) L S μ') : dtW y cc nL ret d r F pc L (.long v :: .ref k0 :: S) μ := by
  obtain ⟨hk, rfl⟩ := dtIf hv
  refine ⟨k.1, ?_⟩
  intro p l e R s m args below meth c Q D E base N0 Z0 K H locs ls hm hs h1 h2 hL
  have hlt := hm.lt hk (show 0 < 7 by decide)
  have ht : dtTy ci j = .long := by rcases dtC_kd ci hl.2.2.2 j hl.2.2.1 with q | q | q | q <;> first | exact q | (have := hl.2.1; rw [q] at this; exact absurd this (by decide)) | (have := hl.2.1; omega)
  rw [List.map_cons, List.map_cons, dtV_ref (k := k0) (by have := hm.2.2.1; omega)]
  refine va_put (H0 := s.heap) (A := dtO base) K.1 K.2.1 K.2.2.2.2.1 (dtC_in ci hl.2.2.2) (dtTy ci) (dtC_ty ci hl.2.2.2) (dtC_nm ci hl.2.2.2) K.2.2.2.1 K.st.1 hm.1 dtWs_D hs k0 (fs := dtFs E base ci (dtI μ k0) (dtJ μ k0) (dtR μ k0)) (by rw [dtWs_at hlt, dtAt_o hk]) (dtC_at ci hl.2.2.2) j hl.2.2.1 (K.2.2.2.2.1 _ hl.1) (fun x hx => by rw [dtC_ow ci hl.2.2.2 j hl.2.2.1] at hx; exact hx) hfin (dtC_ty ci hl.2.2.2 j hl.2.2.1) (by rw [ht]; rfl) (by rw [ht]; rfl) (by rw [dtFs_len]; exact hl.2.2.1) hd (fun H1 locs1 hP _ hs1 => ?_)
  refine k.2 p l e R s m args below meth c Q D E base N0 Z0 K H1 locs1 ls (hm.of ?_ rfl rfl hm.2.2.2.1 rfl) hs1 h1 h2 hL
  rw [dtFs_set (i' := dtI μ k0) (g' := dtUp (dtJ μ k0) j v) (r' := dtR μ k0) hl.2.2.1 (by rw [dtFv, hl.2.1, dtUp_s]; rfl) (fun a ha => ⟨rfl, dtUp_n _ _ ha, rfl⟩), dtWs_RJ (g := dtUp (dtJ μ k0) j v) (by rw [hk]; rfl)] at hP
  exact hP
theorem dr_putR {y : MethodName} {cc : ByteArray} {nL : Nat} {ret : Option FieldType} {d : Nat} {r : Option Value} {F : dtM} {pc : Nat} {L : List (Option Value)} {S : List Value} {μ : dtM} {idx ci j k0 : Nat} {v : Nat} (μ' : dtM) (hd : decode cc pc = .ok (.putfield idx, 3)) (hl : dtFL y.cls idx ci j 3) (hfin : ((dtC ci).2.1 j).2.2.2 = false) (hv : opPR ci j μ k0 v = some μ') (k : dtW y cc nL ret d r F (pc + 3) L S μ') : dtW y cc nL ret d r F pc L (.ref v :: .ref k0 :: S) μ := by
  obtain ⟨hk, rfl⟩ := dtIf hv
  refine ⟨k.1, ?_⟩
  intro p l e R s m args below meth c Q D E base N0 Z0 K H locs ls hm hs h1 h2 hL
  have hlt := hm.lt hk.1 (show 0 < 7 by decide)
  have ht : (∃ n, dtTy ci j = .object n) ∨ ∃ n, dtTy ci j = .array n := by have := hl.2.1; revert this; cases dtTy ci j <;> intro this <;> first | exact Or.inl ⟨_, rfl⟩ | exact Or.inr ⟨_, rfl⟩ | exact absurd this (by decide)
  rw [List.map_cons, List.map_cons, dtV_ref (k := k0) (by have := hm.2.2.1; omega), dtV_ref hk.2]
  refine va_put (H0 := s.heap) (A := dtO base) K.1 K.2.1 K.2.2.2.2.1 (dtC_in ci hl.2.2.2) (dtTy ci) (dtC_ty ci hl.2.2.2) (dtC_nm ci hl.2.2.2) K.2.2.2.1 K.st.1 hm.1 dtWs_D hs k0 (fs := dtFs E base ci (dtI μ k0) (dtJ μ k0) (dtR μ k0)) (by rw [dtWs_at hlt, dtAt_o hk.1]) (dtC_at ci hl.2.2.2) j hl.2.2.1 (K.2.2.2.2.1 _ hl.1) (fun x hx => by rw [dtC_ow ci hl.2.2.2 j hl.2.2.1] at hx; exact hx) hfin (dtC_ty ci hl.2.2.2 j hl.2.2.1) (by rcases ht with ⟨n, q⟩ | ⟨n, q⟩ <;> rw [q] <;> rfl) (by rcases ht with ⟨n, q⟩ | ⟨n, q⟩ <;> rw [q] <;> rfl) (by rw [dtFs_len]; exact hl.2.2.1) hd (fun H1 locs1 hP _ hs1 => ?_)
  refine k.2 p l e R s m args below meth c Q D E base N0 Z0 K H1 locs1 ls (hm.of ?_ rfl rfl (dtRR_lt hm.2.2.2.1 hk.2) rfl) hs1 h1 h2 hL
  rw [dtFs_set (i' := dtI μ k0) (g' := dtJ μ k0) (r' := dtUp (dtR μ k0) j (some v)) hl.2.2.1 (by rw [dtFv, hl.2.1, dtUp_s]; show Value.ref (dtA E base v) = _; rw [dtA_in hk.2]) (fun a ha => ⟨rfl, rfl, dtUp_n _ _ ha⟩), dtWs_RR (g := dtUp (dtR μ k0) j (some v)) (by rw [hk.1]; rfl)] at hP
  exact hP
theorem dr_putRF {y : MethodName} {cc : ByteArray} {nL : Nat} {ret : Option FieldType} {d : Nat} {r : Option Value} {F : dtM} {pc : Nat} {L : List (Option Value)} {S : List Value} {μ : dtM} {idx ci j k0 : Nat} {v : Nat} (μ' : dtM) (hd : decode cc pc = .ok (.putfield idx, 3)) (hl : dtFL y.cls idx ci j 3) (hfin : ((dtC ci).2.1 j).2.2.2 = true) (hin : y.name = "<init>") (how : (dtC ci).1 = y.cls) (hv : opPR ci j μ k0 v = some μ') (k : dtW y cc nL ret d r F (pc + 3) L S μ') : dtW y cc nL ret d r F pc L (.ref v :: .ref k0 :: S) μ := by
  obtain ⟨hk, rfl⟩ := dtIf hv
  refine ⟨k.1, ?_⟩
  intro p l e R s m args below meth c Q D E base N0 Z0 K H locs ls hm hs h1 h2 hL
  have hlt := hm.lt hk.1 (show 0 < 7 by decide)
  have ht : (∃ n, dtTy ci j = .object n) ∨ ∃ n, dtTy ci j = .array n := by have := hl.2.1; revert this; cases dtTy ci j <;> intro this <;> first | exact Or.inl ⟨_, rfl⟩ | exact Or.inr ⟨_, rfl⟩ | exact absurd this (by decide)
  rw [List.map_cons, List.map_cons, dtV_ref (k := k0) (by have := hm.2.2.1; omega), dtV_ref hk.2]
  refine va_putF (H0 := s.heap) (A := dtO base) K.1 K.2.1 K.2.2.2.2.1 (dtC_in ci hl.2.2.2) (dtTy ci) (dtC_ty ci hl.2.2.2) (dtC_nm ci hl.2.2.2) K.2.2.2.1 K.st.1 hm.1 dtWs_D hs k0 (fs := dtFs E base ci (dtI μ k0) (dtJ μ k0) (dtR μ k0)) (by rw [dtWs_at hlt, dtAt_o hk.1]) (dtC_at ci hl.2.2.2) j hl.2.2.1 (K.2.2.2.2.1 _ hl.1) (fun x hx => by rw [dtC_ow ci hl.2.2.2 j hl.2.2.1] at hx; exact hx) hfin (by rw [K.2.2.2.2.2.2.2.2.2.1]; exact hin) (by rw [dtC_ow ci hl.2.2.2 j hl.2.2.1]; exact how) (dtC_ty ci hl.2.2.2 j hl.2.2.1) (by rcases ht with ⟨n, q⟩ | ⟨n, q⟩ <;> rw [q] <;> rfl) (by rcases ht with ⟨n, q⟩ | ⟨n, q⟩ <;> rw [q] <;> rfl) (by rw [dtFs_len]; exact hl.2.2.1) hd (fun H1 locs1 hP _ hs1 => ?_)
  refine k.2 p l e R s m args below meth c Q D E base N0 Z0 K H1 locs1 ls (hm.of ?_ rfl rfl (dtRR_lt hm.2.2.2.1 hk.2) rfl) hs1 h1 h2 hL
  rw [dtFs_set (i' := dtI μ k0) (g' := dtJ μ k0) (r' := dtUp (dtR μ k0) j (some v)) hl.2.2.1 (by rw [dtFv, hl.2.1, dtUp_s]; show Value.ref (dtA E base v) = _; rw [dtA_in hk.2]) (fun a ha => ⟨rfl, rfl, dtUp_n _ _ ha⟩), dtWs_RR (g := dtUp (dtR μ k0) j (some v)) (by rw [hk.1]; rfl)] at hP
  exact hP
theorem dr_iaload {y : MethodName} {cc : ByteArray} {nL : Nat} {ret : Option FieldType} {d : Nat} {r : Option Value} {F : dtM} {pc : Nat} {L : List (Option Value)} {S : List Value} {μ : dtM} {k0 : Nat} {i : Int32} (v : Int32) (hd : decode cc pc = .ok (.iaload, 1)) (hv : opLI 1 μ k0 i = some v) (k : dtW y cc nL ret d r F (pc + 1) L (.int v :: S) μ) : dtW y cc nL ret d r F pc L (.int i :: .ref k0 :: S) μ := by
  obtain ⟨hk, rfl⟩ := dtIf hv
  refine ⟨k.1, ?_⟩
  intro p l e R s m args below meth c Q D E base N0 Z0 K H locs ls hm hs h1 h2 hL
  have hlt := hm.lt (k := k0) rfl (by rw [hk.1]; decide)
  rw [List.map_cons, List.map_cons, dtV_ref (k := k0) (by have := hm.2.2.1; omega)]
  exact va_iald K.1 K.2.1 K.st.1 hm.1 k0 0 (n := (dtS μ k0).2) (by rw [dtWs_at hlt, dtAt, dtEl, hk.1]; rfl) rfl hk.2 hd (k.2 p l e R s m args below meth c Q D E base N0 Z0 K H locs ls hm hs h1 h2 hL)
theorem dr_baload {y : MethodName} {cc : ByteArray} {nL : Nat} {ret : Option FieldType} {d : Nat} {r : Option Value} {F : dtM} {pc : Nat} {L : List (Option Value)} {S : List Value} {μ : dtM} {k0 : Nat} {i : Int32} (v : Int32) (hd : decode cc pc = .ok (.baload, 1)) (hv : opLI 2 μ k0 i = some v) (k : dtW y cc nL ret d r F (pc + 1) L (.int v :: S) μ) : dtW y cc nL ret d r F pc L (.int i :: .ref k0 :: S) μ := by
  obtain ⟨hk, rfl⟩ := dtIf hv
  refine ⟨k.1, ?_⟩
  intro p l e R s m args below meth c Q D E base N0 Z0 K H locs ls hm hs h1 h2 hL
  have hlt := hm.lt (k := k0) rfl (by rw [hk.1]; decide)
  rw [List.map_cons, List.map_cons, dtV_ref (k := k0) (by have := hm.2.2.1; omega)]
  exact va_bald K.1 K.2.1 K.st.1 hm.1 k0 1 (n := (dtS μ k0).2) (by rw [dtWs_at hlt, dtAt, dtEl, hk.1]; rfl) rfl hk.2 hd (k.2 p l e R s m args below meth c Q D E base N0 Z0 K H locs ls hm hs h1 h2 hL)
theorem dr_laload {y : MethodName} {cc : ByteArray} {nL : Nat} {ret : Option FieldType} {d : Nat} {r : Option Value} {F : dtM} {pc : Nat} {L : List (Option Value)} {S : List Value} {μ : dtM} {k0 : Nat} {i : Int32} (v : Int64) (hd : decode cc pc = .ok (.laload, 1)) (hv : opLJ 3 μ k0 i = some v) (k : dtW y cc nL ret d r F (pc + 1) L (.long v :: S) μ) : dtW y cc nL ret d r F pc L (.int i :: .ref k0 :: S) μ := by
  obtain ⟨hk, rfl⟩ := dtIf hv
  refine ⟨k.1, ?_⟩
  intro p l e R s m args below meth c Q D E base N0 Z0 K H locs ls hm hs h1 h2 hL
  have hlt := hm.lt (k := k0) rfl (by rw [hk.1]; decide)
  rw [List.map_cons, List.map_cons, dtV_ref (k := k0) (by have := hm.2.2.1; omega)]
  exact va_lald K.1 K.2.1 K.st.1 hm.1 k0 2 (n := (dtS μ k0).2) (by rw [dtWs_at hlt, dtAt, dtEl, hk.1]; rfl) rfl hk.2 hd (k.2 p l e R s m args below meth c Q D E base N0 Z0 K H locs ls hm hs h1 h2 hL)
theorem dr_aaload4 {y : MethodName} {cc : ByteArray} {nL : Nat} {ret : Option FieldType} {d : Nat} {r : Option Value} {F : dtM} {pc : Nat} {L : List (Option Value)} {S : List Value} {μ : dtM} {k0 : Nat} {i : Int32} (v : Nat) (hd : decode cc pc = .ok (.aaload, 1)) (hv : opLR 4 μ k0 i = some v) (k : dtW y cc nL ret d r F (pc + 1) L (.ref v :: S) μ) : dtW y cc nL ret d r F pc L (.int i :: .ref k0 :: S) μ := by
  obtain ⟨hk, hr⟩ := dtIfR hv
  refine ⟨k.1, ?_⟩
  intro p l e R s m args below meth c Q D E base N0 Z0 K H locs ls hm hs h1 h2 hL
  have hlt := hm.lt (k := k0) rfl (by rw [hk.1]; decide)
  have h4 := hm.2.2.2.1 _ _ _ hr
  rw [List.map_cons, List.map_cons, dtV_ref (k := k0) (by have := hm.2.2.1; omega)]
  have kk := k.2 p l e R s m args below meth c Q D E base N0 Z0 K H locs ls hm hs h1 h2 hL
  rw [List.map_cons, dtV_ref h4] at kk
  refine va_aldq K.1 K.2.1 K.st.1 hm.1 k0 3 (n := (dtS μ k0).2) (f := fun i => (dtR μ k0 i).map (dtA E base)) (by rw [dtWs_at hlt, dtAt, dtEl, hk.1]; rfl) rfl hk.2 hd ?_
  rw [hr]
  show W _ _ _ _ _ _ _ _ _ _ _ _ _ _ _ (F0 m (pc + 1) ls (.ref (dtA E base v) :: _))
  rw [dtA_in h4]
  exact kk
theorem dr_aaload5 {y : MethodName} {cc : ByteArray} {nL : Nat} {ret : Option FieldType} {d : Nat} {r : Option Value} {F : dtM} {pc : Nat} {L : List (Option Value)} {S : List Value} {μ : dtM} {k0 : Nat} {i : Int32} (v : Nat) (hd : decode cc pc = .ok (.aaload, 1)) (hv : opLR 5 μ k0 i = some v) (k : dtW y cc nL ret d r F (pc + 1) L (.ref v :: S) μ) : dtW y cc nL ret d r F pc L (.int i :: .ref k0 :: S) μ := by
  obtain ⟨hk, hr⟩ := dtIfR hv
  refine ⟨k.1, ?_⟩
  intro p l e R s m args below meth c Q D E base N0 Z0 K H locs ls hm hs h1 h2 hL
  have hlt := hm.lt (k := k0) rfl (by rw [hk.1]; decide)
  have h4 := hm.2.2.2.1 _ _ _ hr
  rw [List.map_cons, List.map_cons, dtV_ref (k := k0) (by have := hm.2.2.1; omega)]
  have kk := k.2 p l e R s m args below meth c Q D E base N0 Z0 K H locs ls hm hs h1 h2 hL
  rw [List.map_cons, dtV_ref h4] at kk
  refine va_aldq K.1 K.2.1 K.st.1 hm.1 k0 4 (n := (dtS μ k0).2) (f := fun i => (dtR μ k0 i).map (dtA E base)) (by rw [dtWs_at hlt, dtAt, dtEl, hk.1]; rfl) rfl hk.2 hd ?_
  rw [hr]
  show W _ _ _ _ _ _ _ _ _ _ _ _ _ _ _ (F0 m (pc + 1) ls (.ref (dtA E base v) :: _))
  rw [dtA_in h4]
  exact kk
theorem dr_aaload6 {y : MethodName} {cc : ByteArray} {nL : Nat} {ret : Option FieldType} {d : Nat} {r : Option Value} {F : dtM} {pc : Nat} {L : List (Option Value)} {S : List Value} {μ : dtM} {k0 : Nat} {i : Int32} (v : Nat) (hd : decode cc pc = .ok (.aaload, 1)) (hv : opLR 6 μ k0 i = some v) (k : dtW y cc nL ret d r F (pc + 1) L (.ref v :: S) μ) : dtW y cc nL ret d r F pc L (.int i :: .ref k0 :: S) μ := by
  obtain ⟨hk, hr⟩ := dtIfR hv
  refine ⟨k.1, ?_⟩
  intro p l e R s m args below meth c Q D E base N0 Z0 K H locs ls hm hs h1 h2 hL
  have hlt := hm.lt (k := k0) rfl (by rw [hk.1]; decide)
  have h4 := hm.2.2.2.1 _ _ _ hr
  rw [List.map_cons, List.map_cons, dtV_ref (k := k0) (by have := hm.2.2.1; omega)]
  have kk := k.2 p l e R s m args below meth c Q D E base N0 Z0 K H locs ls hm hs h1 h2 hL
  rw [List.map_cons, dtV_ref h4] at kk
  refine va_aldq K.1 K.2.1 K.st.1 hm.1 k0 5 (n := (dtS μ k0).2) (f := fun i => (dtR μ k0 i).map (dtA E base)) (by rw [dtWs_at hlt, dtAt, dtEl, hk.1]; rfl) rfl hk.2 hd ?_
  rw [hr]
  show W _ _ _ _ _ _ _ _ _ _ _ _ _ _ _ (F0 m (pc + 1) ls (.ref (dtA E base v) :: _))
  rw [dtA_in h4]
  exact kk
theorem dr_iastore {y : MethodName} {cc : ByteArray} {nL : Nat} {ret : Option FieldType} {d : Nat} {r : Option Value} {F : dtM} {pc : Nat} {L : List (Option Value)} {S : List Value} {μ : dtM} {k0 : Nat} {i : Int32} {v : Int32} (μ' : dtM) (hd : decode cc pc = .ok (.iastore, 1)) (hv : opSI μ k0 i v = some μ') (k : dtW y cc nL ret d r F (pc + 1) L S μ') : dtW y cc nL ret d r F pc L (.int v :: .int i :: .ref k0 :: S) μ := by
  obtain ⟨hk, rfl⟩ := dtIf hv
  refine ⟨k.1, ?_⟩
  intro p l e R s m args below meth c Q D E base N0 Z0 K H locs ls hm hs h1 h2 hL
  have hlt := hm.lt (k := k0) rfl (by rw [hk.1]; decide)
  rw [List.map_cons, List.map_cons, List.map_cons, dtV_ref (k := k0) (by have := hm.2.2.1; omega)]
  refine va_iast (H0 := s.heap) (A := dtO base) K.1 K.2.1 K.st.1 hm.1 dtWs_D hs k0 0 (n := (dtS μ k0).2) (f := dtI μ k0) (by rw [dtWs_at hlt, dtAt, dtEl, hk.1]; rfl) rfl hk.2 hd (fun H1 locs1 hP _ hs1 => ?_)
  refine k.2 p l e R s m args below meth c Q D E base N0 Z0 K H1 locs1 ls (hm.of ?_ rfl rfl hm.2.2.2.1 (dtRow_n _ _ (by have := hm.2.2.1; omega))) hs1 h1 h2 hL
  rw [dtWs_RI (g := dtUp (dtI μ k0) i.toNatClampNeg v) (by rw [dtEl, hk.1]; rfl)] at hP
  exact hP
theorem dr_bastore {y : MethodName} {cc : ByteArray} {nL : Nat} {ret : Option FieldType} {d : Nat} {r : Option Value} {F : dtM} {pc : Nat} {L : List (Option Value)} {S : List Value} {μ : dtM} {k0 : Nat} {i : Int32} {v : Int32} (μ' : dtM) (hd : decode cc pc = .ok (.bastore, 1)) (hv : opSB μ k0 i v = some μ') (k : dtW y cc nL ret d r F (pc + 1) L S μ') : dtW y cc nL ret d r F pc L (.int v :: .int i :: .ref k0 :: S) μ := by
  obtain ⟨hk, rfl⟩ := dtIf hv
  refine ⟨k.1, ?_⟩
  intro p l e R s m args below meth c Q D E base N0 Z0 K H locs ls hm hs h1 h2 hL
  have hlt := hm.lt (k := k0) rfl (by rw [hk.1]; decide)
  rw [List.map_cons, List.map_cons, List.map_cons, dtV_ref (k := k0) (by have := hm.2.2.1; omega)]
  refine va_bast (H0 := s.heap) (A := dtO base) K.1 K.2.1 K.st.1 hm.1 dtWs_D hs k0 1 (n := (dtS μ k0).2) (f := dtI μ k0) (by rw [dtWs_at hlt, dtAt, dtEl, hk.1]; rfl) rfl hk.2 hd (fun H1 locs1 hP _ hs1 => ?_)
  refine k.2 p l e R s m args below meth c Q D E base N0 Z0 K H1 locs1 ls (hm.of ?_ rfl rfl hm.2.2.2.1 (dtRow_n _ _ (by have := hm.2.2.1; omega))) hs1 h1 h2 hL
  rw [dtWs_RI (g := dtUp (dtI μ k0) i.toNatClampNeg (vp_nar .byte v)) (by rw [dtEl, hk.1]; rfl)] at hP
  exact hP
theorem dr_lastore {y : MethodName} {cc : ByteArray} {nL : Nat} {ret : Option FieldType} {d : Nat} {r : Option Value} {F : dtM} {pc : Nat} {L : List (Option Value)} {S : List Value} {μ : dtM} {k0 : Nat} {i : Int32} {v : Int64} (μ' : dtM) (hd : decode cc pc = .ok (.lastore, 1)) (hv : opSJ μ k0 i v = some μ') (k : dtW y cc nL ret d r F (pc + 1) L S μ') : dtW y cc nL ret d r F pc L (.long v :: .int i :: .ref k0 :: S) μ := by
  obtain ⟨hk, rfl⟩ := dtIf hv
  refine ⟨k.1, ?_⟩
  intro p l e R s m args below meth c Q D E base N0 Z0 K H locs ls hm hs h1 h2 hL
  have hlt := hm.lt (k := k0) rfl (by rw [hk.1]; decide)
  rw [List.map_cons, List.map_cons, List.map_cons, dtV_ref (k := k0) (by have := hm.2.2.1; omega)]
  refine va_last (H0 := s.heap) (A := dtO base) K.1 K.2.1 K.st.1 hm.1 dtWs_D hs k0 2 (n := (dtS μ k0).2) (f := dtJ μ k0) (by rw [dtWs_at hlt, dtAt, dtEl, hk.1]; rfl) rfl hk.2 hd (fun H1 locs1 hP _ hs1 => ?_)
  refine k.2 p l e R s m args below meth c Q D E base N0 Z0 K H1 locs1 ls (hm.of ?_ rfl rfl hm.2.2.2.1 rfl) hs1 h1 h2 hL
  rw [dtWs_RJ (g := dtUp (dtJ μ k0) i.toNatClampNeg v) (by rw [dtEl, hk.1]; rfl)] at hP
  exact hP
theorem dr_aastore4 {y : MethodName} {cc : ByteArray} {nL : Nat} {ret : Option FieldType} {d : Nat} {r : Option Value} {F : dtM} {pc : Nat} {L : List (Option Value)} {S : List Value} {μ : dtM} {k0 v : Nat} {i : Int32} (μ' : dtM) (hd : decode cc pc = .ok (.aastore, 1)) (hv : opSR 4 9 μ k0 i v = some μ') (k : dtW y cc nL ret d r F (pc + 1) L S μ') : dtW y cc nL ret d r F pc L (.ref v :: .int i :: .ref k0 :: S) μ := by
  obtain ⟨hk, rfl⟩ := dtIf hv
  refine ⟨k.1, ?_⟩
  intro p l e R s m args below meth c Q D E base N0 Z0 K H locs ls hm hs h1 h2 hL
  have hlt := hm.lt (k := k0) rfl (by rw [hk.1]; decide)
  have hlv := hm.lt hk.2.2 (show 0 < 7 by decide)
  have hv6 : v < 1000000 := by have := hm.2.2.1; omega
  rw [List.map_cons, List.map_cons, List.map_cons, dtV_ref (k := k0) (by have := hm.2.2.1; omega), dtV_ref hv6]
  refine va_astq (H0 := s.heap) (A := dtO base) K.1 K.2.1 K.st.1 hm.1 dtWs_D hs k0 3 v 9 (n := (dtS μ k0).2) (f := fun i => (dtR μ k0 i).map (dtA E base)) (by rw [dtWs_at hlt, dtAt, dtEl, hk.1]; rfl) rfl (by rw [dtWs_at hlv, dtAt_o hk.2.2]) (r := (RX9, TX9, (dtC 9).2.2)) rfl hk.2.1 hd (fun H1 locs1 hP _ hs1 => ?_)
  refine k.2 p l e R s m args below meth c Q D E base N0 Z0 K H1 locs1 ls (hm.of ?_ rfl rfl (dtRR_lt hm.2.2.2.1 hv6) rfl) hs1 h1 h2 hL
  rw [dtWs_RR (g := dtUp (dtR μ k0) i.toNatClampNeg (some v)) (by
    rw [dtEl, hk.1]
    show (Sum.inl _ : va_E) = _
    congr 7
    funext a
    by_cases ha : a = i.toNatClampNeg
    · subst ha; simp [dtUp, va_up, dtA_in hv6]
    · simp [dtUp, va_up, ha])] at hP
  exact hP
theorem dr_aastore5 {y : MethodName} {cc : ByteArray} {nL : Nat} {ret : Option FieldType} {d : Nat} {r : Option Value} {F : dtM} {pc : Nat} {L : List (Option Value)} {S : List Value} {μ : dtM} {k0 v : Nat} {i : Int32} (μ' : dtM) (hd : decode cc pc = .ok (.aastore, 1)) (hv : opSR 5 3 μ k0 i v = some μ') (k : dtW y cc nL ret d r F (pc + 1) L S μ') : dtW y cc nL ret d r F pc L (.ref v :: .int i :: .ref k0 :: S) μ := by
  obtain ⟨hk, rfl⟩ := dtIf hv
  refine ⟨k.1, ?_⟩
  intro p l e R s m args below meth c Q D E base N0 Z0 K H locs ls hm hs h1 h2 hL
  have hlt := hm.lt (k := k0) rfl (by rw [hk.1]; decide)
  have hlv := hm.lt hk.2.2 (show 0 < 7 by decide)
  have hv6 : v < 1000000 := by have := hm.2.2.1; omega
  rw [List.map_cons, List.map_cons, List.map_cons, dtV_ref (k := k0) (by have := hm.2.2.1; omega), dtV_ref hv6]
  refine va_astq (H0 := s.heap) (A := dtO base) K.1 K.2.1 K.st.1 hm.1 dtWs_D hs k0 4 v 3 (n := (dtS μ k0).2) (f := fun i => (dtR μ k0 i).map (dtA E base)) (by rw [dtWs_at hlt, dtAt, dtEl, hk.1]; rfl) rfl (by rw [dtWs_at hlv, dtAt_o hk.2.2]) (r := (RX3, TX3, (dtC 3).2.2)) rfl hk.2.1 hd (fun H1 locs1 hP _ hs1 => ?_)
  refine k.2 p l e R s m args below meth c Q D E base N0 Z0 K H1 locs1 ls (hm.of ?_ rfl rfl (dtRR_lt hm.2.2.2.1 hv6) rfl) hs1 h1 h2 hL
  rw [dtWs_RR (g := dtUp (dtR μ k0) i.toNatClampNeg (some v)) (by
    rw [dtEl, hk.1]
    show (Sum.inl _ : va_E) = _
    congr 7
    funext a
    by_cases ha : a = i.toNatClampNeg
    · subst ha; simp [dtUp, va_up, dtA_in hv6]
    · simp [dtUp, va_up, ha])] at hP
  exact hP
theorem dr_aastore6 {y : MethodName} {cc : ByteArray} {nL : Nat} {ret : Option FieldType} {d : Nat} {r : Option Value} {F : dtM} {pc : Nat} {L : List (Option Value)} {S : List Value} {μ : dtM} {k0 v : Nat} {i : Int32} (μ' : dtM) (hd : decode cc pc = .ok (.aastore, 1)) (hv : opSR 6 0 μ k0 i v = some μ') (k : dtW y cc nL ret d r F (pc + 1) L S μ') : dtW y cc nL ret d r F pc L (.ref v :: .int i :: .ref k0 :: S) μ := by
  obtain ⟨hk, rfl⟩ := dtIf hv
  refine ⟨k.1, ?_⟩
  intro p l e R s m args below meth c Q D E base N0 Z0 K H locs ls hm hs h1 h2 hL
  have hlt := hm.lt (k := k0) rfl (by rw [hk.1]; decide)
  have hlv := hm.lt hk.2.2 (show 0 < 7 by decide)
  have hv6 : v < 1000000 := by have := hm.2.2.1; omega
  rw [List.map_cons, List.map_cons, List.map_cons, dtV_ref (k := k0) (by have := hm.2.2.1; omega), dtV_ref hv6]
  refine va_astq (H0 := s.heap) (A := dtO base) K.1 K.2.1 K.st.1 hm.1 dtWs_D hs k0 5 v 0 (n := (dtS μ k0).2) (f := fun i => (dtR μ k0 i).map (dtA E base)) (by rw [dtWs_at hlt, dtAt, dtEl, hk.1]; rfl) rfl (by rw [dtWs_at hlv, dtAt_o hk.2.2]) (r := (RX0, TX0, (dtC 0).2.2)) rfl hk.2.1 hd (fun H1 locs1 hP _ hs1 => ?_)
  refine k.2 p l e R s m args below meth c Q D E base N0 Z0 K H1 locs1 ls (hm.of ?_ rfl rfl (dtRR_lt hm.2.2.2.1 hv6) rfl) hs1 h1 h2 hL
  rw [dtWs_RR (g := dtUp (dtR μ k0) i.toNatClampNeg (some v)) (by
    rw [dtEl, hk.1]
    show (Sum.inl _ : va_E) = _
    congr 7
    funext a
    by_cases ha : a = i.toNatClampNeg
    · subst ha; simp [dtUp, va_up, dtA_in hv6]
    · simp [dtUp, va_up, ha])] at hP
  exact hP
theorem dr_arraylength {y : MethodName} {cc : ByteArray} {nL : Nat} {ret : Option FieldType} {d : Nat} {r : Option Value} {F : dtM} {pc : Nat} {L : List (Option Value)} {S : List Value} {μ : dtM} {k0 : Nat} (v : Int32) (hd : decode cc pc = .ok (.arraylength, 1)) (hv : opAL μ k0 = some v) (k : dtW y cc nL ret d r F (pc + 1) L (.int v :: S) μ) : dtW y cc nL ret d r F pc L (.ref k0 :: S) μ := by
  obtain ⟨hk, rfl⟩ := dtIf hv
  refine ⟨k.1, ?_⟩
  intro p l e R s m args below meth c Q D E base N0 Z0 K H locs ls hm hs h1 h2 hL
  have hlt := hm.lt (k := k0) rfl hk.2
  rw [List.map_cons, dtV_ref (k := k0) (by have := hm.2.2.1; omega)]
  have hc : (dtS μ k0).1 = 1 ∨ (dtS μ k0).1 = 2 ∨ (dtS μ k0).1 = 3 ∨ (dtS μ k0).1 = 4 ∨ (dtS μ k0).1 = 5 ∨ (dtS μ k0).1 = 6 := by omega
  have kk := k.2 p l e R s m args below meth c Q D E base N0 Z0 K H locs ls hm hs h1 h2 hL
  rcases hc with q | q | q | q | q | q
  · exact va_alen K.1 K.2.1 K.st.1 hm.1 k0 0 (x := ((dtS μ k0).2, .inl (dtI μ k0))) (by rw [dtWs_at hlt, dtAt, dtEl, q]; rfl) rfl rfl hd kk
  · exact va_alen K.1 K.2.1 K.st.1 hm.1 k0 1 (x := ((dtS μ k0).2, .inl (dtI μ k0))) (by rw [dtWs_at hlt, dtAt, dtEl, q]; rfl) rfl rfl hd kk
  · exact va_alen K.1 K.2.1 K.st.1 hm.1 k0 2 (x := ((dtS μ k0).2, .inr (.inl (dtJ μ k0)))) (by rw [dtWs_at hlt, dtAt, dtEl, q]; rfl) rfl rfl hd kk
  · exact va_alen K.1 K.2.1 K.st.1 hm.1 k0 3 (x := ((dtS μ k0).2, .inr (.inr (.inr (.inr (fun k => (dtR μ k0 k).map (dtA E base))))))) (by rw [dtWs_at hlt, dtAt, dtEl, q]; rfl) rfl rfl hd kk
  · exact va_alen K.1 K.2.1 K.st.1 hm.1 k0 4 (x := ((dtS μ k0).2, .inr (.inr (.inr (.inr (fun k => (dtR μ k0 k).map (dtA E base))))))) (by rw [dtWs_at hlt, dtAt, dtEl, q]; rfl) rfl rfl hd kk
  · exact va_alen K.1 K.2.1 K.st.1 hm.1 k0 5 (x := ((dtS μ k0).2, .inr (.inr (.inr (.inr (fun k => (dtR μ k0 k).map (dtA E base))))))) (by rw [dtWs_at hlt, dtAt, dtEl, q]; rfl) rfl rfl hd kk
