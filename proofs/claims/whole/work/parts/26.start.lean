/-! the start: what is outside, by the Statement's words -/
theorem dtTbl {w : Cond} (h : w ∈ tables_1) : w ∈ lw_tbl := List.mem_append_right _ h
theorem dtAO_9 : Cond.arrayOver (.object RX9) ∈ lw_tbl := dtTbl (dtTb_1 (List.mem_of_getElem? (i := 30) (by decide +kernel)))
theorem dtAO_3 : Cond.arrayOver (.object RX3) ∈ lw_tbl := dtTbl (dtTb_2 (List.mem_of_getElem? (i := 4) (by decide +kernel)))
theorem dtAO_0 : Cond.arrayOver (.object RX0) ∈ lw_tbl := dtTbl (dtTb_2 (List.mem_of_getElem? (i := 5) (by decide +kernel)))
theorem dtSR_8 : Cond.stringRef RX8 70 dtStr0 ∈ lw_tbl := dtTbl (dtTb_3 (List.mem_of_getElem? (i := 82) (by decide +kernel)))
theorem dtSR_12 : Cond.stringRef RX12 186 dtStr1 ∈ lw_tbl := dtTbl (dtTb_7 (List.mem_of_getElem? (i := 118) (by decide +kernel)))
theorem dtLS_c : Cond.laysStatic "java/lang/String" "COMPACT_STRINGS" "Z" ∈ lw_tbl := dtTbl (dtTb_3 (List.mem_of_getElem? (i := 92) (by decide +kernel)))
theorem dtLS_f : Cond.laysStatic "jdk/internal/util/Preconditions" "SIOOBE_FORMATTER" "Ljava/util/function/BiFunction;" ∈ lw_tbl := dtTbl (dtTb_3 (List.mem_of_getElem? (i := 108) (by decide +kernel)))
theorem dtLS_l : Cond.laysStatic "DoorTongue$Hearing" "LOUD" "[I" ∈ lw_tbl := dtTbl (dtTb_4 (List.mem_of_getElem? (i := 193) (by decide +kernel)))
def dtFl : List Cond := flatC (Jvm.Cond.and given_1 narrow_1)
def dtTm (i : Nat) : Term := if i = 0 then .string "DoorTongue$Tokens" 70 else .string "DoorTongueModel" 186
def dtEq0 (j : Nat) : Cond := Cond.eq (.elem (.field (.string "DoorTongue$Tokens" 70) "java/lang/String" "value" "[B") (.int (Int32.ofNat j))) (.int (dtTxt0.getD j 0))
def dtEq1 (j : Nat) : Cond := Cond.eq (.elem (.field (.string "DoorTongueModel" 186) "java/lang/String" "value" "[B") (.int (Int32.ofNat j))) (.int (dtTxt1.getD j 0))
theorem dtFl0 : (dtFl.drop 59).take 123 = (List.range 123).map dtEq0 := by decide +kernel
theorem dtFl1 : (dtFl.drop 186).take 124 = (List.range 124).map dtEq1 := by decide +kernel
theorem dtFl0_in {j : Nat} (h : j < 123) : dtEq0 j ∈ dtFl := List.mem_of_mem_drop (List.mem_of_mem_take (by rw [dtFl0]; exact List.mem_map.mpr ⟨j, List.mem_range.mpr h, rfl⟩))
theorem dtFl1_in {j : Nat} (h : j < 124) : dtEq1 j ∈ dtFl := List.mem_of_mem_drop (List.mem_of_mem_take (by rw [dtFl1]; exact List.mem_map.mpr ⟨j, List.mem_range.mpr h, rfl⟩))
theorem dtInst : ∀ ci, ci < 13 → ∃ n, Cond.instantiable (dtC ci).1 n ∈ dtWT
  | 0, _ => ⟨_, wt_194⟩
  | 1, _ => ⟨_, wt_306⟩
  | 2, _ => ⟨_, wt_325⟩
  | 3, _ => ⟨_, wt_79⟩
  | 4, _ => ⟨_, wt_247⟩
  | 5, _ => ⟨_, wt_335⟩
  | 6, _ => ⟨_, wt_364⟩
  | 7, _ => ⟨_, wt_55⟩
  | 8, _ => ⟨_, wt_253⟩
  | 9, _ => ⟨_, wt_31⟩
  | 10, _ => ⟨_, wt_354⟩
  | 11, _ => ⟨_, wt_22⟩
  | 12, _ => ⟨_, wt_1338⟩
theorem dtArr {s : State} {args : Array Value} {ty : FieldType} (h : (Cond.arrayClass ty).before args s = true) : ∃ c, ArrOfT s c ty ∧ s.vm.findClass ("[" ++ ty.toString) = some c := by
  obtain ⟨c, k, comp, h1, h2, h3⟩ := Cond.arrayClass_spec h
  exact ⟨c, fun n z => ⟨fun k h => (by cases h), k, h2, comp, h3⟩, h1⟩
theorem dtArrO {s : State} {args : Array Value} {C : String} (h : (Cond.arrayOver (.object C)).before args s = true) : ∃ c, ArrOfT s c (.object C) ∧ va_RA s c (.object C) := by
  obtain ⟨comp, c, k, h1, h2, h3, h4, h5⟩ := Cond.arrayOver_spec h
  exact ⟨c, fun n z => ⟨fun k h => (by cases h), k, h3, comp, h4⟩, k, comp, h3, h4, h1, h5⟩
theorem dtStart {s : State} {b L : Nat} {xs : Nat → Int32} (hts : ∀ w ∈ lw_tbl, w.before #[Value.ref b] s = true) (hX : va_X b L xs s s.heap) (hb : b < s.heap.size) (hgv : (Jvm.Cond.and given_1 narrow_1).before #[Value.ref b] s = true) : ∃ (D : va_G) (E : dtE), dtSt D E s.heap.size s s.heap ∧ E.2.1 = (b, L, xs) := by
  have hs : ∀ c ∈ dtFl, c.before #[Value.ref b] s = true := flat_of_before _ hgv
  have hW : ∀ w ∈ dtWT, w.before #[Value.ref b] s = true := fun w hw => hts w (List.mem_filter.mp hw).1
  have hA : ∀ a : Nat, a < s.heap.size → ¬ dtO s.heap.size a := fun a h => Nat.not_le.mpr h
  have h0 : ∀ ci : Nat, ∃ q : ClassId × (Nat → Nat), ci < 13 → u_Kn s (dtC ci).1 (dtC ci).2.1 (dtC ci).2.2 q.1 q.2 := by
    intro ci
    by_cases h : ci < 13
    · obtain ⟨n, hn⟩ := dtInst ci h
      obtain ⟨cC, iS, hk⟩ := u_known hW (dtC_words ci h) (hW _ hn)
      exact ⟨(cC, iS), fun _ => hk⟩
    · exact ⟨(0, fun _ => 0), fun q => absurd q h⟩
  obtain ⟨kn, hkn⟩ := Classical.axiomOfChoice h0
  obtain ⟨cI, hI, hI2⟩ := dtArr (hW _ wt_192)
  obtain ⟨cB, hB, hB2⟩ := dtArr (hW _ wt_77)
  obtain ⟨cJ, hJ, hJ2⟩ := dtArr (hW _ wt_53)
  obtain ⟨cT, hT, hT2⟩ := dtArrO (hts _ dtAO_9)
  obtain ⟨cH, hH, hH2⟩ := dtArrO (hts _ dtAO_3)
  obtain ⟨cD, hD, hD2⟩ := dtArrO (hts _ dtAO_0)
  obtain ⟨tl, htl, hTl⟩ := va_Tof (tm := .static "DoorTongue$Hearing" "LOUD" "[I") (ty := .int) (N := 4) (f := fun j => .int (dtLoud j)) (A := dtO s.heap.size) (by decide) (hs _ (by decide +kernel)) (va_eqt (z := 4) (hs _ (by decide +kernel))) (fun j hj => match j, hj with
    | 0, _ => va_eqt (z := 9) (hs _ (by decide +kernel))
    | 1, _ => va_eqt (z := 6) (hs _ (by decide +kernel))
    | 2, _ => va_eqt (z := 3) (hs _ (by decide +kernel))
    | 3, _ => va_eqt (z := 1) (hs _ (by decide +kernel))) hA
  have hZl := va_Zof (hts _ dtLS_l) (hW _ wt_9) htl hA
  obtain ⟨adK, adV, hS, hSe⟩ := vk_Sof (args := #[Value.ref b]) (s := s) (N := 2) (tm := dtTm) (len := [123, 124]) (byt := [dtTxt0, dtTxt1]) (A := dtO s.heap.size)
    (fun i hi => match i, hi with | 0, _ => by decide | 1, _ => by decide)
    (fun i hi => match i, hi with | 0, _ => hs _ (by decide +kernel) | 1, _ => hs _ (by decide +kernel))
    (fun i hi => match i, hi with | 0, _ => hs _ (by decide +kernel) | 1, _ => hs _ (by decide +kernel))
    (fun i hi => match i, hi with | 0, _ => hs _ (by decide +kernel) | 1, _ => hs _ (by decide +kernel))
    (fun i hi => match i, hi with | 0, _ => hs _ (by decide +kernel) | 1, _ => hs _ (by decide +kernel))
    (fun i hi => match i, hi with | 0, _ => fun j hj => hs _ (dtFl0_in hj) | 1, _ => fun j hj => hs _ (dtFl1_in hj))
    (fun i j hi hj hij => match i, j, hi, hj with
      | 0, 0, _, _ => absurd rfl hij
      | 1, 1, _, _ => absurd rfl hij
      | 0, 1, _, _ => Or.inl (hs _ (by decide +kernel))
      | 1, 0, _, _ => Or.inr (hs _ (by decide +kernel))) hA
  have hC := va_Zof (A := dtO s.heap.size) (hts _ dtLS_c) (hW _ wt_16) (va_eqt (z := 1) (hs _ (by decide +kernel))) hA
  have hF : ∃ v : Value, va_Z "jdk/internal/util/Preconditions" "SIOOBE_FORMATTER" "Ljava/util/function/BiFunction;" v (dtO s.heap.size) s s.heap ∧ (v = .null ∨ ∃ t, v = .ref t) := by
    rcases va_Zqof (A := dtO s.heap.size) (hts _ dtLS_f) (hW _ wt_18) (hs _ (by decide +kernel)) hA with h | ⟨t, h⟩
    · exact ⟨_, h, Or.inl rfl⟩
    · exact ⟨_, h, Or.inr ⟨t, rfl⟩⟩
  obtain ⟨vf, hf1, hf2⟩ := hF
  refine ⟨(fun ci => (kn ci).1, fun ci => (kn ci).2), ((cI, cB, cJ, cT, cH, cD), (b, L, xs), tl, adK, adV, vf), ⟨⟨fun c q hq => ?_, fun k q hk => ?_⟩, ⟨fun w hw => ?_, va_AO.of (hts _ dtAO_9), va_AO.of (hts _ dtAO_3), va_AO.of (hts _ dtAO_0)⟩, ⟨hX, hb, Nat.le_refl _⟩, ⟨hZl, hTl⟩, ⟨hS, vk_R.of (hts _ dtSR_8) (hSe 0 (by decide)), vk_R.of (hts _ dtSR_12) (hSe 1 (by decide))⟩, hC, hf1, hf2⟩, rfl⟩
  · have hc : c < 13 := (List.getElem?_eq_some_iff.mp hq).1
    have h := hkn c hc
    rw [dtC_at c hc] at hq
    cases hq
    exact h
  · match k, hk with
    | 0, hk => cases hk; exact ⟨hI, hI2⟩
    | 1, hk => cases hk; exact ⟨hB, hB2⟩
    | 2, hk => cases hk; exact ⟨hJ, hJ2⟩
    | 3, hk => cases hk; exact ⟨hT, hT2⟩
    | 4, hk => cases hk; exact ⟨hH, hH2⟩
    | 5, hk => cases hk; exact ⟨hD, hD2⟩
    | k + 6, hk => cases hk
  · have hw' := hts w (List.mem_filter.mp hw).1
    obtain ⟨a, i, x, b', rfl⟩ := dtNest_of hw
    exact va_Nw.of rfl hw'
def dtMu0 (L : Nat) (xs : Nat → Int32) : dtM := (0, 0, (fun k => if k = 1000000 then (8, L) else (7, 0)), (fun k => if k = 1000000 then xs else fun _ => 0), (fun _ _ => 0), (fun _ _ => none))
theorem dtMem0 {D : va_G} {E : dtE} {base b L : Nat} {xs : Nat → Int32} {H : Heap} (hE : E.2.1 = (b, L, xs)) : dtMem D E base (dtMu0 L xs) H := by
  refine ⟨fun k q h => ?_, fun k _ h => ?_, Nat.zero_le _, fun k j v h => (by cases h), ?_, ?_⟩
  · exact absurd (show ([] : va_W)[k]? = some q from h) (by simp)
  · show (if k = 1000000 then (8, L) else (7, 0)) = _
    rw [if_neg h]
  · show (if 1000000 = 1000000 then (8, L) else (7, 0)) = _
    rw [if_pos rfl, hE]
  · show (if 1000000 = 1000000 then xs else fun _ => 0) = _
    rw [if_pos rfl, hE]
