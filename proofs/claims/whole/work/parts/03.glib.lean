/-! G: a typed memory over the kit's worlds -/
abbrev dtM : Type := Nat × Nat × (Nat → Nat × Nat) × (Nat → Nat → Int32) × (Nat → Nat → Int64) × (Nat → Nat → Option Nat)
def dtN (μ : dtM) : Nat := μ.1
def dtZ (μ : dtM) : Nat := μ.2.1
def dtS (μ : dtM) : Nat → Nat × Nat := μ.2.2.1
def dtI (μ : dtM) : Nat → Nat → Int32 := μ.2.2.2.1
def dtJ (μ : dtM) : Nat → Nat → Int64 := μ.2.2.2.2.1
def dtR (μ : dtM) : Nat → Nat → Option Nat := μ.2.2.2.2.2
def dtRow {α : Type} (f : Nat → Nat → α) (k : Nat) (g : Nat → α) : Nat → Nat → α := fun a => if a = k then g else f a
def dtUp {α : Type} (g : Nat → α) (j : Nat) (v : α) : Nat → α := fun b => if b = j then v else g b
def dtRI (μ : dtM) (k : Nat) (g : Nat → Int32) : dtM := (dtN μ, dtZ μ, dtS μ, dtRow (dtI μ) k g, dtJ μ, dtR μ)
def dtRJ (μ : dtM) (k : Nat) (g : Nat → Int64) : dtM := (dtN μ, dtZ μ, dtS μ, dtI μ, dtRow (dtJ μ) k g, dtR μ)
def dtRR (μ : dtM) (k : Nat) (g : Nat → Option Nat) : dtM := (dtN μ, dtZ μ, dtS μ, dtI μ, dtJ μ, dtRow (dtR μ) k g)
def dtSI (μ : dtM) (k j : Nat) (v : Int32) : dtM := dtRI μ k (dtUp (dtI μ k) j v)
def dtSJ (μ : dtM) (k j : Nat) (v : Int64) : dtM := dtRJ μ k (dtUp (dtJ μ k) j v)
def dtSR (μ : dtM) (k j : Nat) (v : Option Nat) : dtM := dtRR μ k (dtUp (dtR μ k) j v)
/-- a new cell, all of it 0 -/
def dtNew (μ : dtM) (kd : Nat × Nat) (n : Nat) : dtM := (dtN μ + 1, dtZ μ + n, (fun k => if k = dtN μ then kd else dtS μ k), dtRow (dtI μ) (dtN μ) (fun _ => 0), dtRow (dtJ μ) (dtN μ) (fun _ => 0), dtRow (dtR μ) (dtN μ) (fun _ => none))
def dtC (ci : Nat) : vw_C := vwCl.getD ci (RX0, TX0, 9)
def dtTy (ci j : Nat) : FieldType := match ci with
  | 0 => tyX0 j | 1 => tyX1 j | 2 => tyX2 j | 3 => tyX3 j | 4 => tyX4 j | 5 => tyX5 j | 6 => tyX6 j | 7 => tyX7 j | 8 => tyX8 j | 9 => tyX9 j | 10 => tyX10 j | 11 => tyX11 j | _ => tyX12 j
/-- 0 int, 1 boolean, 2 long, 3 a reference -/
def dtKd (ty : FieldType) : Nat := match ty with
  | .boolean => 1 | .long => 2 | .object _ => 3 | .array _ => 3 | .int => 0 | _ => 9
abbrev dtE : Type := (ClassId × ClassId × ClassId × ClassId × ClassId × ClassId) × (Nat × Nat × (Nat → Int32)) × Nat × (Nat → Nat) × (Nat → Nat) × Value
/-- what a reference's number means: a cell of ours, or one from outside: 1000000 the script, 1000001 LOUD, 1000002, 1000003 the texts, 1000004 the formatter, 1000012, 1000013 the texts' bytes -/
def dtA (E : dtE) (base k : Nat) : Nat := if k < 1000000 then base + k else if k = 1000000 then E.2.1.1 else if k = 1000001 then E.2.2.1 else if k < 1000004 then E.2.2.2.1 (k - 1000002) else E.2.2.2.2.1 (k - 1000012)
def dtV (E : dtE) (base : Nat) (v : Value) : Value := match v with
  | .ref k => if k = 1000004 then E.2.2.2.2.2 else .ref (dtA E base k)
  | v => v
def dtFv (E : dtE) (base : Nat) (ty : FieldType) (i : Int32) (j : Int64) (r : Option Nat) : Value :=
  if dtKd ty = 2 then .long j else if dtKd ty = 3 then va_rf (r.map (dtA E base)) else .int i
def dtFs (E : dtE) (base ci : Nat) (i : Nat → Int32) (j : Nat → Int64) (r : Nat → Option Nat) : List Value := (List.range (dtC ci).2.2).map (fun k => dtFv E base (dtTy ci k) (i k) (j k) (r k))
def dtEl (E : dtE) (base : Nat) (kd : Nat × Nat) (i : Nat → Int32) (j : Nat → Int64) (r : Nat → Option Nat) : va_E := match kd.1 with
  | 0 => .inr (kd.2, dtFs E base kd.2 i j r)
  | 1 => .inl (E.1.1, kd.2, .inl i)
  | 2 => .inl (E.1.2.1, kd.2, .inl i)
  | 3 => .inl (E.1.2.2.1, kd.2, .inr (.inl j))
  | 4 => .inl (E.1.2.2.2.1, kd.2, .inr (.inr (.inr (.inr (fun k => (r k).map (dtA E base))))))
  | 5 => .inl (E.1.2.2.2.2.1, kd.2, .inr (.inr (.inr (.inr (fun k => (r k).map (dtA E base))))))
  | _ => .inl (E.1.2.2.2.2.2, kd.2, .inr (.inr (.inr (.inr (fun k => (r k).map (dtA E base))))))
def dtAt (E : dtE) (base : Nat) (μ : dtM) (k : Nat) : va_E := dtEl E base (dtS μ k) (dtI μ k) (dtJ μ k) (dtR μ k)
def dtWs (E : dtE) (base : Nat) (μ : dtM) : va_W := (List.range (dtN μ)).map (fun k => (base + k, dtAt E base μ k))
def dtTys (E : dtE) : List (ClassId × FieldType) := [(E.1.1, .int), (E.1.2.1, .byte), (E.1.2.2.1, .long), (E.1.2.2.2.1, .object RX9), (E.1.2.2.2.2.1, .object RX3), (E.1.2.2.2.2.2, .object RX0)]
def dtO (base : Nat) : Nat → Prop := fun q => base ≤ q
def dtMem (D : va_G) (E : dtE) (base : Nat) (μ : dtM) (H : Heap) : Prop := va_P D vwCl (dtWs E base μ) H ∧ (∀ k, dtN μ ≤ k → ¬ k = 1000000 → dtS μ k = (7, 0)) ∧ dtN μ ≤ 900000 ∧ (∀ k j v, dtR μ k j = some v → v < 1000000) ∧ dtS μ 1000000 = (8, E.2.1.2.1) ∧ dtI μ 1000000 = E.2.1.2.2
theorem dtRow_s {α : Type} (f : Nat → Nat → α) (k : Nat) (g : Nat → α) : dtRow f k g k = g := by simp [dtRow]
theorem dtRow_n {α : Type} (f : Nat → Nat → α) {k a : Nat} (g : Nat → α) (h : ¬ a = k) : dtRow f k g a = f a := by simp [dtRow, h]
theorem dtWs_at {E : dtE} {base : Nat} {μ : dtM} {k : Nat} (h : k < dtN μ) : (dtWs E base μ)[k]? = some (base + k, dtAt E base μ k) := by
  simp [dtWs, List.getElem?_map, List.getElem?_range h]
theorem dtWs_len {E : dtE} {base : Nat} {μ : dtM} : (dtWs E base μ).length = dtN μ := by simp [dtWs]
theorem dtWs_of {E : dtE} {base : Nat} {μ : dtM} {k : Nat} {q : Nat × va_E} (h : (dtWs E base μ)[k]? = some q) : k < dtN μ ∧ q = (base + k, dtAt E base μ k) := by
  have hl : k < dtN μ := by
    have h1 := (List.getElem?_eq_some_iff.mp h).1
    rwa [dtWs_len] at h1
  rw [dtWs_at hl] at h
  exact ⟨hl, (Option.some.inj h).symm⟩
theorem dtWs_D {E : dtE} {base : Nat} {μ : dtM} : va_D (dtO base) (dtWs E base μ) := by
  refine ⟨fun i j p q hp hq e => ?_, fun k q hq => ?_⟩
  · obtain ⟨-, rfl⟩ := dtWs_of hp
    obtain ⟨-, rfl⟩ := dtWs_of hq
    have e' : base + i = base + j := e
    omega
  · obtain ⟨-, rfl⟩ := dtWs_of hq
    exact Nat.le_add_right base k
theorem dtWs_set {E : dtE} {base : Nat} {μ μ' : dtM} {k : Nat} {x : va_E} (hN : dtN μ' = dtN μ) (hx : dtAt E base μ' k = x) (ho : ∀ a, ¬ a = k → dtAt E base μ' a = dtAt E base μ a) : (dtWs E base μ).set k (base + k, x) = dtWs E base μ' := by
  apply List.ext_getElem?
  intro a
  by_cases ha : a < dtN μ
  · rw [dtWs_at (hN ▸ ha : a < dtN μ')]
    by_cases hk : a = k
    · subst hk
      rw [List.getElem?_set_self (by rw [dtWs_len]; exact ha), hx]
    · rw [List.getElem?_set_ne (fun e => hk e.symm), dtWs_at ha, ho a hk]
  · rw [List.getElem?_eq_none (by rw [List.length_set, dtWs_len]; omega), List.getElem?_eq_none (by rw [dtWs_len]; omega)]
theorem dtWs_new {E : dtE} {base : Nat} {μ : dtM} {kd : Nat × Nat} {n : Nat} {x : va_E} (hx : dtEl E base kd (fun _ => 0) (fun _ => 0) (fun _ => none) = x) : dtWs E base μ ++ [(base + dtN μ, x)] = dtWs E base (dtNew μ kd n) := by
  subst hx
  show _ = (List.range (dtN μ + 1)).map _
  rw [List.range_succ, List.map_append]
  congr 1
  · apply List.map_congr_left
    intro k hk
    have hk' : ¬ k = dtN μ := Nat.ne_of_lt (List.mem_range.mp hk)
    simp only [dtAt, dtNew, dtS, dtI, dtJ, dtR, dtRow, hk', if_false]
  · simp [dtAt, dtNew, dtS, dtI, dtJ, dtR, dtRow]
theorem dtAt_RI {E : dtE} {base : Nat} {μ : dtM} {k a : Nat} {g : Nat → Int32} (h : ¬ a = k) : dtAt E base (dtRI μ k g) a = dtAt E base μ a := by
  show dtEl E base (dtS μ a) (dtRow (dtI μ) k g a) (dtJ μ a) (dtR μ a) = _
  rw [dtRow_n _ _ h]; rfl
theorem dtAt_RJ {E : dtE} {base : Nat} {μ : dtM} {k a : Nat} {g : Nat → Int64} (h : ¬ a = k) : dtAt E base (dtRJ μ k g) a = dtAt E base μ a := by
  show dtEl E base (dtS μ a) (dtI μ a) (dtRow (dtJ μ) k g a) (dtR μ a) = _
  rw [dtRow_n _ _ h]; rfl
theorem dtAt_RR {E : dtE} {base : Nat} {μ : dtM} {k a : Nat} {g : Nat → Option Nat} (h : ¬ a = k) : dtAt E base (dtRR μ k g) a = dtAt E base μ a := by
  show dtEl E base (dtS μ a) (dtI μ a) (dtJ μ a) (dtRow (dtR μ) k g a) = _
  rw [dtRow_n _ _ h]; rfl
theorem dtAt_RIs {E : dtE} {base : Nat} {μ : dtM} {k : Nat} {g : Nat → Int32} : dtAt E base (dtRI μ k g) k = dtEl E base (dtS μ k) g (dtJ μ k) (dtR μ k) := by
  show dtEl E base (dtS μ k) (dtRow (dtI μ) k g k) (dtJ μ k) (dtR μ k) = _
  rw [dtRow_s]
theorem dtAt_RJs {E : dtE} {base : Nat} {μ : dtM} {k : Nat} {g : Nat → Int64} : dtAt E base (dtRJ μ k g) k = dtEl E base (dtS μ k) (dtI μ k) g (dtR μ k) := by
  show dtEl E base (dtS μ k) (dtI μ k) (dtRow (dtJ μ) k g k) (dtR μ k) = _
  rw [dtRow_s]
theorem dtAt_RRs {E : dtE} {base : Nat} {μ : dtM} {k : Nat} {g : Nat → Option Nat} : dtAt E base (dtRR μ k g) k = dtEl E base (dtS μ k) (dtI μ k) (dtJ μ k) g := by
  show dtEl E base (dtS μ k) (dtI μ k) (dtJ μ k) (dtRow (dtR μ) k g k) = _
  rw [dtRow_s]
theorem dtWs_RI {E : dtE} {base : Nat} {μ : dtM} {k : Nat} {g : Nat → Int32} {x : va_E} (hx : dtEl E base (dtS μ k) g (dtJ μ k) (dtR μ k) = x) : (dtWs E base μ).set k (base + k, x) = dtWs E base (dtRI μ k g) := dtWs_set rfl (dtAt_RIs.trans hx) (fun _ h => dtAt_RI h)
theorem dtWs_RJ {E : dtE} {base : Nat} {μ : dtM} {k : Nat} {g : Nat → Int64} {x : va_E} (hx : dtEl E base (dtS μ k) (dtI μ k) g (dtR μ k) = x) : (dtWs E base μ).set k (base + k, x) = dtWs E base (dtRJ μ k g) := dtWs_set rfl (dtAt_RJs.trans hx) (fun _ h => dtAt_RJ h)
theorem dtWs_RR {E : dtE} {base : Nat} {μ : dtM} {k : Nat} {g : Nat → Option Nat} {x : va_E} (hx : dtEl E base (dtS μ k) (dtI μ k) (dtJ μ k) g = x) : (dtWs E base μ).set k (base + k, x) = dtWs E base (dtRR μ k g) := dtWs_set rfl (dtAt_RRs.trans hx) (fun _ h => dtAt_RR h)
theorem dtMem.lt {D : va_G} {E : dtE} {base : Nat} {μ : dtM} {H : Heap} (h : dtMem D E base μ H) {k : Nat} {kd : Nat × Nat} (hk : dtS μ k = kd) (h7 : kd.1 < 7) : k < dtN μ := by
  rcases Nat.lt_or_ge k (dtN μ) with q | q
  · exact q
  · by_cases hx : k = 1000000
    · have := h.2.2.2.2.1
      rw [← hx, hk] at this
      rw [this] at h7
      exact absurd h7 (show ¬ 8 < 7 by decide)
    · have := h.2.1 k q hx
      rw [hk] at this
      rw [this] at h7
      exact absurd h7 (by decide)
theorem dtA_in {E : dtE} {base k : Nat} (h : k < 1000000) : dtA E base k = base + k := by rw [dtA, if_pos h]
theorem dtV_ref {E : dtE} {base k : Nat} (h : k < 1000000) : dtV E base (.ref k) = .ref (base + k) := by
  show (if k = 1000004 then _ else _) = _
  rw [if_neg (by omega), dtA_in h]
theorem dtV_cat {E : dtE} {base : Nat} {v : Value} (hE : E.2.2.2.2.2 = .null ∨ ∃ t, E.2.2.2.2.2 = .ref t) : (dtV E base v).category = v.category := by
  cases v <;> try rfl
  rename_i k
  show (if k = 1000004 then _ else _ : Value).category = 1
  by_cases h : k = 1000004
  · rw [if_pos h]
    rcases hE with q | ⟨t, q⟩ <;> rw [q] <;> rfl
  · rw [if_neg h]; rfl
/-! what is outside, and stays -/
def dtStr0 : String := "odds room door baize open word says slam shut latch ajar person in deaf knows close go forget any when heard loop end stop "
def dtStr1 : String := " odds room door word person baize open says slam shut latch ajar in deaf knows close go forget any when loop end stop heard "
def dtTxt0 : List Int32 := [111, 100, 100, 115, 32, 114, 111, 111, 109, 32, 100, 111, 111, 114, 32, 98, 97, 105, 122, 101, 32, 111, 112, 101, 110, 32, 119, 111, 114, 100, 32, 115, 97, 121, 115, 32, 115, 108, 97, 109, 32, 115, 104, 117, 116, 32, 108, 97, 116, 99, 104, 32, 97, 106, 97, 114, 32, 112, 101, 114, 115, 111, 110, 32, 105, 110, 32, 100, 101, 97, 102, 32, 107, 110, 111, 119, 115, 32, 99, 108, 111, 115, 101, 32, 103, 111, 32, 102, 111, 114, 103, 101, 116, 32, 97, 110, 121, 32, 119, 104, 101, 110, 32, 104, 101, 97, 114, 100, 32, 108, 111, 111, 112, 32, 101, 110, 100, 32, 115, 116, 111, 112, 32]
def dtTxt1 : List Int32 := [32, 111, 100, 100, 115, 32, 114, 111, 111, 109, 32, 100, 111, 111, 114, 32, 119, 111, 114, 100, 32, 112, 101, 114, 115, 111, 110, 32, 98, 97, 105, 122, 101, 32, 111, 112, 101, 110, 32, 115, 97, 121, 115, 32, 115, 108, 97, 109, 32, 115, 104, 117, 116, 32, 108, 97, 116, 99, 104, 32, 97, 106, 97, 114, 32, 105, 110, 32, 100, 101, 97, 102, 32, 107, 110, 111, 119, 115, 32, 99, 108, 111, 115, 101, 32, 103, 111, 32, 102, 111, 114, 103, 101, 116, 32, 97, 110, 121, 32, 119, 104, 101, 110, 32, 108, 111, 111, 112, 32, 101, 110, 100, 32, 115, 116, 111, 112, 32, 104, 101, 97, 114, 100, 32]
def dtTxt (i : Nat) : List Int32 := if i = 0 then dtTxt0 else dtTxt1
def dtIsN (w : Cond) : Bool := match w with | .methodLinkNest .. => true | _ => false
def dtNest : List Cond := lw_tbl.filter dtIsN
def dtWT : List Cond := lw_tbl.filter goodWord
def dtLoud (i : Nat) : Int32 := if i = 0 then 9 else if i = 1 then 6 else if i = 2 then 3 else 1
def dtSt (D : va_G) (E : dtE) (base : Nat) (U : State) (H : Heap) : Prop :=
  va_K D vwCl (dtTys E) U ∧ ((∀ w ∈ dtNest, va_Nw w U) ∧ va_AO RX9 U ∧ va_AO RX3 U ∧ va_AO RX0 U) ∧ (va_X E.2.1.1 E.2.1.2.1 E.2.1.2.2 U H ∧ E.2.1.1 < base ∧ base ≤ H.size) ∧
  (va_Z "DoorTongue$Hearing" "LOUD" "[I" (.ref E.2.2.1) (dtO base) U H ∧ va_T .int E.2.2.1 4 (fun j => .int (dtLoud j)) (dtO base) U H) ∧
  (vk_S 2 [123, 124] [dtTxt0, dtTxt1] E.2.2.2.1 E.2.2.2.2.1 (dtO base) U H ∧ vk_R RX8 70 dtStr0 (E.2.2.2.1 0) U ∧ vk_R RX12 186 dtStr1 (E.2.2.2.1 1) U) ∧
  va_Z "java/lang/String" "COMPACT_STRINGS" "Z" (.int 1) (dtO base) U H ∧
  (va_Z "jdk/internal/util/Preconditions" "SIOOBE_FORMATTER" "Ljava/util/function/BiFunction;" E.2.2.2.2.2 (dtO base) U H ∧ (E.2.2.2.2.2 = .null ∨ ∃ t, E.2.2.2.2.2 = .ref t))
theorem dtNest_of {w : Cond} (h : w ∈ dtNest) : ∃ (a : String) (i : Nat) (x : MethodName) (b : String), w = .methodLinkNest a i x b := by
  have h2 := (List.mem_filter.mp h).2
  cases w <;> first | exact ⟨_, _, _, _, rfl⟩ | (exact absurd h2 (by decide)) | (exact absurd h2 (by simp [dtIsN]))
theorem dtX_kept {D : va_G} {E : dtE} {base : Nat} {U : State} {H H1 : Heap} (h : dtSt D E base U H) (hz : H.size ≤ H1.size) (hq : ∀ a : Nat, a < H.size → ¬ dtO base a → H1[a]? = H[a]?) : dtSt D E base U H1 := by
  obtain ⟨h1, h2, ⟨h3, h4, h4'⟩, ⟨h5, h6⟩, ⟨h7, h8, h9⟩, h10, h11, h12⟩ := h
  have hb : H1[E.2.1.1]? = H[E.2.1.1]? := hq _ (by omega) (by show ¬ base ≤ _; omega)
  exact ⟨h1, h2, ⟨h3.kept hb, h4, by omega⟩, ⟨h5.kept hq, h6.kept hq⟩, ⟨h7.kept hq, h8, h9⟩, h10.kept hq, h11.kept hq, h12⟩
theorem dtX_warm {D : va_G} {E : dtE} {base : Nat} {s U : State} {H : Heap} (hW : s.WarmedH U.vm) (h : dtSt D E base s H) : dtSt D E base U H := by
  obtain ⟨h1, h2, ⟨h3, h4, h4'⟩, ⟨h5, h6⟩, ⟨h7, h8, h9⟩, h10, h11, h12⟩ := h
  have hv := hW.alike
  refine ⟨va_K.moved hv h1, ⟨fun w hw => ?_, h2.2.1.moved hv, h2.2.2.1.moved hv, h2.2.2.2.moved hv⟩, ⟨va_X.moved hv h3, h4, h4'⟩, ⟨va_Z.moved hv h5, va_T.moved hv h6⟩, ⟨vk_S.moved hv h7, vk_R.warm hW h8, vk_R.warm hW h9⟩, va_Z.moved hv h10, va_Z.moved hv h11, h12⟩
  obtain ⟨a, i, x, b, rfl⟩ := dtNest_of hw
  exact va_Nw.warmM hW (h2.1 _ hw)
theorem dtX_same {D : va_G} {E : dtE} {base : Nat} {u U : State} {H : Heap} (hW : u.vm = U.vm) (h : dtSt D E base u H) : dtSt D E base U H := by
  obtain ⟨h1, h2, ⟨h3, h4, h4'⟩, ⟨h5, h6⟩, ⟨h7, h8, h9⟩, h10, h11, h12⟩ := h
  have hv : u.vm.Alike U.vm := hW ▸ Vm.Alike.refl u.vm
  refine ⟨va_K.moved hv h1, ⟨fun w hw => ?_, h2.2.1.moved hv, h2.2.2.1.moved hv, h2.2.2.2.moved hv⟩, ⟨va_X.moved hv h3, h4, h4'⟩, ⟨va_Z.moved hv h5, va_T.moved hv h6⟩, ⟨vk_S.moved hv h7, vk_R.same hW.symm h8, vk_R.same hW.symm h9⟩, va_Z.moved hv h10, va_Z.moved hv h11, h12⟩
  obtain ⟨a, i, x, b, rfl⟩ := dtNest_of hw
  exact va_Nw.same rfl hW (h2.1 _ hw)
/-! locals: a list by number -/
def dtP (E : dtE) (base : Nat) : Nat → List (Option Value) → List (Nat × Value)
  | _, [] => []
  | i, some v :: l => (i, dtV E base v) :: dtP E base (i + 1) l
  | i, none :: l => dtP E base (i + 1) l
def dtG : List (Option Value) → Nat → Option Value
  | [], _ => none
  | a :: _, 0 => a
  | _ :: l, i + 1 => dtG l i
def dtPut : List (Option Value) → Nat → Option Value → List (Option Value)
  | [], 0, v => [v]
  | [], i + 1, v => none :: dtPut [] i v
  | _ :: l, 0, v => v :: l
  | a :: l, i + 1, v => a :: dtPut l i v
def dtL0 : List Value → List (Option Value)
  | [] => []
  | v :: vs => if v.category = 2 then some v :: none :: dtL0 vs else some v :: dtL0 vs
theorem dtP_mem {E : dtE} {base : Nat} : ∀ (L : List (Option Value)) (i j : Nat) (w : Value), (j, w) ∈ dtP E base i L ↔ ∃ k v, dtG L k = some v ∧ j = i + k ∧ w = dtV E base v
  | [], i, j, w => by simp [dtP, dtG]
  | none :: l, i, j, w => by
    rw [dtP, dtP_mem l (i + 1) j w]
    constructor
    · rintro ⟨k, v, h1, h2, h3⟩
      exact ⟨k + 1, v, h1, by omega, h3⟩
    · rintro ⟨k, v, h1, h2, h3⟩
      cases k with
      | zero => cases h1
      | succ k => exact ⟨k, v, h1, by omega, h3⟩
  | some a :: l, i, j, w => by
    rw [dtP, List.mem_cons, dtP_mem l (i + 1) j w]
    constructor
    · rintro (h | ⟨k, v, h1, h2, h3⟩)
      · cases h
        exact ⟨0, a, rfl, rfl, rfl⟩
      · exact ⟨k + 1, v, h1, by omega, h3⟩
    · rintro ⟨k, v, h1, h2, h3⟩
      cases k with
      | zero =>
        cases h1
        left
        rw [h2, h3]; rfl
      | succ k => exact Or.inr ⟨k, v, h1, by omega, h3⟩
theorem dtG_put : ∀ (L : List (Option Value)) (i : Nat) (v : Option Value) (k : Nat), dtG (dtPut L i v) k = if k = i then v else dtG L k
  | [], 0, v, 0 => rfl
  | [], 0, v, k + 1 => by cases k <;> rfl
  | [], i + 1, v, 0 => rfl
  | [], i + 1, v, k + 1 => by
    show dtG (dtPut [] i v) k = _
    rw [dtG_put [] i v k]
    by_cases h : k = i
    · rw [if_pos h, if_pos (by omega)]
    · rw [if_neg h, if_neg (by omega)]; cases k <;> rfl
  | a :: l, 0, v, 0 => rfl
  | a :: l, 0, v, k + 1 => rfl
  | a :: l, i + 1, v, 0 => rfl
  | a :: l, i + 1, v, k + 1 => by
    show dtG (dtPut l i v) k = _
    rw [dtG_put l i v k]
    by_cases h : k = i
    · rw [if_pos h, if_pos (by omega)]
    · rw [if_neg h, if_neg (by omega)]; rfl
theorem dtHas_at {E : dtE} {base n : Nat} {ls : Array Slot} {L : List (Option Value)} (h : lv_has ls n (dtP E base 0 L)) {i : Nat} {v : Value} (hv : dtG L i = some v) : ls[i]? = some (.val (dtV E base v)) :=
  h.2.2 (i, dtV E base v) ((dtP_mem L 0 i _).mpr ⟨i, v, hv, by omega, rfl⟩)
theorem dtHas_mono {ls : Array Slot} {n : Nat} {l l' : List (Nat × Value)} (h : lv_has ls n l) (hs : ∀ q ∈ l', q ∈ l) : lv_has ls n l' := ⟨h.1, h.2.1, fun q hq => h.2.2 q (hs q hq)⟩
/-- the local ahead isn't a long -/
def dtOk (L : List (Option Value)) : Nat → Bool
  | 0 => true
  | j + 1 => match dtG L j with
    | none => true
    | some v => v.category == 1
theorem dtHas_put {E : dtE} {base n i : Nat} {ls : Array Slot} {L : List (Option Value)} {v : Value} (hE : E.2.2.2.2.2 = .null ∨ ∃ t, E.2.2.2.2.2 = .ref t) (hok : dtOk L i = true)
    (h : lv_has ls n ((i, dtV E base v) :: (dtP E base 0 L).filter (fun q => !(q.1 == i) && !(q.1 + 1 == i && q.2.category == 2)))) : lv_has ls n (dtP E base 0 (dtPut L i (some v))) := by
  refine dtHas_mono h fun q hq => ?_
  obtain ⟨k, w, h1, h2, h3⟩ := (dtP_mem _ 0 q.1 q.2).mp hq
  have hq' : q = (k, dtV E base w) := Prod.ext (by rw [h2, Nat.zero_add]) h3
  rw [dtG_put] at h1
  by_cases hk : k = i
  · rw [if_pos hk] at h1
    cases h1
    rw [hq', hk]
    exact List.mem_cons_self
  · rw [if_neg hk] at h1
    refine List.mem_cons_of_mem _ (List.mem_filter.mpr ⟨?_, ?_⟩)
    · rw [hq']
      exact (dtP_mem L 0 _ _).mpr ⟨k, w, h1, by omega, rfl⟩
    · rw [hq']
      have e1 : (k == i) = false := by simpa using hk
      show (!(k == i) && !(k + 1 == i && (dtV E base w).category == 2)) = true
      rw [e1, dtV_cat hE]
      by_cases e2 : k + 1 = i
      · subst e2
        simp only [dtOk, h1] at hok
        have : w.category = 1 := by simpa using hok
        rw [this]; simp
      · have : (k + 1 == i) = false := by simpa using e2
        rw [this]; rfl
theorem dtHas_put2 {E : dtE} {base n i : Nat} {ls : Array Slot} {L : List (Option Value)} {v : Value} (hE : E.2.2.2.2.2 = .null ∨ ∃ t, E.2.2.2.2.2 = .ref t) (hok : dtOk L i = true)
    (h : lv_has ls n ((i, dtV E base v) :: (dtP E base 0 L).filter (fun q => !(q.1 == i) && (!(q.1 == i + 1) && !(q.1 + 1 == i && q.2.category == 2))))) : lv_has ls n (dtP E base 0 (dtPut (dtPut L i (some v)) (i + 1) none)) := by
  refine dtHas_mono h fun q hq => ?_
  obtain ⟨k, w, h1, h2, h3⟩ := (dtP_mem _ 0 q.1 q.2).mp hq
  have hq' : q = (k, dtV E base w) := Prod.ext (by rw [h2, Nat.zero_add]) h3
  rw [dtG_put] at h1
  by_cases hk1 : k = i + 1
  · rw [if_pos hk1] at h1
    cases h1
  rw [if_neg hk1, dtG_put] at h1
  by_cases hk : k = i
  · rw [if_pos hk] at h1
    cases h1
    rw [hq', hk]
    exact List.mem_cons_self
  · rw [if_neg hk] at h1
    refine List.mem_cons_of_mem _ (List.mem_filter.mpr ⟨?_, ?_⟩)
    · rw [hq']
      exact (dtP_mem L 0 _ _).mpr ⟨k, w, h1, by omega, rfl⟩
    · rw [hq']
      have e1 : (k == i) = false := by simpa using hk
      have e3 : (k == i + 1) = false := by simpa using hk1
      show (!(k == i) && (!(k == i + 1) && !(k + 1 == i && (dtV E base w).category == 2))) = true
      rw [e1, e3, dtV_cat hE]
      by_cases e2 : k + 1 = i
      · subst e2
        simp only [dtOk, h1] at hok
        have : w.category = 1 := by simpa using hok
        rw [this]; simp
      · have : (k + 1 == i) = false := by simpa using e2
        rw [this]; rfl
theorem dtL0_args {E : dtE} {base : Nat} (hE : E.2.2.2.2.2 = .null ∨ ∃ t, E.2.2.2.2.2 = .ref t) : ∀ (av : List Value) (i : Nat), dtP E base i (dtL0 av) = lv_args i (av.map (dtV E base))
  | [], i => rfl
  | v :: vs, i => by
    rw [dtL0, List.map_cons, lv_args, dtV_cat hE]
    by_cases h : v.category = 2
    · rw [if_pos h, if_pos h, dtP, dtP, dtL0_args hE vs]
    · rw [if_neg h, if_neg h, dtP, dtL0_args hE vs]
/-! the contract of a method, and the walk within one -/
def dtPc (D : va_G) (E : dtE) (base : Nat) (av : List Value) (μ : dtM) : Array Value → State → Prop := fun v U => v = (av.map (dtV E base)).toArray ∧ dtSt D E base U U.heap ∧ dtMem D E base μ U.heap ∧ U.heap.size = base + dtN μ
def dtQc (D : va_G) (E : dtE) (base : Nat) (r : Option Value) (F : dtM) : Array Value → State → Outcome → State → Prop := fun _ st oc t => oc = .returned (r.map (dtV E base)) ∧ dtMem D E base F t.heap ∧ va_F (dtO base) st t
def dtRm (d mc ms : Nat) : Room := { frames := d, cells := mc, slots := ms, locals := 40 * d }
def dtMet (y : MethodName) (cc : ByteArray) (nL : Nat) (ret : Option FieldType) (d : Nat) (av : List Value) (μ : dtM) (r : Option Value) (F : dtM) : Prop :=
  dtN μ ≤ dtN F ∧ dtZ μ ≤ dtZ F ∧ ∀ (l : Launch) (D : va_G) (E : dtE) (base : Nat), Met l y (.code y cc nL ret :: dtWT) (dtRm d (dtN F - dtN μ) (dtZ F - dtZ μ)) (dtPc D E base av μ) (dtQc D E base r F) (dtN F - dtN μ) (dtZ F - dtZ μ) (dtO base)
def dtK (y : MethodName) (cc : ByteArray) (nL : Nat) (ret : Option FieldType) (d : Nat) (r : Option Value) (F : dtM) (p : Program) (l : Launch) (e : Env) (R : Room) (s : State) (m : MethodId) (args : Array Value) (below : List Frame) (meth : Method) (c : Code) (Q : State → Prop) (D : va_G) (E : dtE) (base N0 Z0 : Nat) : Prop :=
  p.tables.exec = Jvm.exec ∧ c.code = cc ∧ c.maxLocals = nL ∧ s.vm.findClass y.cls = some m.cls ∧ (∀ w ∈ dtWT, w.before args s = true) ∧ meth.locks = false ∧ meth.sig.returnType = ret ∧ dtSt D E base s s.heap ∧
  (d ≤ R.frames ∧ 40 * d ≤ R.locals ∧ dtN F - N0 ≤ R.cells ∧ dtZ F - Z0 ≤ R.slots) ∧ meth.name = y.name ∧ s.heap.size = base + N0 ∧ Q = MQ below (dtQc D E base r F) args s (dtN F - N0) (dtZ F - Z0) (dtO base)
/-- from pc, with the locals L, the stack S and the memory μ, the method y comes to its end, with r and the memory F -/
def dtW (y : MethodName) (cc : ByteArray) (nL : Nat) (ret : Option FieldType) (d : Nat) (r : Option Value) (F : dtM) (pc : Nat) (L : List (Option Value)) (S : List Value) (μ : dtM) : Prop :=
  (dtN μ ≤ dtN F ∧ dtZ μ ≤ dtZ F) ∧ ∀ (p : Program) (l : Launch) (e : Env) (R : Room) (s : State) (m : MethodId) (args : Array Value) (below : List Frame) (meth : Method) (c : Code) (Q : State → Prop) (D : va_G) (E : dtE) (base N0 Z0 : Nat),
    dtK y cc nL ret d r F p l e R s m args below meth c Q D E base N0 Z0 → ∀ (H : Heap) (locs : List Loc) (ls : Array Slot), dtMem D E base μ H → va_S (dtO base) s.heap H locs → N0 ≤ dtN μ → Z0 ≤ dtZ μ → lv_has ls nL (dtP E base 0 L) →
      W p l e R s m args below meth c H locs (dtN μ - N0) (dtZ μ - Z0) Q (F0 m pc ls (S.map (dtV E base)))
theorem dtW.bound {y cc nL ret d r F pc L S μ} (h : dtW y cc nL ret d r F pc L S μ) : dtN μ ≤ dtN F ∧ dtZ μ ≤ dtZ F := h.1
theorem dtSl {E : dtE} {base : Nat} (hE : E.2.2.2.2.2 = .null ∨ ∃ t, E.2.2.2.2.2 = .ref t) : ∀ (av : List Value), (lg_sl (av.map (dtV E base))).length = (lg_sl av).length
  | [] => rfl
  | v :: vs => by
    have ih := dtSl (base := base) hE vs
    simp only [lg_sl, List.map_cons, List.flatMap_cons, List.length_append, dtV_cat hE] at ih ⊢
    rw [ih]
    by_cases h : v.category = 2
    · rw [if_pos h, if_pos h]; rfl
    · rw [if_neg h, if_neg h]; rfl
theorem dtMet.of {y : MethodName} {cc : ByteArray} {nL : Nat} {ret : Option FieldType} {d : Nat} {av : List Value} {μ : dtM} {r : Option Value} {F : dtM} (hy : plainName y.cls = true) (hn : (lg_sl av).length ≤ nL) (h : dtW y cc nL ret d r F 0 (dtL0 av) [] μ) : dtMet y cc nL ret d av μ r F := by
  refine ⟨h.1.1, h.1.2, fun l D E base => ?_⟩
  refine Met.ofW (cc := cc) (maxL := nL) (ret := ret) hy rfl ?_
  intro p e s m args below meth c s₁ B hml hv
  obtain ⟨rfl, hst, hm, hsz⟩ := hv
  have hE := hst.2.2.2.2.2.2.2
  have hts := atoms_spec (ws := .code y cc nL ret :: dtWT) B.pre
  have hsl : (lg_sl (av.map (dtV E base))).length = (lg_sl av).length := dtSl hE av
  have hl := lv_entry (av.map (dtV E base)) (n := nL) (by rw [hsl]; exact hn)
  rw [lg_entry_eq]
  generalize (lg_sl (av.map (dtV E base)) ++ List.replicate (nL - (lg_sl (av.map (dtV E base))).length) Slot.unset).toArray = ls at hl ⊢
  have hx := h.2 p l e (headSpec (.code y cc nL ret :: dtWT) (dtRm d (dtN F - dtN μ) (dtZ F - dtZ μ))).room s m (av.map (dtV E base)).toArray below meth c _ D E base (dtN μ) (dtZ μ)
    ⟨B.exec, B.bytes, hml, findClass_of_methodNamed B.named, fun w hw => hts w (List.mem_cons_of_mem _ hw), B.notSynchronized, B.returns, hst, ⟨Nat.le_refl _, Nat.le_refl _, Nat.le_refl _, Nat.le_refl _⟩, (name_of_methodNamed B.named B.method).1, hsz, rfl⟩ s.heap [] ls hm va_S.rf (Nat.le_refl _) (Nat.le_refl _) (by rw [dtL0_args hE]; exact hl)
  rw [Nat.sub_self, Nat.sub_self] at hx
  exact hx
theorem dtV_rf {E : dtE} {base k : Nat} (hE : E.2.2.2.2.2 = .null ∨ ∃ t, E.2.2.2.2.2 = .ref t) : dtV E base (.ref k) = .null ∨ ∃ t, dtV E base (.ref k) = .ref t := by
  show (if k = 1000004 then _ else _ : Value) = .null ∨ ∃ t, (if k = 1000004 then _ else _ : Value) = .ref t
  by_cases h : k = 1000004
  · rw [if_pos h]; exact hE
  · rw [if_neg h]; exact Or.inr ⟨_, rfl⟩
theorem dtK.nul {y cc nL ret d r F p l e R s m args below meth c Q D E base N0 Z0} (K : dtK y cc nL ret d r F p l e R s m args below meth c Q D E base N0 Z0) : E.2.2.2.2.2 = .null ∨ ∃ t, E.2.2.2.2.2 = .ref t := K.2.2.2.2.2.2.2.1.2.2.2.2.2.2.2
theorem dtK.st {y cc nL ret d r F p l e R s m args below meth c Q D E base N0 Z0} (K : dtK y cc nL ret d r F p l e R s m args below meth c Q D E base N0 Z0) : dtSt D E base s s.heap := K.2.2.2.2.2.2.2.1
theorem dr_iconst {y : MethodName} {cc : ByteArray} {nL : Nat} {ret : Option FieldType} {d : Nat} {r : Option Value} {F : dtM} {pc : Nat} {L : List (Option Value)} {S : List Value} {μ : dtM} {n : Int} (v : Int32) (hd : decode cc pc = .ok (.iconst n, 1)) (hv : Int32.ofInt n = v) (k : dtW y cc nL ret d r F (pc + 1) L (.int v :: S) μ) : dtW y cc nL ret d r F pc L S μ := by
  refine ⟨k.1, ?_⟩
  intro p l e R s m args below meth c Q D E base N0 Z0 K H locs ls hm hs h1 h2 hL
  exact lv_iconst K.1 K.2.1 hd hv (k.2 p l e R s m args below meth c Q D E base N0 Z0 K H locs ls hm hs h1 h2 hL)
theorem dr_bipush {y : MethodName} {cc : ByteArray} {nL : Nat} {ret : Option FieldType} {d : Nat} {r : Option Value} {F : dtM} {pc : Nat} {L : List (Option Value)} {S : List Value} {μ : dtM} {n : Int} (v : Int32) (hd : decode cc pc = .ok (.bipush n, 2)) (hv : (Int8.ofInt n).toInt32 = v) (k : dtW y cc nL ret d r F (pc + 2) L (.int v :: S) μ) : dtW y cc nL ret d r F pc L S μ := by
  refine ⟨k.1, ?_⟩
  intro p l e R s m args below meth c Q D E base N0 Z0 K H locs ls hm hs h1 h2 hL
  exact lv_bipush K.1 K.2.1 hd hv (k.2 p l e R s m args below meth c Q D E base N0 Z0 K H locs ls hm hs h1 h2 hL)
theorem dr_sipush {y : MethodName} {cc : ByteArray} {nL : Nat} {ret : Option FieldType} {d : Nat} {r : Option Value} {F : dtM} {pc : Nat} {L : List (Option Value)} {S : List Value} {μ : dtM} {n : Int} (v : Int32) (hd : decode cc pc = .ok (.sipush n, 3)) (hv : (Int16.ofInt n).toInt32 = v) (k : dtW y cc nL ret d r F (pc + 3) L (.int v :: S) μ) : dtW y cc nL ret d r F pc L S μ := by
  refine ⟨k.1, ?_⟩
  intro p l e R s m args below meth c Q D E base N0 Z0 K H locs ls hm hs h1 h2 hL
  exact lv_sipush K.1 K.2.1 hd hv (k.2 p l e R s m args below meth c Q D E base N0 Z0 K H locs ls hm hs h1 h2 hL)
theorem dr_lconst {y : MethodName} {cc : ByteArray} {nL : Nat} {ret : Option FieldType} {d : Nat} {r : Option Value} {F : dtM} {pc : Nat} {L : List (Option Value)} {S : List Value} {μ : dtM} {n : Fin 2} (v : Int64) (hd : decode cc pc = .ok (.lconst n, 1)) (hv : Int64.ofNat (n : Nat) = v) (k : dtW y cc nL ret d r F (pc + 1) L (.long v :: S) μ) : dtW y cc nL ret d r F pc L S μ := by
  refine ⟨k.1, ?_⟩
  intro p l e R s m args below meth c Q D E base N0 Z0 K H locs ls hm hs h1 h2 hL
  exact lv_lconst K.1 K.2.1 hd hv (k.2 p l e R s m args below meth c Q D E base N0 Z0 K H locs ls hm hs h1 h2 hL)
theorem dr_ldc {y : MethodName} {cc : ByteArray} {nL : Nat} {ret : Option FieldType} {d : Nat} {r : Option Value} {F : dtM} {pc : Nat} {L : List (Option Value)} {S : List Value} {μ : dtM} {idx : Nat} (v : Int32) (hd : decode cc pc = .ok (.ldc idx, 2)) (hw : Cond.constant y.cls idx v ∈ dtWT) (k : dtW y cc nL ret d r F (pc + 2) L (.int v :: S) μ) : dtW y cc nL ret d r F pc L S μ := by
  refine ⟨k.1, ?_⟩
  intro p l e R s m args below meth c Q D E base N0 Z0 K H locs ls hm hs h1 h2 hL
  exact lv_ldc K.1 K.2.1 K.2.2.2.1 (K.2.2.2.2.1 _ hw) hd (k.2 p l e R s m args below meth c Q D E base N0 Z0 K H locs ls hm hs h1 h2 hL)
theorem dr_ldcw {y : MethodName} {cc : ByteArray} {nL : Nat} {ret : Option FieldType} {d : Nat} {r : Option Value} {F : dtM} {pc : Nat} {L : List (Option Value)} {S : List Value} {μ : dtM} {idx : Nat} (v : Int32) (hd : decode cc pc = .ok (.ldc_w idx, 3)) (hw : Cond.constant y.cls idx v ∈ dtWT) (k : dtW y cc nL ret d r F (pc + 3) L (.int v :: S) μ) : dtW y cc nL ret d r F pc L S μ := by
  refine ⟨k.1, ?_⟩
  intro p l e R s m args below meth c Q D E base N0 Z0 K H locs ls hm hs h1 h2 hL
  exact lv_ldcw K.1 K.2.1 K.2.2.2.1 (K.2.2.2.2.1 _ hw) hd (k.2 p l e R s m args below meth c Q D E base N0 Z0 K H locs ls hm hs h1 h2 hL)
theorem dr_ldc2 {y : MethodName} {cc : ByteArray} {nL : Nat} {ret : Option FieldType} {d : Nat} {r : Option Value} {F : dtM} {pc : Nat} {L : List (Option Value)} {S : List Value} {μ : dtM} {idx : Nat} (v : Int64) (hd : decode cc pc = .ok (.ldc2_w idx, 3)) (hw : Cond.constantLong y.cls idx v ∈ dtWT) (k : dtW y cc nL ret d r F (pc + 3) L (.long v :: S) μ) : dtW y cc nL ret d r F pc L S μ := by
  refine ⟨k.1, ?_⟩
  intro p l e R s m args below meth c Q D E base N0 Z0 K H locs ls hm hs h1 h2 hL
  exact lv_ldc2 K.1 K.2.1 K.2.2.2.1 (K.2.2.2.2.1 _ hw) hd (k.2 p l e R s m args below meth c Q D E base N0 Z0 K H locs ls hm hs h1 h2 hL)
theorem dr_iload_n {y : MethodName} {cc : ByteArray} {nL : Nat} {ret : Option FieldType} {d : Nat} {r : Option Value} {F : dtM} {pc : Nat} {L : List (Option Value)} {S : List Value} {μ : dtM} {n : Fin 4} (x : Int32) (hd : decode cc pc = .ok (.iload_n n, 1)) (hl : dtG L n = some (.int x)) (k : dtW y cc nL ret d r F (pc + 1) L (.int x :: S) μ) : dtW y cc nL ret d r F pc L S μ := by
  refine ⟨k.1, ?_⟩
  intro p l e R s m args below meth c Q D E base N0 Z0 K H locs ls hm hs h1 h2 hL
  exact lv_iload_n K.1 K.2.1 hd rfl (dtHas_at hL hl) (k.2 p l e R s m args below meth c Q D E base N0 Z0 K H locs ls hm hs h1 h2 hL)
theorem dr_iload {y : MethodName} {cc : ByteArray} {nL : Nat} {ret : Option FieldType} {d : Nat} {r : Option Value} {F : dtM} {pc : Nat} {L : List (Option Value)} {S : List Value} {μ : dtM} {i : Nat} (x : Int32) (hd : decode cc pc = .ok (.iload i, 2)) (hl : dtG L i = some (.int x)) (k : dtW y cc nL ret d r F (pc + 2) L (.int x :: S) μ) : dtW y cc nL ret d r F pc L S μ := by
  refine ⟨k.1, ?_⟩
  intro p l e R s m args below meth c Q D E base N0 Z0 K H locs ls hm hs h1 h2 hL
  exact lv_iload K.1 K.2.1 hd (dtHas_at hL hl) (k.2 p l e R s m args below meth c Q D E base N0 Z0 K H locs ls hm hs h1 h2 hL)
theorem dr_lload_n {y : MethodName} {cc : ByteArray} {nL : Nat} {ret : Option FieldType} {d : Nat} {r : Option Value} {F : dtM} {pc : Nat} {L : List (Option Value)} {S : List Value} {μ : dtM} {n : Fin 4} (x : Int64) (hd : decode cc pc = .ok (.lload_n n, 1)) (hl : dtG L n = some (.long x)) (k : dtW y cc nL ret d r F (pc + 1) L (.long x :: S) μ) : dtW y cc nL ret d r F pc L S μ := by
  refine ⟨k.1, ?_⟩
  intro p l e R s m args below meth c Q D E base N0 Z0 K H locs ls hm hs h1 h2 hL
  exact lv_lload_n K.1 K.2.1 hd rfl (dtHas_at hL hl) (k.2 p l e R s m args below meth c Q D E base N0 Z0 K H locs ls hm hs h1 h2 hL)
theorem dr_lload {y : MethodName} {cc : ByteArray} {nL : Nat} {ret : Option FieldType} {d : Nat} {r : Option Value} {F : dtM} {pc : Nat} {L : List (Option Value)} {S : List Value} {μ : dtM} {i : Nat} (x : Int64) (hd : decode cc pc = .ok (.lload i, 2)) (hl : dtG L i = some (.long x)) (k : dtW y cc nL ret d r F (pc + 2) L (.long x :: S) μ) : dtW y cc nL ret d r F pc L S μ := by
  refine ⟨k.1, ?_⟩
  intro p l e R s m args below meth c Q D E base N0 Z0 K H locs ls hm hs h1 h2 hL
  exact lv_lload K.1 K.2.1 hd (dtHas_at hL hl) (k.2 p l e R s m args below meth c Q D E base N0 Z0 K H locs ls hm hs h1 h2 hL)
theorem dr_aload_n {y : MethodName} {cc : ByteArray} {nL : Nat} {ret : Option FieldType} {d : Nat} {r : Option Value} {F : dtM} {pc : Nat} {L : List (Option Value)} {S : List Value} {μ : dtM} {n : Fin 4} (x : Nat) (hd : decode cc pc = .ok (.aload_n n, 1)) (hl : dtG L n = some (.ref x)) (k : dtW y cc nL ret d r F (pc + 1) L (.ref x :: S) μ) : dtW y cc nL ret d r F pc L S μ := by
  refine ⟨k.1, ?_⟩
  intro p l e R s m args below meth c Q D E base N0 Z0 K H locs ls hm hs h1 h2 hL
  have hat := dtHas_at hL hl
  have kk := k.2 p l e R s m args below meth c Q D E base N0 Z0 K H locs ls hm hs h1 h2 hL
  rw [List.map_cons] at kk
  rcases dtV_rf (k := x) (base := base) K.nul with q | ⟨t, q⟩
  · rw [q] at hat kk
    exact lv_aload_nN K.1 K.2.1 hd rfl hat kk
  · rw [q] at hat kk
    exact lv_aload_n K.1 K.2.1 hd rfl hat kk
theorem dr_aload {y : MethodName} {cc : ByteArray} {nL : Nat} {ret : Option FieldType} {d : Nat} {r : Option Value} {F : dtM} {pc : Nat} {L : List (Option Value)} {S : List Value} {μ : dtM} {i : Nat} (x : Nat) (hd : decode cc pc = .ok (.aload i, 2)) (hl : dtG L i = some (.ref x)) (k : dtW y cc nL ret d r F (pc + 2) L (.ref x :: S) μ) : dtW y cc nL ret d r F pc L S μ := by
  refine ⟨k.1, ?_⟩
  intro p l e R s m args below meth c Q D E base N0 Z0 K H locs ls hm hs h1 h2 hL
  have hat := dtHas_at hL hl
  have kk := k.2 p l e R s m args below meth c Q D E base N0 Z0 K H locs ls hm hs h1 h2 hL
  rw [List.map_cons] at kk
  rcases dtV_rf (k := x) (base := base) K.nul with q | ⟨t, q⟩
  · rw [q] at hat kk
    exact lv_aloadN K.1 K.2.1 hd hat kk
  · rw [q] at hat kk
    exact lv_aload K.1 K.2.1 hd hat kk
theorem dr_istore_n {y : MethodName} {cc : ByteArray} {nL : Nat} {ret : Option FieldType} {d : Nat} {r : Option Value} {F : dtM} {pc : Nat} {L : List (Option Value)} {S : List Value} {μ : dtM} {n : Fin 4} (i : Nat) {x : Int32} (L' : List (Option Value)) (hd : decode cc pc = .ok (.istore_n n, 1)) (hi : (n : Nat) = i) (hn : Nat.blt i nL = true) (hok : dtOk L i = true) (hL' : (dtPut L i (some (.int x))) = L') (k : dtW y cc nL ret d r F (pc + 1) L' S μ) : dtW y cc nL ret d r F pc L (.int x :: S) μ := by
  refine ⟨k.1, ?_⟩
  intro p l e R s m args below meth c Q D E base N0 Z0 K H locs ls hm hs h1 h2 hL
  subst hL'
  exact lv_istore_n K.1 K.2.1 hd hi hL (by simpa using hn) rfl (fun ls' hq => k.2 p l e R s m args below meth c Q D E base N0 Z0 K H locs ls' hm hs h1 h2 (dtHas_put (v := .int x) K.nul hok hq))
theorem dr_istore {y : MethodName} {cc : ByteArray} {nL : Nat} {ret : Option FieldType} {d : Nat} {r : Option Value} {F : dtM} {pc : Nat} {L : List (Option Value)} {S : List Value} {μ : dtM} {i : Nat} {x : Int32} (L' : List (Option Value)) (hd : decode cc pc = .ok (.istore i, 2)) (hn : Nat.blt i nL = true) (hok : dtOk L i = true) (hL' : (dtPut L i (some (.int x))) = L') (k : dtW y cc nL ret d r F (pc + 2) L' S μ) : dtW y cc nL ret d r F pc L (.int x :: S) μ := by
  refine ⟨k.1, ?_⟩
  intro p l e R s m args below meth c Q D E base N0 Z0 K H locs ls hm hs h1 h2 hL
  subst hL'
  exact lv_istore K.1 K.2.1 hd hL (by simpa using hn) rfl (fun ls' hq => k.2 p l e R s m args below meth c Q D E base N0 Z0 K H locs ls' hm hs h1 h2 (dtHas_put (v := .int x) K.nul hok hq))
theorem dr_lstore_n {y : MethodName} {cc : ByteArray} {nL : Nat} {ret : Option FieldType} {d : Nat} {r : Option Value} {F : dtM} {pc : Nat} {L : List (Option Value)} {S : List Value} {μ : dtM} {n : Fin 4} (i : Nat) {x : Int64} (L' : List (Option Value)) (hd : decode cc pc = .ok (.lstore_n n, 1)) (hi : (n : Nat) = i) (hn : Nat.blt (i + 1) nL = true) (hok : dtOk L i = true) (hL' : (dtPut (dtPut L i (some (.long x))) (i + 1) none) = L') (k : dtW y cc nL ret d r F (pc + 1) L' S μ) : dtW y cc nL ret d r F pc L (.long x :: S) μ := by
  refine ⟨k.1, ?_⟩
  intro p l e R s m args below meth c Q D E base N0 Z0 K H locs ls hm hs h1 h2 hL
  subst hL'
  exact lv_lstore_n K.1 K.2.1 hd hi hL (by simpa using hn) rfl (fun ls' hq => k.2 p l e R s m args below meth c Q D E base N0 Z0 K H locs ls' hm hs h1 h2 (dtHas_put2 (v := .long x) K.nul hok hq))
theorem dr_lstore {y : MethodName} {cc : ByteArray} {nL : Nat} {ret : Option FieldType} {d : Nat} {r : Option Value} {F : dtM} {pc : Nat} {L : List (Option Value)} {S : List Value} {μ : dtM} {i : Nat} {x : Int64} (L' : List (Option Value)) (hd : decode cc pc = .ok (.lstore i, 2)) (hn : Nat.blt (i + 1) nL = true) (hok : dtOk L i = true) (hL' : (dtPut (dtPut L i (some (.long x))) (i + 1) none) = L') (k : dtW y cc nL ret d r F (pc + 2) L' S μ) : dtW y cc nL ret d r F pc L (.long x :: S) μ := by
  refine ⟨k.1, ?_⟩
  intro p l e R s m args below meth c Q D E base N0 Z0 K H locs ls hm hs h1 h2 hL
  subst hL'
  exact lv_lstore K.1 K.2.1 hd hL (by simpa using hn) rfl (fun ls' hq => k.2 p l e R s m args below meth c Q D E base N0 Z0 K H locs ls' hm hs h1 h2 (dtHas_put2 (v := .long x) K.nul hok hq))
theorem dr_astore_n {y : MethodName} {cc : ByteArray} {nL : Nat} {ret : Option FieldType} {d : Nat} {r : Option Value} {F : dtM} {pc : Nat} {L : List (Option Value)} {S : List Value} {μ : dtM} {n : Fin 4} (i : Nat) {x : Nat} (L' : List (Option Value)) (hd : decode cc pc = .ok (.astore_n n, 1)) (hi : (n : Nat) = i) (hn : Nat.blt i nL = true) (hok : dtOk L i = true) (hL' : (dtPut L i (some (.ref x))) = L') (k : dtW y cc nL ret d r F (pc + 1) L' S μ) : dtW y cc nL ret d r F pc L (.ref x :: S) μ := by
  refine ⟨k.1, ?_⟩
  intro p l e R s m args below meth c Q D E base N0 Z0 K H locs ls hm hs h1 h2 hL
  subst hL'
  have hpt := fun ls' => dtHas_put (E := E) (base := base) (n := nL) (i := i) (ls := ls') (L := L) (v := .ref x) K.nul hok
  rw [List.map_cons]
  rcases dtV_rf (k := x) (base := base) K.nul with q | ⟨t, q⟩
  · rw [q] at hpt ⊢
    exact lv_astore_nN K.1 K.2.1 hd hi hL (by simpa using hn) rfl (fun ls' hq => k.2 p l e R s m args below meth c Q D E base N0 Z0 K H locs ls' hm hs h1 h2 (hpt ls' hq))
  · rw [q] at hpt ⊢
    exact lv_astore_n K.1 K.2.1 hd hi hL (by simpa using hn) rfl (fun ls' hq => k.2 p l e R s m args below meth c Q D E base N0 Z0 K H locs ls' hm hs h1 h2 (hpt ls' hq))
theorem dr_astore {y : MethodName} {cc : ByteArray} {nL : Nat} {ret : Option FieldType} {d : Nat} {r : Option Value} {F : dtM} {pc : Nat} {L : List (Option Value)} {S : List Value} {μ : dtM} {i : Nat} {x : Nat} (L' : List (Option Value)) (hd : decode cc pc = .ok (.astore i, 2)) (hn : Nat.blt i nL = true) (hok : dtOk L i = true) (hL' : (dtPut L i (some (.ref x))) = L') (k : dtW y cc nL ret d r F (pc + 2) L' S μ) : dtW y cc nL ret d r F pc L (.ref x :: S) μ := by
  refine ⟨k.1, ?_⟩
  intro p l e R s m args below meth c Q D E base N0 Z0 K H locs ls hm hs h1 h2 hL
  subst hL'
  have hpt := fun ls' => dtHas_put (E := E) (base := base) (n := nL) (i := i) (ls := ls') (L := L) (v := .ref x) K.nul hok
  rw [List.map_cons]
  rcases dtV_rf (k := x) (base := base) K.nul with q | ⟨t, q⟩
  · rw [q] at hpt ⊢
    exact lv_astoreN K.1 K.2.1 hd hL (by simpa using hn) rfl (fun ls' hq => k.2 p l e R s m args below meth c Q D E base N0 Z0 K H locs ls' hm hs h1 h2 (hpt ls' hq))
  · rw [q] at hpt ⊢
    exact lv_astore K.1 K.2.1 hd hL (by simpa using hn) rfl (fun ls' hq => k.2 p l e R s m args below meth c Q D E base N0 Z0 K H locs ls' hm hs h1 h2 (hpt ls' hq))
theorem dr_iinc {y : MethodName} {cc : ByteArray} {nL : Nat} {ret : Option FieldType} {d : Nat} {r : Option Value} {F : dtM} {pc : Nat} {L : List (Option Value)} {S : List Value} {μ : dtM} {i : Nat} {n : Int} (x v : Int32) (L' : List (Option Value)) (hd : decode cc pc = .ok (.iinc i n, 3)) (hl : dtG L i = some (.int x)) (hv : x + Int32.ofInt n = v) (hn : Nat.blt i nL = true) (hok : dtOk L i = true) (hL' : (dtPut L i (some (.int v))) = L') (k : dtW y cc nL ret d r F (pc + 3) L' S μ) : dtW y cc nL ret d r F pc L S μ := by
  refine ⟨k.1, ?_⟩
  intro p l e R s m args below meth c Q D E base N0 Z0 K H locs ls hm hs h1 h2 hL
  subst hL'
  obtain ⟨k0, hk0⟩ := List.getElem?_of_mem ((dtP_mem (E := E) (base := base) L 0 i _).mpr ⟨i, .int x, hl, by omega, rfl⟩)
  exact lv_iinc K.1 K.2.1 hd hL hk0 hv (by simpa using hn) rfl (fun ls' hq => k.2 p l e R s m args below meth c Q D E base N0 Z0 K H locs ls' hm hs h1 h2 (dtHas_put (v := .int v) K.nul hok hq))
theorem dr_iadd {y : MethodName} {cc : ByteArray} {nL : Nat} {ret : Option FieldType} {d : Nat} {r : Option Value} {F : dtM} {pc : Nat} {L : List (Option Value)} {S : List Value} {μ : dtM} {x z : Int32} (hd : decode cc pc = .ok (.iadd, 1)) (k : dtW y cc nL ret d r F (pc + 1) L (.int (x + z) :: S) μ) : dtW y cc nL ret d r F pc L (.int z :: .int x :: S) μ := by
  refine ⟨k.1, ?_⟩
  intro p l e R s m args below meth c Q D E base N0 Z0 K H locs ls hm hs h1 h2 hL
  exact lv_iadd K.1 K.2.1 hd (k.2 p l e R s m args below meth c Q D E base N0 Z0 K H locs ls hm hs h1 h2 hL)
theorem dr_isub {y : MethodName} {cc : ByteArray} {nL : Nat} {ret : Option FieldType} {d : Nat} {r : Option Value} {F : dtM} {pc : Nat} {L : List (Option Value)} {S : List Value} {μ : dtM} {x z : Int32} (hd : decode cc pc = .ok (.isub, 1)) (k : dtW y cc nL ret d r F (pc + 1) L (.int (x - z) :: S) μ) : dtW y cc nL ret d r F pc L (.int z :: .int x :: S) μ := by
  refine ⟨k.1, ?_⟩
  intro p l e R s m args below meth c Q D E base N0 Z0 K H locs ls hm hs h1 h2 hL
  exact lv_isub K.1 K.2.1 hd (k.2 p l e R s m args below meth c Q D E base N0 Z0 K H locs ls hm hs h1 h2 hL)
theorem dr_imul {y : MethodName} {cc : ByteArray} {nL : Nat} {ret : Option FieldType} {d : Nat} {r : Option Value} {F : dtM} {pc : Nat} {L : List (Option Value)} {S : List Value} {μ : dtM} {x z : Int32} (hd : decode cc pc = .ok (.imul, 1)) (k : dtW y cc nL ret d r F (pc + 1) L (.int (x * z) :: S) μ) : dtW y cc nL ret d r F pc L (.int z :: .int x :: S) μ := by
  refine ⟨k.1, ?_⟩
  intro p l e R s m args below meth c Q D E base N0 Z0 K H locs ls hm hs h1 h2 hL
  exact lv_imul K.1 K.2.1 hd (k.2 p l e R s m args below meth c Q D E base N0 Z0 K H locs ls hm hs h1 h2 hL)
theorem dr_iand {y : MethodName} {cc : ByteArray} {nL : Nat} {ret : Option FieldType} {d : Nat} {r : Option Value} {F : dtM} {pc : Nat} {L : List (Option Value)} {S : List Value} {μ : dtM} {x z : Int32} (hd : decode cc pc = .ok (.iand, 1)) (k : dtW y cc nL ret d r F (pc + 1) L (.int (x &&& z) :: S) μ) : dtW y cc nL ret d r F pc L (.int z :: .int x :: S) μ := by
  refine ⟨k.1, ?_⟩
  intro p l e R s m args below meth c Q D E base N0 Z0 K H locs ls hm hs h1 h2 hL
  exact lv_iand K.1 K.2.1 hd (k.2 p l e R s m args below meth c Q D E base N0 Z0 K H locs ls hm hs h1 h2 hL)
theorem dr_ior {y : MethodName} {cc : ByteArray} {nL : Nat} {ret : Option FieldType} {d : Nat} {r : Option Value} {F : dtM} {pc : Nat} {L : List (Option Value)} {S : List Value} {μ : dtM} {x z : Int32} (hd : decode cc pc = .ok (.ior, 1)) (k : dtW y cc nL ret d r F (pc + 1) L (.int (x ||| z) :: S) μ) : dtW y cc nL ret d r F pc L (.int z :: .int x :: S) μ := by
  refine ⟨k.1, ?_⟩
  intro p l e R s m args below meth c Q D E base N0 Z0 K H locs ls hm hs h1 h2 hL
  exact lv_ior K.1 K.2.1 hd (k.2 p l e R s m args below meth c Q D E base N0 Z0 K H locs ls hm hs h1 h2 hL)
theorem dr_ixor {y : MethodName} {cc : ByteArray} {nL : Nat} {ret : Option FieldType} {d : Nat} {r : Option Value} {F : dtM} {pc : Nat} {L : List (Option Value)} {S : List Value} {μ : dtM} {x z : Int32} (hd : decode cc pc = .ok (.ixor, 1)) (k : dtW y cc nL ret d r F (pc + 1) L (.int (x ^^^ z) :: S) μ) : dtW y cc nL ret d r F pc L (.int z :: .int x :: S) μ := by
  refine ⟨k.1, ?_⟩
  intro p l e R s m args below meth c Q D E base N0 Z0 K H locs ls hm hs h1 h2 hL
  exact lv_ixor K.1 K.2.1 hd (k.2 p l e R s m args below meth c Q D E base N0 Z0 K H locs ls hm hs h1 h2 hL)
theorem dr_ishl {y : MethodName} {cc : ByteArray} {nL : Nat} {ret : Option FieldType} {d : Nat} {r : Option Value} {F : dtM} {pc : Nat} {L : List (Option Value)} {S : List Value} {μ : dtM} {x z : Int32} (hd : decode cc pc = .ok (.ishl, 1)) (k : dtW y cc nL ret d r F (pc + 1) L (.int (x <<< (z &&& 31)) :: S) μ) : dtW y cc nL ret d r F pc L (.int z :: .int x :: S) μ := by
  refine ⟨k.1, ?_⟩
  intro p l e R s m args below meth c Q D E base N0 Z0 K H locs ls hm hs h1 h2 hL
  exact lv_ishl K.1 K.2.1 hd (k.2 p l e R s m args below meth c Q D E base N0 Z0 K H locs ls hm hs h1 h2 hL)
theorem dr_ishr {y : MethodName} {cc : ByteArray} {nL : Nat} {ret : Option FieldType} {d : Nat} {r : Option Value} {F : dtM} {pc : Nat} {L : List (Option Value)} {S : List Value} {μ : dtM} {x z : Int32} (hd : decode cc pc = .ok (.ishr, 1)) (k : dtW y cc nL ret d r F (pc + 1) L (.int (x >>> (z &&& 31)) :: S) μ) : dtW y cc nL ret d r F pc L (.int z :: .int x :: S) μ := by
  refine ⟨k.1, ?_⟩
  intro p l e R s m args below meth c Q D E base N0 Z0 K H locs ls hm hs h1 h2 hL
  exact lv_ishr K.1 K.2.1 hd (k.2 p l e R s m args below meth c Q D E base N0 Z0 K H locs ls hm hs h1 h2 hL)
theorem dr_iushr {y : MethodName} {cc : ByteArray} {nL : Nat} {ret : Option FieldType} {d : Nat} {r : Option Value} {F : dtM} {pc : Nat} {L : List (Option Value)} {S : List Value} {μ : dtM} {x z : Int32} (hd : decode cc pc = .ok (.iushr, 1)) (k : dtW y cc nL ret d r F (pc + 1) L (.int (x.toUInt32 >>> (z.toUInt32 &&& Int32.toUInt32 31)).toInt32 :: S) μ) : dtW y cc nL ret d r F pc L (.int z :: .int x :: S) μ := by
  refine ⟨k.1, ?_⟩
  intro p l e R s m args below meth c Q D E base N0 Z0 K H locs ls hm hs h1 h2 hL
  exact lv_iushr K.1 K.2.1 hd rfl (k.2 p l e R s m args below meth c Q D E base N0 Z0 K H locs ls hm hs h1 h2 hL)
theorem dr_ladd {y : MethodName} {cc : ByteArray} {nL : Nat} {ret : Option FieldType} {d : Nat} {r : Option Value} {F : dtM} {pc : Nat} {L : List (Option Value)} {S : List Value} {μ : dtM} {x z : Int64} (hd : decode cc pc = .ok (.ladd, 1)) (k : dtW y cc nL ret d r F (pc + 1) L (.long (x + z) :: S) μ) : dtW y cc nL ret d r F pc L (.long z :: .long x :: S) μ := by
  refine ⟨k.1, ?_⟩
  intro p l e R s m args below meth c Q D E base N0 Z0 K H locs ls hm hs h1 h2 hL
  exact lv_ladd K.1 K.2.1 hd (k.2 p l e R s m args below meth c Q D E base N0 Z0 K H locs ls hm hs h1 h2 hL)
theorem dr_lsub {y : MethodName} {cc : ByteArray} {nL : Nat} {ret : Option FieldType} {d : Nat} {r : Option Value} {F : dtM} {pc : Nat} {L : List (Option Value)} {S : List Value} {μ : dtM} {x z : Int64} (hd : decode cc pc = .ok (.lsub, 1)) (k : dtW y cc nL ret d r F (pc + 1) L (.long (x - z) :: S) μ) : dtW y cc nL ret d r F pc L (.long z :: .long x :: S) μ := by
  refine ⟨k.1, ?_⟩
  intro p l e R s m args below meth c Q D E base N0 Z0 K H locs ls hm hs h1 h2 hL
  exact lv_lsub K.1 K.2.1 hd (k.2 p l e R s m args below meth c Q D E base N0 Z0 K H locs ls hm hs h1 h2 hL)
theorem dr_lmul {y : MethodName} {cc : ByteArray} {nL : Nat} {ret : Option FieldType} {d : Nat} {r : Option Value} {F : dtM} {pc : Nat} {L : List (Option Value)} {S : List Value} {μ : dtM} {x z : Int64} (hd : decode cc pc = .ok (.lmul, 1)) (k : dtW y cc nL ret d r F (pc + 1) L (.long (x * z) :: S) μ) : dtW y cc nL ret d r F pc L (.long z :: .long x :: S) μ := by
  refine ⟨k.1, ?_⟩
  intro p l e R s m args below meth c Q D E base N0 Z0 K H locs ls hm hs h1 h2 hL
  exact lv_lmul K.1 K.2.1 hd (k.2 p l e R s m args below meth c Q D E base N0 Z0 K H locs ls hm hs h1 h2 hL)
theorem dr_land {y : MethodName} {cc : ByteArray} {nL : Nat} {ret : Option FieldType} {d : Nat} {r : Option Value} {F : dtM} {pc : Nat} {L : List (Option Value)} {S : List Value} {μ : dtM} {x z : Int64} (hd : decode cc pc = .ok (.land, 1)) (k : dtW y cc nL ret d r F (pc + 1) L (.long (x &&& z) :: S) μ) : dtW y cc nL ret d r F pc L (.long z :: .long x :: S) μ := by
  refine ⟨k.1, ?_⟩
  intro p l e R s m args below meth c Q D E base N0 Z0 K H locs ls hm hs h1 h2 hL
  exact lv_land K.1 K.2.1 hd (k.2 p l e R s m args below meth c Q D E base N0 Z0 K H locs ls hm hs h1 h2 hL)
theorem dr_lor {y : MethodName} {cc : ByteArray} {nL : Nat} {ret : Option FieldType} {d : Nat} {r : Option Value} {F : dtM} {pc : Nat} {L : List (Option Value)} {S : List Value} {μ : dtM} {x z : Int64} (hd : decode cc pc = .ok (.lor, 1)) (k : dtW y cc nL ret d r F (pc + 1) L (.long (x ||| z) :: S) μ) : dtW y cc nL ret d r F pc L (.long z :: .long x :: S) μ := by
  refine ⟨k.1, ?_⟩
  intro p l e R s m args below meth c Q D E base N0 Z0 K H locs ls hm hs h1 h2 hL
  exact lv_lor K.1 K.2.1 hd (k.2 p l e R s m args below meth c Q D E base N0 Z0 K H locs ls hm hs h1 h2 hL)
theorem dr_lshl {y : MethodName} {cc : ByteArray} {nL : Nat} {ret : Option FieldType} {d : Nat} {r : Option Value} {F : dtM} {pc : Nat} {L : List (Option Value)} {S : List Value} {μ : dtM} {x : Int64} {z : Int32} (hd : decode cc pc = .ok (.lshl, 1)) (k : dtW y cc nL ret d r F (pc + 1) L (.long (x <<< (z.toInt64 &&& 63)) :: S) μ) : dtW y cc nL ret d r F pc L (.int z :: .long x :: S) μ := by
  refine ⟨k.1, ?_⟩
  intro p l e R s m args below meth c Q D E base N0 Z0 K H locs ls hm hs h1 h2 hL
  exact lv_lshl K.1 K.2.1 hd rfl (k.2 p l e R s m args below meth c Q D E base N0 Z0 K H locs ls hm hs h1 h2 hL)
theorem dr_lcmp {y : MethodName} {cc : ByteArray} {nL : Nat} {ret : Option FieldType} {d : Nat} {r : Option Value} {F : dtM} {pc : Nat} {L : List (Option Value)} {S : List Value} {μ : dtM} {x z : Int64} (hd : decode cc pc = .ok (.lcmp, 1)) (k : dtW y cc nL ret d r F (pc + 1) L (.int (lg_cmp x z) :: S) μ) : dtW y cc nL ret d r F pc L (.long z :: .long x :: S) μ := by
  refine ⟨k.1, ?_⟩
  intro p l e R s m args below meth c Q D E base N0 Z0 K H locs ls hm hs h1 h2 hL
  exact W.lcmp K.1 K.2.1 hd (k.2 p l e R s m args below meth c Q D E base N0 Z0 K H locs ls hm hs h1 h2 hL)
theorem dr_ineg {y : MethodName} {cc : ByteArray} {nL : Nat} {ret : Option FieldType} {d : Nat} {r : Option Value} {F : dtM} {pc : Nat} {L : List (Option Value)} {S : List Value} {μ : dtM} {x : Int32} (hd : decode cc pc = .ok (.ineg, 1)) (k : dtW y cc nL ret d r F (pc + 1) L (.int (-x) :: S) μ) : dtW y cc nL ret d r F pc L (.int x :: S) μ := by
  refine ⟨k.1, ?_⟩
  intro p l e R s m args below meth c Q D E base N0 Z0 K H locs ls hm hs h1 h2 hL
  exact lv_ineg K.1 K.2.1 hd (k.2 p l e R s m args below meth c Q D E base N0 Z0 K H locs ls hm hs h1 h2 hL)
theorem dr_i2l {y : MethodName} {cc : ByteArray} {nL : Nat} {ret : Option FieldType} {d : Nat} {r : Option Value} {F : dtM} {pc : Nat} {L : List (Option Value)} {S : List Value} {μ : dtM} {x : Int32} (hd : decode cc pc = .ok (.i2l, 1)) (k : dtW y cc nL ret d r F (pc + 1) L (.long x.toInt64 :: S) μ) : dtW y cc nL ret d r F pc L (.int x :: S) μ := by
  refine ⟨k.1, ?_⟩
  intro p l e R s m args below meth c Q D E base N0 Z0 K H locs ls hm hs h1 h2 hL
  exact lv_i2l K.1 K.2.1 hd rfl (k.2 p l e R s m args below meth c Q D E base N0 Z0 K H locs ls hm hs h1 h2 hL)
theorem dr_l2i {y : MethodName} {cc : ByteArray} {nL : Nat} {ret : Option FieldType} {d : Nat} {r : Option Value} {F : dtM} {pc : Nat} {L : List (Option Value)} {S : List Value} {μ : dtM} {x : Int64} (hd : decode cc pc = .ok (.l2i, 1)) (k : dtW y cc nL ret d r F (pc + 1) L (.int x.toInt32 :: S) μ) : dtW y cc nL ret d r F pc L (.long x :: S) μ := by
  refine ⟨k.1, ?_⟩
  intro p l e R s m args below meth c Q D E base N0 Z0 K H locs ls hm hs h1 h2 hL
  exact lv_l2i K.1 K.2.1 hd rfl (k.2 p l e R s m args below meth c Q D E base N0 Z0 K H locs ls hm hs h1 h2 hL)
theorem dr_i2b {y : MethodName} {cc : ByteArray} {nL : Nat} {ret : Option FieldType} {d : Nat} {r : Option Value} {F : dtM} {pc : Nat} {L : List (Option Value)} {S : List Value} {μ : dtM} {x : Int32} (hd : decode cc pc = .ok (.i2b, 1)) (k : dtW y cc nL ret d r F (pc + 1) L (.int x.toInt8.toInt32 :: S) μ) : dtW y cc nL ret d r F pc L (.int x :: S) μ := by
  refine ⟨k.1, ?_⟩
  intro p l e R s m args below meth c Q D E base N0 Z0 K H locs ls hm hs h1 h2 hL
  exact lv_i2b K.1 K.2.1 hd rfl (k.2 p l e R s m args below meth c Q D E base N0 Z0 K H locs ls hm hs h1 h2 hL)
theorem dr_i2s {y : MethodName} {cc : ByteArray} {nL : Nat} {ret : Option FieldType} {d : Nat} {r : Option Value} {F : dtM} {pc : Nat} {L : List (Option Value)} {S : List Value} {μ : dtM} {x : Int32} (hd : decode cc pc = .ok (.i2s, 1)) (k : dtW y cc nL ret d r F (pc + 1) L (.int x.toInt16.toInt32 :: S) μ) : dtW y cc nL ret d r F pc L (.int x :: S) μ := by
  refine ⟨k.1, ?_⟩
  intro p l e R s m args below meth c Q D E base N0 Z0 K H locs ls hm hs h1 h2 hL
  exact lv_i2s K.1 K.2.1 hd rfl (k.2 p l e R s m args below meth c Q D E base N0 Z0 K H locs ls hm hs h1 h2 hL)
theorem dr_i2c {y : MethodName} {cc : ByteArray} {nL : Nat} {ret : Option FieldType} {d : Nat} {r : Option Value} {F : dtM} {pc : Nat} {L : List (Option Value)} {S : List Value} {μ : dtM} {x : Int32} (hd : decode cc pc = .ok (.i2c, 1)) (k : dtW y cc nL ret d r F (pc + 1) L (.int (x.toUInt32 % 65536).toInt32 :: S) μ) : dtW y cc nL ret d r F pc L (.int x :: S) μ := by
  refine ⟨k.1, ?_⟩
  intro p l e R s m args below meth c Q D E base N0 Z0 K H locs ls hm hs h1 h2 hL
  exact lv_i2c K.1 K.2.1 hd rfl (k.2 p l e R s m args below meth c Q D E base N0 Z0 K H locs ls hm hs h1 h2 hL)
theorem dr_idiv {y : MethodName} {cc : ByteArray} {nL : Nat} {ret : Option FieldType} {d : Nat} {r : Option Value} {F : dtM} {pc : Nat} {L : List (Option Value)} {S : List Value} {μ : dtM} {x z : Int32} (hd : decode cc pc = .ok (.idiv, 1)) (hz : ¬ z = 0) (k : dtW y cc nL ret d r F (pc + 1) L (.int (x / z) :: S) μ) : dtW y cc nL ret d r F pc L (.int z :: .int x :: S) μ := by
  refine ⟨k.1, ?_⟩
  intro p l e R s m args below meth c Q D E base N0 Z0 K H locs ls hm hs h1 h2 hL
  exact lv_idiv K.1 K.2.1 hd hz (k.2 p l e R s m args below meth c Q D E base N0 Z0 K H locs ls hm hs h1 h2 hL)
theorem dr_irem {y : MethodName} {cc : ByteArray} {nL : Nat} {ret : Option FieldType} {d : Nat} {r : Option Value} {F : dtM} {pc : Nat} {L : List (Option Value)} {S : List Value} {μ : dtM} {x z : Int32} (hd : decode cc pc = .ok (.irem, 1)) (hz : ¬ z = 0) (k : dtW y cc nL ret d r F (pc + 1) L (.int (x - x / z * z) :: S) μ) : dtW y cc nL ret d r F pc L (.int z :: .int x :: S) μ := by
  refine ⟨k.1, ?_⟩
  intro p l e R s m args below meth c Q D E base N0 Z0 K H locs ls hm hs h1 h2 hL
  exact lv_irem K.1 K.2.1 hd hz (k.2 p l e R s m args below meth c Q D E base N0 Z0 K H locs ls hm hs h1 h2 hL)
theorem dr_ldiv {y : MethodName} {cc : ByteArray} {nL : Nat} {ret : Option FieldType} {d : Nat} {r : Option Value} {F : dtM} {pc : Nat} {L : List (Option Value)} {S : List Value} {μ : dtM} {x z : Int64} (hd : decode cc pc = .ok (.ldiv, 1)) (hz : ¬ z = 0) (k : dtW y cc nL ret d r F (pc + 1) L (.long (x / z) :: S) μ) : dtW y cc nL ret d r F pc L (.long z :: .long x :: S) μ := by
  refine ⟨k.1, ?_⟩
  intro p l e R s m args below meth c Q D E base N0 Z0 K H locs ls hm hs h1 h2 hL
  exact lv_ldiv K.1 K.2.1 hd hz (k.2 p l e R s m args below meth c Q D E base N0 Z0 K H locs ls hm hs h1 h2 hL)
theorem dr_lrem {y : MethodName} {cc : ByteArray} {nL : Nat} {ret : Option FieldType} {d : Nat} {r : Option Value} {F : dtM} {pc : Nat} {L : List (Option Value)} {S : List Value} {μ : dtM} {x z : Int64} (hd : decode cc pc = .ok (.lrem, 1)) (hz : ¬ z = 0) (k : dtW y cc nL ret d r F (pc + 1) L (.long (x - x / z * z) :: S) μ) : dtW y cc nL ret d r F pc L (.long z :: .long x :: S) μ := by
  refine ⟨k.1, ?_⟩
  intro p l e R s m args below meth c Q D E base N0 Z0 K H locs ls hm hs h1 h2 hL
  exact lv_lrem K.1 K.2.1 hd hz (k.2 p l e R s m args below meth c Q D E base N0 Z0 K H locs ls hm hs h1 h2 hL)
theorem dr_dup {y : MethodName} {cc : ByteArray} {nL : Nat} {ret : Option FieldType} {d : Nat} {r : Option Value} {F : dtM} {pc : Nat} {L : List (Option Value)} {S : List Value} {μ : dtM} {v : Value} (hd : decode cc pc = .ok (.dup, 1)) (hv : v.category = 1) (k : dtW y cc nL ret d r F (pc + 1) L (v :: v :: S) μ) : dtW y cc nL ret d r F pc L (v :: S) μ := by
  refine ⟨k.1, ?_⟩
  intro p l e R s m args below meth c Q D E base N0 Z0 K H locs ls hm hs h1 h2 hL
  exact lv_dup K.1 K.2.1 hd (by rw [dtV_cat K.nul]; exact hv) (k.2 p l e R s m args below meth c Q D E base N0 Z0 K H locs ls hm hs h1 h2 hL)
theorem dr_pop {y : MethodName} {cc : ByteArray} {nL : Nat} {ret : Option FieldType} {d : Nat} {r : Option Value} {F : dtM} {pc : Nat} {L : List (Option Value)} {S : List Value} {μ : dtM} {v : Value} (hd : decode cc pc = .ok (.pop, 1)) (hv : v.category = 1) (k : dtW y cc nL ret d r F (pc + 1) L S μ) : dtW y cc nL ret d r F pc L (v :: S) μ := by
  refine ⟨k.1, ?_⟩
  intro p l e R s m args below meth c Q D E base N0 Z0 K H locs ls hm hs h1 h2 hL
  exact lv_pop K.1 K.2.1 hd (by rw [dtV_cat K.nul]; exact hv) (k.2 p l e R s m args below meth c Q D E base N0 Z0 K H locs ls hm hs h1 h2 hL)
theorem dr_dup_x1 {y : MethodName} {cc : ByteArray} {nL : Nat} {ret : Option FieldType} {d : Nat} {r : Option Value} {F : dtM} {pc : Nat} {L : List (Option Value)} {S : List Value} {μ : dtM} {v w : Value} (hd : decode cc pc = .ok (.dup_x1, 1)) (hv : v.category = 1) (hw : w.category = 1) (k : dtW y cc nL ret d r F (pc + 1) L (v :: w :: v :: S) μ) : dtW y cc nL ret d r F pc L (v :: w :: S) μ := by
  refine ⟨k.1, ?_⟩
  intro p l e R s m args below meth c Q D E base N0 Z0 K H locs ls hm hs h1 h2 hL
  exact lv_dup_x1 K.1 K.2.1 hd (by rw [dtV_cat K.nul]; exact hv) (by rw [dtV_cat K.nul]; exact hw) (k.2 p l e R s m args below meth c Q D E base N0 Z0 K H locs ls hm hs h1 h2 hL)
theorem dr_dup2 {y : MethodName} {cc : ByteArray} {nL : Nat} {ret : Option FieldType} {d : Nat} {r : Option Value} {F : dtM} {pc : Nat} {L : List (Option Value)} {S : List Value} {μ : dtM} {v w : Value} (hd : decode cc pc = .ok (.dup2, 1)) (hv : v.category = 1) (hw : w.category = 1) (k : dtW y cc nL ret d r F (pc + 1) L (v :: w :: v :: w :: S) μ) : dtW y cc nL ret d r F pc L (v :: w :: S) μ := by
  refine ⟨k.1, ?_⟩
  intro p l e R s m args below meth c Q D E base N0 Z0 K H locs ls hm hs h1 h2 hL
  exact lv_dup2_11 K.1 K.2.1 hd (by rw [dtV_cat K.nul]; exact hv) (by rw [dtV_cat K.nul]; exact hw) (k.2 p l e R s m args below meth c Q D E base N0 Z0 K H locs ls hm hs h1 h2 hL)
theorem dr_goto {y : MethodName} {cc : ByteArray} {nL : Nat} {ret : Option FieldType} {d : Nat} {r : Option Value} {F : dtM} {pc : Nat} {L : List (Option Value)} {S : List Value} {μ : dtM} {off : Int} (tgt : Nat) (hd : decode cc pc = .ok (.goto off, 3)) (ht : (pc : Int) + off = (tgt : Int)) (k : dtW y cc nL ret d r F tgt L S μ) : dtW y cc nL ret d r F pc L S μ := by
  refine ⟨k.1, ?_⟩
  intro p l e R s m args below meth c Q D E base N0 Z0 K H locs ls hm hs h1 h2 hL
  exact lv_goto K.1 K.2.1 hd ht (k.2 p l e R s m args below meth c Q D E base N0 Z0 K H locs ls hm hs h1 h2 hL)
theorem dr_if_eq {y : MethodName} {cc : ByteArray} {nL : Nat} {ret : Option FieldType} {d : Nat} {r : Option Value} {F : dtM} {pc : Nat} {L : List (Option Value)} {S : List Value} {μ : dtM} {x : Int32} {off : Int} (tgt : Nat) (hd : decode cc pc = .ok (.ifCond .eq off, 3)) (ht : (pc : Int) + off = (tgt : Int)) (kt : x = 0 → dtW y cc nL ret d r F tgt L S μ) (kf : ¬ x = 0 → dtW y cc nL ret d r F (pc + 3) L S μ) : dtW y cc nL ret d r F pc L (.int x :: S) μ := by
  refine ⟨Decidable.byCases (dec := inferInstance) (fun h : x = 0 => (kt h).1) (fun h => (kf h).1), ?_⟩
  intro p l e R s m args below meth c Q D E base N0 Z0 K H locs ls hm hs h1 h2 hL
  exact lv_if_eq K.1 K.2.1 hd ht (fun h => (kt h).2 p l e R s m args below meth c Q D E base N0 Z0 K H locs ls hm hs h1 h2 hL) (fun h => (kf h).2 p l e R s m args below meth c Q D E base N0 Z0 K H locs ls hm hs h1 h2 hL)
theorem dr_icmp_eq {y : MethodName} {cc : ByteArray} {nL : Nat} {ret : Option FieldType} {d : Nat} {r : Option Value} {F : dtM} {pc : Nat} {L : List (Option Value)} {S : List Value} {μ : dtM} {x z : Int32} {off : Int} (tgt : Nat) (hd : decode cc pc = .ok (.if_icmp .eq off, 3)) (ht : (pc : Int) + off = (tgt : Int)) (kt : x = z → dtW y cc nL ret d r F tgt L S μ) (kf : ¬ x = z → dtW y cc nL ret d r F (pc + 3) L S μ) : dtW y cc nL ret d r F pc L (.int z :: .int x :: S) μ := by
  refine ⟨Decidable.byCases (dec := inferInstance) (fun h : x = z => (kt h).1) (fun h => (kf h).1), ?_⟩
  intro p l e R s m args below meth c Q D E base N0 Z0 K H locs ls hm hs h1 h2 hL
  exact lv_icmp_eq K.1 K.2.1 hd ht (fun h => (kt h).2 p l e R s m args below meth c Q D E base N0 Z0 K H locs ls hm hs h1 h2 hL) (fun h => (kf h).2 p l e R s m args below meth c Q D E base N0 Z0 K H locs ls hm hs h1 h2 hL)
theorem dr_if_ne {y : MethodName} {cc : ByteArray} {nL : Nat} {ret : Option FieldType} {d : Nat} {r : Option Value} {F : dtM} {pc : Nat} {L : List (Option Value)} {S : List Value} {μ : dtM} {x : Int32} {off : Int} (tgt : Nat) (hd : decode cc pc = .ok (.ifCond .ne off, 3)) (ht : (pc : Int) + off = (tgt : Int)) (kt : ¬ x = 0 → dtW y cc nL ret d r F tgt L S μ) (kf : x = 0 → dtW y cc nL ret d r F (pc + 3) L S μ) : dtW y cc nL ret d r F pc L (.int x :: S) μ := by
  refine ⟨Decidable.byCases (dec := inferInstance) (fun h : x = 0 => (kf h).1) (fun h => (kt h).1), ?_⟩
  intro p l e R s m args below meth c Q D E base N0 Z0 K H locs ls hm hs h1 h2 hL
  exact lv_if_ne K.1 K.2.1 hd ht (fun h => (kt h).2 p l e R s m args below meth c Q D E base N0 Z0 K H locs ls hm hs h1 h2 hL) (fun h => (kf h).2 p l e R s m args below meth c Q D E base N0 Z0 K H locs ls hm hs h1 h2 hL)
theorem dr_icmp_ne {y : MethodName} {cc : ByteArray} {nL : Nat} {ret : Option FieldType} {d : Nat} {r : Option Value} {F : dtM} {pc : Nat} {L : List (Option Value)} {S : List Value} {μ : dtM} {x z : Int32} {off : Int} (tgt : Nat) (hd : decode cc pc = .ok (.if_icmp .ne off, 3)) (ht : (pc : Int) + off = (tgt : Int)) (kt : ¬ x = z → dtW y cc nL ret d r F tgt L S μ) (kf : x = z → dtW y cc nL ret d r F (pc + 3) L S μ) : dtW y cc nL ret d r F pc L (.int z :: .int x :: S) μ := by
  refine ⟨Decidable.byCases (dec := inferInstance) (fun h : x = z => (kf h).1) (fun h => (kt h).1), ?_⟩
  intro p l e R s m args below meth c Q D E base N0 Z0 K H locs ls hm hs h1 h2 hL
  exact lv_icmp_ne K.1 K.2.1 hd ht (fun h => (kt h).2 p l e R s m args below meth c Q D E base N0 Z0 K H locs ls hm hs h1 h2 hL) (fun h => (kf h).2 p l e R s m args below meth c Q D E base N0 Z0 K H locs ls hm hs h1 h2 hL)
theorem dr_if_lt {y : MethodName} {cc : ByteArray} {nL : Nat} {ret : Option FieldType} {d : Nat} {r : Option Value} {F : dtM} {pc : Nat} {L : List (Option Value)} {S : List Value} {μ : dtM} {x : Int32} {off : Int} (tgt : Nat) (hd : decode cc pc = .ok (.ifCond .lt off, 3)) (ht : (pc : Int) + off = (tgt : Int)) (kt : x < 0 → dtW y cc nL ret d r F tgt L S μ) (kf : ¬ x < 0 → dtW y cc nL ret d r F (pc + 3) L S μ) : dtW y cc nL ret d r F pc L (.int x :: S) μ := by
  refine ⟨Decidable.byCases (dec := inferInstance) (fun h : x < 0 => (kt h).1) (fun h => (kf h).1), ?_⟩
  intro p l e R s m args below meth c Q D E base N0 Z0 K H locs ls hm hs h1 h2 hL
  exact lv_if_lt K.1 K.2.1 hd ht (fun h => (kt h).2 p l e R s m args below meth c Q D E base N0 Z0 K H locs ls hm hs h1 h2 hL) (fun h => (kf h).2 p l e R s m args below meth c Q D E base N0 Z0 K H locs ls hm hs h1 h2 hL)
theorem dr_icmp_lt {y : MethodName} {cc : ByteArray} {nL : Nat} {ret : Option FieldType} {d : Nat} {r : Option Value} {F : dtM} {pc : Nat} {L : List (Option Value)} {S : List Value} {μ : dtM} {x z : Int32} {off : Int} (tgt : Nat) (hd : decode cc pc = .ok (.if_icmp .lt off, 3)) (ht : (pc : Int) + off = (tgt : Int)) (kt : x < z → dtW y cc nL ret d r F tgt L S μ) (kf : ¬ x < z → dtW y cc nL ret d r F (pc + 3) L S μ) : dtW y cc nL ret d r F pc L (.int z :: .int x :: S) μ := by
  refine ⟨Decidable.byCases (dec := inferInstance) (fun h : x < z => (kt h).1) (fun h => (kf h).1), ?_⟩
  intro p l e R s m args below meth c Q D E base N0 Z0 K H locs ls hm hs h1 h2 hL
  exact lv_icmp_lt K.1 K.2.1 hd ht (fun h => (kt h).2 p l e R s m args below meth c Q D E base N0 Z0 K H locs ls hm hs h1 h2 hL) (fun h => (kf h).2 p l e R s m args below meth c Q D E base N0 Z0 K H locs ls hm hs h1 h2 hL)
theorem dr_if_ge {y : MethodName} {cc : ByteArray} {nL : Nat} {ret : Option FieldType} {d : Nat} {r : Option Value} {F : dtM} {pc : Nat} {L : List (Option Value)} {S : List Value} {μ : dtM} {x : Int32} {off : Int} (tgt : Nat) (hd : decode cc pc = .ok (.ifCond .ge off, 3)) (ht : (pc : Int) + off = (tgt : Int)) (kt : 0 ≤ x → dtW y cc nL ret d r F tgt L S μ) (kf : ¬ 0 ≤ x → dtW y cc nL ret d r F (pc + 3) L S μ) : dtW y cc nL ret d r F pc L (.int x :: S) μ := by
  refine ⟨Decidable.byCases (dec := inferInstance) (fun h : 0 ≤ x => (kt h).1) (fun h => (kf h).1), ?_⟩
  intro p l e R s m args below meth c Q D E base N0 Z0 K H locs ls hm hs h1 h2 hL
  exact lv_if_ge K.1 K.2.1 hd ht (fun h => (kt h).2 p l e R s m args below meth c Q D E base N0 Z0 K H locs ls hm hs h1 h2 hL) (fun h => (kf h).2 p l e R s m args below meth c Q D E base N0 Z0 K H locs ls hm hs h1 h2 hL)
theorem dr_icmp_ge {y : MethodName} {cc : ByteArray} {nL : Nat} {ret : Option FieldType} {d : Nat} {r : Option Value} {F : dtM} {pc : Nat} {L : List (Option Value)} {S : List Value} {μ : dtM} {x z : Int32} {off : Int} (tgt : Nat) (hd : decode cc pc = .ok (.if_icmp .ge off, 3)) (ht : (pc : Int) + off = (tgt : Int)) (kt : z ≤ x → dtW y cc nL ret d r F tgt L S μ) (kf : ¬ z ≤ x → dtW y cc nL ret d r F (pc + 3) L S μ) : dtW y cc nL ret d r F pc L (.int z :: .int x :: S) μ := by
  refine ⟨Decidable.byCases (dec := inferInstance) (fun h : z ≤ x => (kt h).1) (fun h => (kf h).1), ?_⟩
  intro p l e R s m args below meth c Q D E base N0 Z0 K H locs ls hm hs h1 h2 hL
  exact lv_icmp_ge K.1 K.2.1 hd ht (fun h => (kt h).2 p l e R s m args below meth c Q D E base N0 Z0 K H locs ls hm hs h1 h2 hL) (fun h => (kf h).2 p l e R s m args below meth c Q D E base N0 Z0 K H locs ls hm hs h1 h2 hL)
theorem dr_if_gt {y : MethodName} {cc : ByteArray} {nL : Nat} {ret : Option FieldType} {d : Nat} {r : Option Value} {F : dtM} {pc : Nat} {L : List (Option Value)} {S : List Value} {μ : dtM} {x : Int32} {off : Int} (tgt : Nat) (hd : decode cc pc = .ok (.ifCond .gt off, 3)) (ht : (pc : Int) + off = (tgt : Int)) (kt : 0 < x → dtW y cc nL ret d r F tgt L S μ) (kf : ¬ 0 < x → dtW y cc nL ret d r F (pc + 3) L S μ) : dtW y cc nL ret d r F pc L (.int x :: S) μ := by
  refine ⟨Decidable.byCases (dec := inferInstance) (fun h : 0 < x => (kt h).1) (fun h => (kf h).1), ?_⟩
  intro p l e R s m args below meth c Q D E base N0 Z0 K H locs ls hm hs h1 h2 hL
  exact lv_if_gt K.1 K.2.1 hd ht (fun h => (kt h).2 p l e R s m args below meth c Q D E base N0 Z0 K H locs ls hm hs h1 h2 hL) (fun h => (kf h).2 p l e R s m args below meth c Q D E base N0 Z0 K H locs ls hm hs h1 h2 hL)
theorem dr_icmp_gt {y : MethodName} {cc : ByteArray} {nL : Nat} {ret : Option FieldType} {d : Nat} {r : Option Value} {F : dtM} {pc : Nat} {L : List (Option Value)} {S : List Value} {μ : dtM} {x z : Int32} {off : Int} (tgt : Nat) (hd : decode cc pc = .ok (.if_icmp .gt off, 3)) (ht : (pc : Int) + off = (tgt : Int)) (kt : z < x → dtW y cc nL ret d r F tgt L S μ) (kf : ¬ z < x → dtW y cc nL ret d r F (pc + 3) L S μ) : dtW y cc nL ret d r F pc L (.int z :: .int x :: S) μ := by
  refine ⟨Decidable.byCases (dec := inferInstance) (fun h : z < x => (kt h).1) (fun h => (kf h).1), ?_⟩
  intro p l e R s m args below meth c Q D E base N0 Z0 K H locs ls hm hs h1 h2 hL
  exact lv_icmp_gt K.1 K.2.1 hd ht (fun h => (kt h).2 p l e R s m args below meth c Q D E base N0 Z0 K H locs ls hm hs h1 h2 hL) (fun h => (kf h).2 p l e R s m args below meth c Q D E base N0 Z0 K H locs ls hm hs h1 h2 hL)
theorem dr_if_le {y : MethodName} {cc : ByteArray} {nL : Nat} {ret : Option FieldType} {d : Nat} {r : Option Value} {F : dtM} {pc : Nat} {L : List (Option Value)} {S : List Value} {μ : dtM} {x : Int32} {off : Int} (tgt : Nat) (hd : decode cc pc = .ok (.ifCond .le off, 3)) (ht : (pc : Int) + off = (tgt : Int)) (kt : x ≤ 0 → dtW y cc nL ret d r F tgt L S μ) (kf : ¬ x ≤ 0 → dtW y cc nL ret d r F (pc + 3) L S μ) : dtW y cc nL ret d r F pc L (.int x :: S) μ := by
  refine ⟨Decidable.byCases (dec := inferInstance) (fun h : x ≤ 0 => (kt h).1) (fun h => (kf h).1), ?_⟩
  intro p l e R s m args below meth c Q D E base N0 Z0 K H locs ls hm hs h1 h2 hL
  exact lv_if_le K.1 K.2.1 hd ht (fun h => (kt h).2 p l e R s m args below meth c Q D E base N0 Z0 K H locs ls hm hs h1 h2 hL) (fun h => (kf h).2 p l e R s m args below meth c Q D E base N0 Z0 K H locs ls hm hs h1 h2 hL)
theorem dr_icmp_le {y : MethodName} {cc : ByteArray} {nL : Nat} {ret : Option FieldType} {d : Nat} {r : Option Value} {F : dtM} {pc : Nat} {L : List (Option Value)} {S : List Value} {μ : dtM} {x z : Int32} {off : Int} (tgt : Nat) (hd : decode cc pc = .ok (.if_icmp .le off, 3)) (ht : (pc : Int) + off = (tgt : Int)) (kt : x ≤ z → dtW y cc nL ret d r F tgt L S μ) (kf : ¬ x ≤ z → dtW y cc nL ret d r F (pc + 3) L S μ) : dtW y cc nL ret d r F pc L (.int z :: .int x :: S) μ := by
  refine ⟨Decidable.byCases (dec := inferInstance) (fun h : x ≤ z => (kt h).1) (fun h => (kf h).1), ?_⟩
  intro p l e R s m args below meth c Q D E base N0 Z0 K H locs ls hm hs h1 h2 hL
  exact lv_icmp_le K.1 K.2.1 hd ht (fun h => (kt h).2 p l e R s m args below meth c Q D E base N0 Z0 K H locs ls hm hs h1 h2 hL) (fun h => (kf h).2 p l e R s m args below meth c Q D E base N0 Z0 K H locs ls hm hs h1 h2 hL)
theorem dr_lookup {y : MethodName} {cc : ByteArray} {nL : Nat} {ret : Option FieldType} {d : Nat} {r : Option Value} {F : dtM} {pc : Nat} {L : List (Option Value)} {S : List Value} {μ : dtM} {dflt : Int} {ps : Array (Int × Int)} {len : Nat} {x : Int32} {off : Int} (tgt : Nat) (hd : decode cc pc = .ok (.lookupswitch dflt ps, len)) (hp : (ps.toList.zip (ps.toList.drop 1)).all (fun (a, next) => a.1 < next.1) = true) (ho : Op.lookupswitch.offset ps.toList dflt x.toInt = off) (ht : (pc : Int) + off = (tgt : Int)) (k : dtW y cc nL ret d r F tgt L S μ) : dtW y cc nL ret d r F pc L (.int x :: S) μ := by
  refine ⟨k.1, ?_⟩
  intro p l e R s m args below meth c Q D E base N0 Z0 K H locs ls hm hs h1 h2 hL
  exact lv_lookup K.1 K.2.1 hd hp ho ht (k.2 p l e R s m args below meth c Q D E base N0 Z0 K H locs ls hm hs h1 h2 hL)
theorem dr_tableOut {y : MethodName} {cc : ByteArray} {nL : Nat} {ret : Option FieldType} {d : Nat} {r : Option Value} {F : dtM} {pc : Nat} {L : List (Option Value)} {S : List Value} {μ : dtM} {dflt lo hi : Int} {offs : Array Int} {len : Nat} {x : Int32} (tgt : Nat) (hd : decode cc pc = .ok (.tableswitch dflt lo hi offs, len)) (h : x.toInt < lo ∨ hi < x.toInt) (ht : (pc : Int) + dflt = (tgt : Int)) (k : dtW y cc nL ret d r F tgt L S μ) : dtW y cc nL ret d r F pc L (.int x :: S) μ := by
  refine ⟨k.1, ?_⟩
  intro p l e R s m args below meth c Q D E base N0 Z0 K H locs ls hm hs h1 h2 hL
  exact lv_tableOut K.1 K.2.1 hd h ht (k.2 p l e R s m args below meth c Q D E base N0 Z0 K H locs ls hm hs h1 h2 hL)
theorem dr_tableIn {y : MethodName} {cc : ByteArray} {nL : Nat} {ret : Option FieldType} {d : Nat} {r : Option Value} {F : dtM} {pc : Nat} {L : List (Option Value)} {S : List Value} {μ : dtM} {dflt lo hi : Int} {offs : Array Int} {len : Nat} {x : Int32} {off : Int} (tgt : Nat) (hd : decode cc pc = .ok (.tableswitch dflt lo hi offs, len)) (g1 : ¬ x.toInt < lo) (g2 : ¬ hi < x.toInt) (ho : offs[(x.toInt - lo).toNat]? = some off) (ht : (pc : Int) + off = (tgt : Int)) (k : dtW y cc nL ret d r F tgt L S μ) : dtW y cc nL ret d r F pc L (.int x :: S) μ := by
  refine ⟨k.1, ?_⟩
  intro p l e R s m args below meth c Q D E base N0 Z0 K H locs ls hm hs h1 h2 hL
  exact lv_tableIn K.1 K.2.1 hd g1 g2 ho ht (k.2 p l e R s m args below meth c Q D E base N0 Z0 K H locs ls hm hs h1 h2 hL)
theorem dtF_of {base : Nat} {s t : State} {H : Heap} {locs : List Loc} (hs : va_S (dtO base) s.heap H locs) (ht : t.heap = H) : va_F (dtO base) s t := va_S.F hs ht
theorem dr_ireturn {y : MethodName} {cc : ByteArray} {nL : Nat} {ty : FieldType} {d : Nat} {F : dtM} {pc : Nat} {L : List (Option Value)} {v : Int32} (hd : decode cc pc = .ok (.ireturn, 1)) (hn : narrow ty (.int v) = .int v) : dtW y cc nL (some ty) d (some (.int v)) F pc L [.int v] F := by
  refine ⟨⟨Nat.le_refl _, Nat.le_refl _⟩, ?_⟩
  intro p l e R s m args below meth c Q D E base N0 Z0 K H locs ls hm hs h1 h2 hL
  obtain ⟨hx, hb, -, -, -, hlk, hr, -, -, -, -, rfl⟩ := K
  exact W.zret (Qc := dtQc D E base (some (.int v)) F) hx hb hr hn (fun t ht _ => ⟨rfl, by rw [ht]; exact hm, dtF_of hs ht⟩) hs.2.2 hd hlk
theorem dr_lreturn {y : MethodName} {cc : ByteArray} {nL : Nat} {d : Nat} {F : dtM} {pc : Nat} {L : List (Option Value)} {v : Int64} (hd : decode cc pc = .ok (.lreturn, 1)) : dtW y cc nL (some .long) d (some (.long v)) F pc L [.long v] F := by
  refine ⟨⟨Nat.le_refl _, Nat.le_refl _⟩, ?_⟩
  intro p l e R s m args below meth c Q D E base N0 Z0 K H locs ls hm hs h1 h2 hL
  obtain ⟨hx, hb, -, -, -, hlk, hr, -, -, -, -, rfl⟩ := K
  exact W.lret (Qc := dtQc D E base (some (.long v)) F) hx hb hr (fun t ht _ => ⟨rfl, by rw [ht]; exact hm, dtF_of hs ht⟩) hs.2.2 hd hlk
theorem dr_return {y : MethodName} {cc : ByteArray} {nL : Nat} {d : Nat} {F : dtM} {pc : Nat} {L : List (Option Value)} (hd : decode cc pc = .ok (.return_, 1)) : dtW y cc nL none d none F pc L [] F := by
  refine ⟨⟨Nat.le_refl _, Nat.le_refl _⟩, ?_⟩
  intro p l e R s m args below meth c Q D E base N0 Z0 K H locs ls hm hs h1 h2 hL
  obtain ⟨hx, hb, -, -, -, hlk, hr, -, -, -, -, rfl⟩ := K
  exact W.vret (Qc := dtQc D E base none F) hx hb hr (fun t ht _ => ⟨rfl, by rw [ht]; exact hm, dtF_of hs ht⟩) hs.2.2 hd hlk
