/-! PURE 40: how far, on both sides -/
theorem hStep_bits {A : aH} {op X x : Nat} : ∀ (n i acc : Nat), (fo (fun d acc => hS1 A op X d acc) n i acc).testBit x = true ↔ acc.testBit x = true ∨ ∃ d, i ≤ d ∧ d < i + n ∧ op.testBit d = true ∧ (X.testBit (ht A 0 d) = true ∨ X.testBit (ht A 1 d) = true) ∧ (ht A 0 d = x ∨ ht A 1 d = x)
  | 0, i, acc => ⟨fun h => Or.inl h, fun h => by
      rcases h with h | ⟨d, h1, h2, _⟩
      · exact h
      · omega⟩
  | n + 1, i, acc => by
    rw [fo, hStep_bits n (i + 1), hS1_bit]
    simp only [Bool.or_eq_true, Bool.and_eq_true, decide_eq_true_eq]
    constructor
    · rintro ((h | ⟨⟨h1, h2⟩, h3⟩) | ⟨d, h1, h2, h3⟩)
      · exact Or.inl h
      · exact Or.inr ⟨i, by omega, by omega, h1, h2, h3⟩
      · exact Or.inr ⟨d, by omega, by omega, h3⟩
    · rintro (h | ⟨d, h1, h2, h3, h4, h5⟩)
      · exact Or.inl (Or.inl h)
      · by_cases e : d = i
        · subst e; exact Or.inl (Or.inr ⟨⟨h3, h4⟩, h5⟩)
        · exact Or.inr ⟨d, by omega, by omega, h3, h4, h5⟩
theorem hStep_bit {A : aH} {op X x : Nat} : (hStep A op X).testBit x = true ↔ X.testBit x = true ∨ ∃ d, d < hs A 1 ∧ op.testBit d = true ∧ (X.testBit (ht A 0 d) = true ∨ X.testBit (ht A 1 d) = true) ∧ (ht A 0 d = x ∨ ht A 1 d = x) := by
  unfold hStep
  rw [hStep_bits]
  constructor
  · rintro (h | ⟨d, h1, h2, h3⟩)
    · exact Or.inl h
    · exact Or.inr ⟨d, by omega, h3⟩
  · rintro (h | ⟨d, h1, h3⟩)
    · exact Or.inl h
    · exact Or.inr ⟨d, by omega, by omega, h3⟩
theorem hStep_mono {A : aH} {op X Y : Nat} (h : sub X Y) : sub (hStep A op X) (hStep A op Y) := by
  intro i q
  rw [hStep_bit] at q ⊢
  rcases q with q | ⟨d, h1, h2, h3, h4⟩
  · exact Or.inl (h i q)
  · exact Or.inr ⟨d, h1, h2, h3.imp (h _) (h _), h4⟩
theorem it_mono {f : Nat → Nat} (hf : ∀ X Y, sub X Y → sub (f X) (f Y)) : ∀ (n X Y : Nat), sub X Y → sub (it f n X) (it f n Y)
  | 0, _, _, h => h
  | n + 1, X, Y, h => it_mono hf n _ _ (hf X Y h)
theorem two_bit {u x : Nat} : (2 ^ u).testBit x = true ↔ u = x := by rw [Nat.testBit_two_pow, decide_eq_true_iff]
theorem sub_two {u X : Nat} (h : X.testBit u = true) : sub (2 ^ u) X := fun i q => by rw [two_bit] at q; rw [← q]; exact h
theorem hStep_add {A : aH} {op X x : Nat} (h : (hStep A op X).testBit x = true) : ∃ u, X.testBit u = true ∧ (hStep A op (2 ^ u)).testBit x = true := by
  rw [hStep_bit] at h
  rcases h with h | ⟨d, h1, h2, h3, h4⟩
  · exact ⟨x, h, hStep_all.1 x (two_bit.mpr rfl)⟩
  · rcases h3 with h3 | h3
    · exact ⟨_, h3, hStep_bit.mpr (Or.inr ⟨d, h1, h2, Or.inl (two_bit.mpr rfl), h4⟩)⟩
    · exact ⟨_, h3, hStep_bit.mpr (Or.inr ⟨d, h1, h2, Or.inr (two_bit.mpr rfl), h4⟩)⟩
theorem it_add {A : aH} {op x : Nat} : ∀ (n X : Nat), (it (hStep A op) n X).testBit x = true → ∃ u, X.testBit u = true ∧ (it (hStep A op) n (2 ^ u)).testBit x = true
  | 0, X, h => ⟨x, h, two_bit.mpr rfl⟩
  | n + 1, X, h => by
    obtain ⟨u, h1, h2⟩ := it_add n _ h
    obtain ⟨v, h3, h4⟩ := hStep_add h1
    exact ⟨v, h3, it_mono (fun _ _ => hStep_mono) n _ _ (sub_two h4) x h2⟩
theorem diF_some {A : aH} {o : Nat} : ∀ (n i X k : Nat), diF A o n i X = some k → ∃ t, t < n ∧ k = i + t ∧ (it (hStep A (hs A 5)) t X).testBit o = true ∧ ∀ s, s < t → ¬ (it (hStep A (hs A 5)) s X).testBit o = true
  | 0, _, _, _, h => by cases h
  | n + 1, i, X, k, h => by
    rw [diF] at h
    by_cases q : X.testBit o = true
    · rw [if_pos q] at h
      cases h
      exact ⟨0, by omega, rfl, q, fun s hs => absurd hs (Nat.not_lt_zero s)⟩
    · rw [if_neg q] at h
      obtain ⟨t, h1, h2, h3, h4⟩ := diF_some n (i + 1) _ k h
      refine ⟨t + 1, by omega, by omega, h3, fun s hs => ?_⟩
      cases s with
      | zero => exact q
      | succ s => exact h4 s (by omega)
theorem diF_none {A : aH} {o : Nat} : ∀ (n i X : Nat), diF A o n i X = none → ∀ t, t < n → ¬ (it (hStep A (hs A 5)) t X).testBit o = true
  | 0, _, _, _, t, ht' => absurd ht' (Nat.not_lt_zero t)
  | n + 1, i, X, h, t, ht' => by
    rw [diF] at h
    by_cases q : X.testBit o = true
    · rw [if_pos q] at h; cases h
    · rw [if_neg q] at h
      cases t with
      | zero => exact q
      | succ t => exact diF_none n (i + 1) _ h t (by omega)
theorem it_succ {f : Nat → Nat} : ∀ (n x : Nat), it f (n + 1) x = f (it f n x)
  | 0, _ => rfl
  | n + 1, x => by
    rw [it, it_succ n (f x)]; rfl
theorem c7_two : ∀ v, v < 7 → c7 (2 ^ v) = 1 := by decide
/-- six steps from one room are enough -/
theorem it6 {A : aH} (W : hWF A) {op v : Nat} (hv : v < 7) : hStep A op (it (hStep A op) 6 (2 ^ v)) = it (hStep A op) 6 (2 ^ v) := by
  have hf : ∀ x, x < 128 → hStep A op x < 128 := fun _ h => hStep_lt W h
  have hx := p128 hv
  by_cases e : hStep A op (it (hStep A op) 6 (2 ^ v)) = it (hStep A op) 6 (2 ^ v)
  · exact e
  · exfalso
    have hl := it_lt hf 6 _ hx
    have a := c7_lt _ hl _ (hf _ hl) (hStep_all (A := A) (op := op)).1.or (fun q => e q.symm)
    have b := c7_le (hStep A op (it (hStep A op) 6 (2 ^ v)))
    rcases it_grow hf (fun _ => hStep_all.1) 6 _ hx with q | q
    · exact e q
    · rw [c7_two v hv] at q
      omega
theorem it_ge6 {A : aH} (W : hWF A) {op v : Nat} (hv : v < 7) : ∀ n, 6 ≤ n → it (hStep A op) n (2 ^ v) = it (hStep A op) 6 (2 ^ v) := by
  intro n hn
  induction n with
  | zero => omega
  | succ n ih =>
    by_cases h : n = 5
    · subst h; rfl
    · rw [it_succ, ih (by omega), it6 W hv]
/-- the distance to o -/
def dlF (A : aH) (o v : Nat) : Nat := match diF A o 7 0 (2 ^ v) with
  | none => 1000000
  | some i => i
theorem dlF_le {A : aH} {o v : Nat} : dlF A o v ≤ 6 ∨ dlF A o v = 1000000 := by
  unfold dlF
  cases h : diF A o 7 0 (2 ^ v) with
  | none => exact Or.inr rfl
  | some i =>
    obtain ⟨t, h1, h2, _⟩ := diF_some 7 0 _ i h
    left
    show i ≤ 6
    omega
theorem dlF_up {A : aH} (W : hWF A) {o v t : Nat} (hv : v < 7) (h : (it (hStep A (hs A 5)) t (2 ^ v)).testBit o = true) : dlF A o v ≤ t := by
  have key : ∀ s, s ≤ 6 → (it (hStep A (hs A 5)) s (2 ^ v)).testBit o = true → dlF A o v ≤ s := by
    intro s hs6 hb
    unfold dlF
    cases h' : diF A o 7 0 (2 ^ v) with
    | none => exact absurd hb (diF_none 7 0 _ h' s (by omega))
    | some i =>
      obtain ⟨t, h1, h2, h3, h4⟩ := diF_some 7 0 _ i h'
      show i ≤ s
      by_cases q : s < t
      · exact absurd hb (h4 s q)
      · omega
  by_cases q : t ≤ 6
  · exact key t q h
  · have := key 6 (by omega) (by rw [← it_ge6 W hv t (by omega)]; exact h)
    omega
theorem dlF_in {A : aH} {o v : Nat} (h : dlF A o v ≤ 6) : (it (hStep A (hs A 5)) (dlF A o v) (2 ^ v)).testBit o = true := by
  unfold dlF at h ⊢
  cases h' : diF A o 7 0 (2 ^ v) with
  | none => rw [h'] at h; exact absurd h (by decide)
  | some i =>
    obtain ⟨t, h1, h2, h3, h4⟩ := diF_some 7 0 _ i h'
    show (it (hStep A (hs A 5)) i (2 ^ v)).testBit o = true
    rw [h2, Nat.zero_add]; exact h3
theorem dlF_0 {A : aH} (W : hWF A) {o : Nat} (ho : o < 7) : dlF A o o = 0 := Nat.le_zero.mp (dlF_up W (t := 0) ho (two_bit.mpr rfl))
theorem dlF_eq0 {A : aH} {o v : Nat} (h : dlF A o v = 0) : v = o := by
  have := dlF_in (A := A) (o := o) (v := v) (by omega)
  rw [h] at this
  exact two_bit.mp this
theorem hStep_nb {A : aH} {op d u v : Nat} (hd : d < hs A 1) (ho : op.testBit d = true) (h : (ht A 0 d = u ∧ ht A 1 d = v) ∨ (ht A 1 d = u ∧ ht A 0 d = v)) : (hStep A op (2 ^ u)).testBit v = true := by
  rw [hStep_bit]
  rcases h with ⟨h1, h2⟩ | ⟨h1, h2⟩
  · exact Or.inr ⟨d, hd, ho, Or.inl (two_bit.mpr h1.symm), Or.inr h2⟩
  · exact Or.inr ⟨d, hd, ho, Or.inr (two_bit.mpr h1.symm), Or.inl h2⟩
theorem dlF_nb {A : aH} (W : hWF A) {o d u v : Nat} (hu : u < 7) (hd : d < hs A 1) (hop : (hs A 5).testBit d = true) (h : (ht A 0 d = u ∧ ht A 1 d = v) ∨ (ht A 1 d = u ∧ ht A 0 d = v)) : dlF A o u ≤ dlF A o v + 1 := by
  rcases dlF_le (A := A) (o := o) (v := v) with q | q
  · refine dlF_up W hu ?_
    rw [it]
    exact it_mono (fun _ _ => hStep_mono) _ _ _ (sub_two (hStep_nb hd hop h)) o (dlF_in q)
  · rcases dlF_le (A := A) (o := o) (v := u) with q2 | q2 <;> omega
theorem dlF_pre {A : aH} (W : hWF A) {o v n : Nat} (hv : v < 7) (h : dlF A o v = n + 1) (hn : n + 1 ≤ 6) : ∃ d u, d < hs A 1 ∧ (hs A 5).testBit d = true ∧ ((ht A 0 d = v ∧ ht A 1 d = u) ∨ (ht A 1 d = v ∧ ht A 0 d = u)) ∧ dlF A o u = n ∧ u < hs A 0 := by
  have a := dlF_in (A := A) (o := o) (v := v) (by omega)
  rw [h, it] at a
  obtain ⟨u, h1, h2⟩ := it_add n _ a
  rw [hStep_bit] at h1
  rcases h1 with h1 | ⟨d, hd, ho, h3, h4⟩
  · have e := two_bit.mp h1
    subst e
    have := dlF_up W hv h2
    omega
  · have da := (W.2.1 d hd).1
    have db := (W.2.1 d hd).2.1
    have nr := W.1.1
    have hu : u < hs A 0 := by rcases h4 with h4 | h4 <;> omega
    have hu7 : dlF A o u ≤ n := dlF_up W (by omega) h2
    have hne : ¬ u = v := fun e => by rw [e] at hu7; omega
    have hc : (ht A 0 d = v ∧ ht A 1 d = u) ∨ (ht A 1 d = v ∧ ht A 0 d = u) := by
      rcases h3 with h3 | h3 <;> have h3 := two_bit.mp h3 <;> rcases h4 with h4 | h4
      · omega
      · exact Or.inl ⟨h3.symm, h4⟩
      · exact Or.inr ⟨h3.symm, h4⟩
      · omega
    have := dlF_nb W (o := o) hv hd ho hc
    exact ⟨d, u, hd, ho, hc, by omega, hu⟩
/-! the model's row of distances -/
abbrev P145 : Nat → Nat → Prop := fun k _ => k = 145
theorem MH.k145 {μ μ' : dtM} {A : aH} (H : MH μ 0 0 A) (F : Fr P145 μ μ') : MH μ' 0 0 A := H.kept F ⟨fun _ => show ¬ 133 = 145 by decide, fun _ => show ¬ 134 = 145 by decide, fun _ => show ¬ 135 = 145 by decide⟩
def fx (A : aH) (d : Nat) (g : Nat → Nat) : Nat → Nat := if (hs A 5).testBit d = true then rxG g (ht A 0 d) (ht A 1 d) 1 else g
def fps (A : aH) (g : Nat → Nat) : Nat → Nat := fo (fx A) (hs A 1) 0 g
def frn (A : aH) : Nat → (Nat → Nat) → Nat → Nat
  | 0, g => g
  | n + 1, g => frn A n (fps A g)
def fini (o j : Nat) : Nat := if j = o then 0 else 1000000
theorem fx_B {A : aH} (W : hWF A) {d : Nat} (hd : d < hs A 1) {g : Nat → Nat} (h : hB g) : hB (fx A d g) := by
  have := W.1.1
  have := (W.2.1 d hd).1
  have := (W.2.1 d hd).2.1
  unfold fx
  by_cases q : (hs A 5).testBit d = true
  · rw [if_pos q]; exact rxG_B h (by omega) (by omega)
  · rw [if_neg q]; exact h
theorem fps_B {A : aH} (W : hWF A) {g : Nat → Nat} (h : hB g) : hB (fps A g) := fo_ind (P := fun _ g => hB g) (fun _ _ hd q => fx_B W hd q) (hs A 1) 0 g (by omega) h
theorem lf42 {k34 : Nat → Int32 → dtM → Option dtM} {A : aH} {l2 : Int32} : ∀ (n f i : Nat) (g : Nat → Nat) (μ : dtM), i + n = hs A 1 → n < f → MH μ 0 0 A → CX μ → LV μ 145 7 g → hB g → ∃ μ', f_X12_laysFar_42 k34 f 133 l2 (Int32.ofNat i) μ = k34 133 (l2 + Int32.ofNat 1) μ' ∧ Fr P145 μ μ' ∧ LV μ' 145 7 (fo (fx A) n i g) := by
  intro n
  induction n with
  | zero =>
    intro f i g μ e hf H C hL hb
    have hnd := H.nd
    have g1 := H.g1
    cases f with
    | zero => omega
    | succ f =>
      simp (disch := omega) only [f_X12_laysFar_42, C.g133_0, g1, o_bind, z_lit, z_le]
      rw [if_pos (by omega)]
      exact ⟨μ, rfl, Fr.rf, hL⟩
  | succ n ih =>
    intro f i g μ e hf H C hL hb
    have hnd := H.nd
    have hnr := H.nr
    have g1 := H.g1
    cases f with
    | zero => omega
    | succ f =>
      have hi : i < hs A 1 := by omega
      have a7 := (H.door hi).1
      have b7 := (H.door hi).2.1
      have d0 := H.doorOf (t := 0) (by decide) hi
      have d1 := H.doorOf (t := 1) (by decide) hi
      rw [fo]
      cases q : (hs A 5).testBit i
      · obtain ⟨μ2, e2, F2, hL2⟩ := ih f (i + 1) g μ (by omega) (by omega) H C hL hb
        refine ⟨μ2, ?_, F2, ?_⟩
        · rw [← e2]
          simp (disch := omega) only [f_X12_laysFar_42, f_X12_laysFar_131, C.g133_0, C.v133, g1, o_bind, o_call, z_lit, z_le, H.isOpen, q, b0, z_add, eq_self, if_true]
          rw [if_neg (by omega)]
        · rw [show fx A i g = g by simp [fx, q]]; exact hL2
      · have ha : ht A 0 i < 7 := by omega
        have hb7 : ht A 1 i < 7 := by omega
        have x1 := hL.get C.s145 (by decide) ha
        have x2 := hL.get C.s145 (by decide) hb7
        have k1 := hb _ ha
        have k2 := hb _ hb7
        have F1 : Fr P145 μ (dtSI μ 145 (ht A 0 i) (Int32.ofNat (min (g (ht A 1 i) + 1) (g (ht A 0 i))))) := Fr.SI rfl
        have C1 := C.kept F1
        have H1 := H.k145 F1
        have hL1 := hL.SI (j := ht A 0 i) (v := min (g (ht A 1 i) + 1) (g (ht A 0 i)))
        have hb1 := dtUp_le (j := ht A 0 i) hb (Nat.le_trans (Nat.min_le_right (g (ht A 1 i) + 1) (g (ht A 0 i))) k1)
        have y1 := hL1.get C1.s145 (by decide) ha
        have y2 := hL1.get C1.s145 (by decide) hb7
        have m1 := hb1 _ ha
        have m2 := hb1 _ hb7
        have eg : fx A i g = rxG g (ht A 0 i) (ht A 1 i) 1 := by simp [fx, q]
        have F2 : Fr P145 (dtSI μ 145 (ht A 0 i) (Int32.ofNat (min (g (ht A 1 i) + 1) (g (ht A 0 i))))) (dtSI (dtSI μ 145 (ht A 0 i) (Int32.ofNat (min (g (ht A 1 i) + 1) (g (ht A 0 i))))) 145 (ht A 1 i) (Int32.ofNat (min (dtUp g (ht A 0 i) (min (g (ht A 1 i) + 1) (g (ht A 0 i))) (ht A 0 i) + 1) (dtUp g (ht A 0 i) (min (g (ht A 1 i) + 1) (g (ht A 0 i))) (ht A 1 i))))) := Fr.SI rfl
        obtain ⟨μ2, e2, F3, hL3⟩ := ih f (i + 1) (rxG g (ht A 0 i) (ht A 1 i) 1) _ (by omega) (by omega) (H1.k145 F2) (C1.kept F2) hL1.SI (rxG_B hb ha hb7)
        refine ⟨μ2, ?_, (F1.tr F2).tr F3, ?_⟩
        · rw [← e2]
          simp (disch := omega) only [f_X12_laysFar_42, f_X12_laysFar_131, C.g133_0, C.v133, g1, o_bind, o_call, z_lit, z_le, H.isOpen, q, b0, z_add, Bool.true_eq_false, if_false, d0, d1, C.g133_28, x1, x2, z_min, o_SI C.s145 ha (by decide), C1.g133_28, y1, y2, o_SI C1.s145 hb7 (by decide)]
          rw [if_neg (by omega)]
        · rw [eg]; exact hL3
theorem lf34 {A : aH} : ∀ (n f i : Nat) (g : Nat → Nat) (μ : dtM), i + n = 7 → n < f → MH μ 0 0 A → CX μ → LV μ 145 7 g → hB g → ∃ μ', f_X12_laysFar_34 f 133 (Int32.ofNat i) μ = some μ' ∧ Fr P145 μ μ' ∧ LV μ' 145 7 (frn A n g) := by
  intro n
  induction n with
  | zero =>
    intro f i g μ e hf H C hL hb
    cases f with
    | zero => omega
    | succ f =>
      simp (disch := omega) only [f_X12_laysFar_34, z_lit, z_le]
      rw [if_pos (by omega)]
      exact ⟨μ, rfl, Fr.rf, hL⟩
  | succ n ih =>
    intro f i g μ e hf H C hL hb
    cases f with
    | zero => omega
    | succ f =>
      have hnd := H.nd
      obtain ⟨μ1, e1, F1, hL1⟩ := lf42 (k34 := f_X12_laysFar_34 f) (l2 := Int32.ofNat i) (hs A 1) dtFuel 0 g μ (by omega) (dtFuel_gt (by omega)) H C hL hb
      obtain ⟨μ2, e2, F2, hL2⟩ := ih f (i + 1) (fps A g) μ1 (by omega) (by omega) (H.k145 F1) (C.kept F1) hL1 (fps_B H.2.2 hb)
      refine ⟨μ2, ?_, F1.tr F2, hL2⟩
      rw [← e2]
      simp (disch := omega) only [f_X12_laysFar_34, z_lit, z_le]
      rw [if_neg (by omega), e1, z_add]
theorem fini_B {o : Nat} : hB (fini o) := by
  intro v _
  unfold fini
  by_cases h : v = o
  · rw [if_pos h]; omega
  · rw [if_neg h]; omega
theorem lf2 {A : aH} {o : Nat} (ho : o < 7) : ∀ (n f i : Nat) (μ : dtM), i + n = 7 → n < f → MH μ 0 0 A → CX μ → LV μ 145 i (fini o) → ∃ μ', f_X12_laysFar_2 f 133 (Int32.ofNat o) (Int32.ofNat i) μ = some μ' ∧ Fr P145 μ μ' ∧ LV μ' 145 7 (frn A 7 (fini o)) := by
  intro n
  induction n with
  | zero =>
    intro f i μ e hf H C hL
    have hnd := H.nd
    cases f with
    | zero => omega
    | succ f =>
      have : i = 7 := by omega
      subst this
      simp (disch := omega) only [f_X12_laysFar_2, z_lit, z_le]
      rw [if_pos (by omega)]
      exact lf34 7 dtFuel 0 (fini o) μ (by omega) (dtFuel_gt (by decide)) H C hL fini_B
  | succ n ih =>
    intro f i μ e hf H C hL
    cases f with
    | zero => omega
    | succ f =>
      have F1 : Fr P145 μ (dtSI μ 145 i (Int32.ofNat (fini o i))) := Fr.SI rfl
      have hL1 : LV (dtSI μ 145 i (Int32.ofNat (fini o i))) 145 (i + 1) (fini o) := by
        intro j hj
        rw [m_I_SI]
        by_cases q : j = i
        · rw [if_pos ⟨rfl, q⟩, q]
        · rw [if_neg (fun x => q x.2)]; exact hL j (by omega)
      obtain ⟨μ2, e2, F2, hL2⟩ := ih f (i + 1) _ (by omega) (by omega) (H.k145 F1) (C.kept F1) hL1
      refine ⟨μ2, ?_, F1.tr F2, hL2⟩
      rw [← e2]
      simp (disch := omega) only [f_X12_laysFar_2, f_X12_laysFar_25, z_lit, z_le, C.g133_28, o_bind, z_eq, o_SI C.s145 (show i < 7 by omega) (by decide), z_add]
      rw [if_neg (by omega)]
      by_cases q : i = o
      · rw [if_pos q, show fini o i = 0 from if_pos q]
      · rw [if_neg q, show fini o i = 1000000 from if_neg q]
theorem MH.laysFar {μ : dtM} {A : aH} (H : MH μ 0 0 A) (C : CX μ) {o : Nat} (ho : o < 7) : ∃ μ', f_X12_laysFar 133 (Int32.ofNat o) μ = some μ' ∧ Fr P145 μ μ' ∧ LV μ' 145 7 (frn A 7 (fini o)) := by
  rw [f_X12_laysFar, z_lit]
  exact lf2 ho 7 dtFuel 0 μ (by omega) (dtFuel_gt (by decide)) H C (fun j hj => absurd hj (Nat.not_lt_zero j))
/-! the row tells the distances -/
def fP (A : aH) (o n i : Nat) (g : Nat → Nat) : Prop := (∀ v, v < hs A 0 → dlF A o v ≤ g v) ∧ (∀ v, v < hs A 0 → dlF A o v ≤ n → g v = dlF A o v) ∧ ∀ d, d < i → (hs A 5).testBit d = true → (dlF A o (ht A 0 d) ≤ n → g (ht A 1 d) ≤ dlF A o (ht A 0 d) + 1) ∧ (dlF A o (ht A 1 d) ≤ n → g (ht A 0 d) ≤ dlF A o (ht A 1 d) + 1)
theorem rxG_a {g : Nat → Nat} {a b c : Nat} (hab : ¬ a = b) : rxG g a b c a = min (g b + c) (g a) := by
  unfold rxG dtUp
  rw [if_neg hab, if_pos rfl]
theorem rxG_b {g : Nat → Nat} {a b c : Nat} (hab : ¬ a = b) : rxG g a b c b = min (min (g b + c) (g a) + c) (g b) := by
  have hba : ¬ b = a := fun h => hab h.symm
  unfold rxG dtUp
  simp [hab, hba]
theorem rxG_o {g : Nat → Nat} {a b c v : Nat} (ha : ¬ v = a) (hb : ¬ v = b) : rxG g a b c v = g v := by
  unfold rxG dtUp
  simp [ha, hb]
theorem fx_P {A : aH} (W : hWF A) {o n i : Nat} (hi : i < hs A 1) {g : Nat → Nat} (h : fP A o n i g) : fP A o n (i + 1) (fx A i g) := by
  obtain ⟨h1, h2, h3⟩ := h
  have da := (W.2.1 i hi).1
  have db := (W.2.1 i hi).2.1
  have hab := (W.2.1 i hi).2.2.1
  have nr := W.1.1
  by_cases q : (hs A 5).testBit i = true
  · have eg : fx A i g = rxG g (ht A 0 i) (ht A 1 i) 1 := if_pos q
    rw [eg]
    have n1 := dlF_nb W (o := o) (u := ht A 0 i) (v := ht A 1 i) (by omega) hi q (Or.inl ⟨rfl, rfl⟩)
    have n2 := dlF_nb W (o := o) (u := ht A 1 i) (v := ht A 0 i) (by omega) hi q (Or.inr ⟨rfl, rfl⟩)
    have la := h1 _ da
    have lb := h1 _ db
    have ea := rxG_a (g := g) (c := 1) hab
    have eb := rxG_b (g := g) (c := 1) hab
    have le : ∀ v, rxG g (ht A 0 i) (ht A 1 i) 1 v ≤ g v := by
      intro v
      by_cases x : v = ht A 0 i
      · rw [x, ea]; exact Nat.min_le_right _ _
      · by_cases y : v = ht A 1 i
        · rw [y, eb]; exact Nat.min_le_right _ _
        · rw [rxG_o x y]; exact Nat.le_refl _
    have ge : ∀ v, v < hs A 0 → dlF A o v ≤ rxG g (ht A 0 i) (ht A 1 i) 1 v := by
      intro v hv
      by_cases x : v = ht A 0 i
      · rw [x, ea]; omega
      · by_cases y : v = ht A 1 i
        · rw [y, eb]; omega
        · rw [rxG_o x y]; exact h1 v hv
    refine ⟨ge, fun v hv hn => ?_, fun d hd ho => ?_⟩
    · have := h2 v hv hn
      have := le v
      have := ge v hv
      omega
    · by_cases e : d = i
      · subst e
        refine ⟨fun hn => ?_, fun hn => ?_⟩
        · have := h2 _ da hn
          rw [eb]; omega
        · have := h2 _ db hn
          rw [ea]; omega
      · have x := h3 d (by omega) ho
        exact ⟨fun hn => Nat.le_trans (le _) (x.1 hn), fun hn => Nat.le_trans (le _) (x.2 hn)⟩
  · have eg : fx A i g = g := if_neg q
    rw [eg]
    refine ⟨h1, h2, fun d hd ho => ?_⟩
    by_cases e : d = i
    · rw [e] at ho; exact absurd ho q
    · exact h3 d (by omega) ho
theorem fps_P {A : aH} (W : hWF A) {o n : Nat} (hn : n + 1 ≤ 6 ∨ 6 ≤ n) {g : Nat → Nat} (h1 : ∀ v, v < hs A 0 → dlF A o v ≤ g v) (h2 : ∀ v, v < hs A 0 → dlF A o v ≤ n → g v = dlF A o v) : (∀ v, v < hs A 0 → dlF A o v ≤ fps A g v) ∧ (∀ v, v < hs A 0 → dlF A o v ≤ min 6 (n + 1) → fps A g v = dlF A o v) := by
  have nr := W.1.1
  obtain ⟨k1, k2, k3⟩ := fo_ind (P := fun i g => fP A o n i g) (fun i g hi x => fx_P W hi x) (hs A 1) 0 g (by omega) ⟨h1, h2, fun d hd => absurd hd (Nat.not_lt_zero d)⟩
  refine ⟨k1, fun v hv hle => ?_⟩
  by_cases q : dlF A o v ≤ n
  · exact k2 v hv q
  · have e : dlF A o v = n + 1 := by omega
    obtain ⟨d, u, hd, ho, hc, hu, hu0⟩ := dlF_pre W (by omega) e (by omega)
    have x := k3 d hd ho
    have y := k1 v hv
    show fo (fx A) (hs A 1) 0 g v = _
    rcases hc with ⟨c1, c2⟩ | ⟨c1, c2⟩
    · have z := x.2 (by rw [c2]; omega)
      rw [c1, c2, hu] at z
      rw [e]; rw [e] at y; exact Nat.le_antisymm z y
    · have z := x.1 (by rw [c2]; omega)
      rw [c1, c2, hu] at z
      rw [e]; rw [e] at y; exact Nat.le_antisymm z y
theorem frn_P {A : aH} (W : hWF A) {o : Nat} : ∀ (m n : Nat) (g : Nat → Nat), hB g → (∀ v, v < hs A 0 → dlF A o v ≤ g v) → (∀ v, v < hs A 0 → dlF A o v ≤ n → g v = dlF A o v) → 6 ≤ n + m → ∀ v, v < hs A 0 → frn A m g v = dlF A o v
  | 0, n, g, hb, h1, h2, e, v, hv => by
    have nr := W.1.1
    rcases dlF_le (A := A) (o := o) (v := v) with q | q
    · exact h2 v hv (by omega)
    · have := h1 v hv
      have := hb v (by omega)
      show g v = _
      omega
  | m + 1, n, g, hb, h1, h2, e, v, hv => by
    obtain ⟨k1, k2⟩ := fps_P W (o := o) (n := n) (by omega) h1 h2
    rw [frn]
    by_cases q : n + 1 ≤ 6
    · exact frn_P W m (n + 1) _ (fps_B W hb) k1 (fun v hv hl => k2 v hv (by omega)) (by omega) v hv
    · refine frn_P W m 6 _ (fps_B W hb) k1 (fun v hv hl => k2 v hv (by omega)) (by omega) v hv
theorem frn_eq {A : aH} (W : hWF A) {o v : Nat} (ho : o < hs A 0) (hv : v < hs A 0) : frn A 7 (fini o) v = dlF A o v := by
  have nr := W.1.1
  refine frn_P W 7 0 _ fini_B (fun v hv => ?_) (fun v hv hl => ?_) (by omega) v hv
  · unfold fini
    by_cases q : v = o
    · rw [if_pos q, q, dlF_0 W (by omega)]; omega
    · rw [if_neg q]
      rcases dlF_le (A := A) (o := o) (v := v) with x | x <;> omega
  · have e : dlF A o v = 0 := by omega
    have := dlF_eq0 e
    rw [e, this, fini, if_pos rfl]
