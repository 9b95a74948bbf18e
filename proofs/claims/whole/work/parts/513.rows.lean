/-! PURE 53: rows, and what they mean -/
theorem rc_cg {A : aH} {kn m : Nat} {row row' : Nat → Nat} (h : ∀ j, j < m → row j = row' j) : rc A kn row m = rc A kn row' m := by
  have a : ∀ (n k w at0 : Nat), at0 + (k + n) ≤ m → agr A row w at0 n k = agr A row' w at0 n k := by
    intro n
    induction n with
    | zero => intro k w at0 _; rfl
    | succ n ih =>
      intro k w at0 e
      rw [agr, agr, h (at0 + k) (by omega), ih (k + 1) w at0 (by omega)]
  have f : ∀ w at0, fit A row m w at0 = fit A row' m w at0 := by
    intro w at0
    unfold fit
    by_cases q : at0 + ht A 3 w ≤ m
    · rw [a _ 0 w at0 (by omega)]
    · rw [decide_eq_false q]; rfl
  have s : ∀ k g, rcS A kn row m k g = rcS A kn row' m k g := by
    intro k g
    have e : rcW A kn row m k g = rcW A kn row' m k g := by
      funext w acc
      unfold rcW
      rw [f]
    unfold rcS
    rw [e]
  have r : ∀ n g, rcN A kn row m n g = rcN A kn row' m n g := by
    intro n
    induction n with
    | zero => intro g; rfl
    | succ n ih => intro g; rw [rcN, rcN, s, ih]
  unfold rc
  exact r m (rc0 m)
abbrev P5w : Nat → Nat → Prop := fun k j => (k = 124 ∧ j = 1) ∨ k = 125
theorem PH.k5w {μ μ' : dtM} {h : Nat} {A : aH} (H : PH μ h A) (hh : h + 12 < 123) (F : Fr P5w μ μ') : PH μ' h A := H.kept F (fun k _ q _ => by show ¬ (_ ∨ _); omega)
theorem p_addSound {μ : dtM} (C : CX μ) {m s : Nat} {row : Nat → Nat} (R : pRw μ m row) (hm : m < 24) (hs4 : s < 4) : ∃ μ', f_X5_addSound 124 (Int32.ofNat s) μ = some μ' ∧ Fr P5w μ μ' ∧ pRw μ' (m + 1) (dtUp row m s) := by
  have F1 : Fr P5w μ (dtSI μ 125 m (Int32.ofNat s)) := Fr.SI (Or.inr rfl)
  have C1 := C.kept F1
  have x : opGI 5 1 (dtSI μ 125 m (Int32.ofNat s)) 124 = some (Int32.ofNat m) := by
    rw [o_GI C1.s124, m_I_SI, if_neg (by omega), R.2.2.1]
  refine ⟨dtSI (dtSI μ 125 m (Int32.ofNat s)) 124 1 (Int32.ofNat (m + 1)), ?_, F1.tr (Fr.SI (Or.inl ⟨rfl, rfl⟩)), by omega, fun j hj => ?_, ?_, fun j hj => ?_⟩
  · simp (disch := omega) only [f_X5_addSound, f_X5_addSound_32, R.m C, C.g124_0, o_AL C.s125 (show 0 < 1 ∧ 1 < 7 by decide), o_bind, z_le, z_lit, o_SI C.s125 hm (by decide), x, z_add, o_PI C1.s124]
    rw [if_neg (by omega)]
  · show (if j = m then s else row j) < 4
    by_cases q : j = m
    · rw [if_pos q]; exact hs4
    · rw [if_neg q]; exact R.2.1 j (by omega)
  · rw [m_I_SI, if_pos ⟨rfl, rfl⟩]
  · rw [m_I_SI, if_neg (by omega), m_I_SI]
    show _ = Int32.ofNat (if j = m then s else row j)
    by_cases q : j = m
    · rw [if_pos ⟨rfl, q⟩, if_pos q]
    · rw [if_neg (fun x => q x.2), if_neg q]; exact R.2.2.2 j (by omega)
theorem p_beginRow {μ : dtM} (C : CX μ) (row : Nat → Nat) : f_X5_beginRow 124 μ = some (dtSI μ 124 1 (Int32.ofNat 0)) ∧ pRw (dtSI μ 124 1 (Int32.ofNat 0)) 0 row := by
  refine ⟨by simp only [f_X5_beginRow, o_PI C.s124, o_bind, z_lit], by decide, fun j hj => absurd hj (Nat.not_lt_zero j), by rw [m_I_SI, if_pos ⟨rfl, rfl⟩], fun j hj => absurd hj (Nat.not_lt_zero j)⟩
theorem pRw.cg {μ : dtM} {m : Nat} {row row' : Nat → Nat} (R : pRw μ m row) (h : ∀ j, j < m → row j = row' j) : pRw μ m row' :=
  ⟨R.1, fun j hj => by rw [← h j hj]; exact R.2.1 j hj, R.2.2.1, fun j hj => by rw [← h j hj]; exact R.2.2.2 j hj⟩
def rwH (A : aH) (p k : Nat) : Nat := ht A (12 + k) p
theorem lh6 {h : Nat} {A : aH} (hh : h + 12 < 123) {p : Nat} (hp : p < hs A 3) : ∀ (n f i : Nat) (μ : dtM), i + n = ht A 11 p → n < f → PH μ h A → CX μ → pRw μ i (rwH A p) → ∃ μ', f_X5_loadHeard_6 f 124 h (Int32.ofNat p) (Int32.ofNat i) μ = some μ' ∧ Fr P5w μ μ' ∧ pRw μ' (ht A 11 p) (rwH A p) := by
  intro n
  induction n with
  | zero =>
    intro f i μ e hf H C R
    have h8 := (H.pers hp).2.2.2.1
    cases f with
    | zero => omega
    | succ f =>
      simp (disch := omega) only [f_X5_loadHeard_6, H.r17, H.l11 hp, o_bind, z_le]
      rw [if_pos (by omega)]
      have : i = ht A 11 p := by omega
      exact ⟨μ, rfl, Fr.rf, by rw [← this]; exact R⟩
  | succ n ih =>
    intro f i μ e hf H C R
    have h8 := (H.pers hp).2.2.2.1
    have h4 := (H.pers hp).2.2.2.2 i (by omega)
    cases f with
    | zero => omega
    | succ f =>
      obtain ⟨μ1, e1, F1, R1⟩ := p_addSound C R (s := ht A (12 + i) p) (by omega) h4
      obtain ⟨μ2, e2, F2, R2⟩ := ih f (i + 1) μ1 (by omega) (by omega) (H.k5w hh F1) (C.kept F1) (R1.cg (fun j hj => by
        show (if j = i then _ else _) = _
        by_cases q : j = i
        · rw [if_pos q, q]; rfl
        · rw [if_neg q]))
      refine ⟨μ2, ?_, F1.tr F2, R2⟩
      rw [← e2]
      simp (disch := omega) only [f_X5_loadHeard_6, H.r17, H.l11 hp, o_bind, z_le, H.r18, z_lit, z_mul, z_add, H.l12 hp (show i < ht A 11 p by omega), o_Rv C.s124, e1]
      rw [if_neg (by omega)]
theorem PH.loadHeard {μ : dtM} {h : Nat} {A : aH} (H : PH μ h A) (hh : h + 12 < 123) (C : CX μ) {p : Nat} (hp : p < hs A 3) : ∃ μ', f_X5_loadHeard 124 h (Int32.ofNat p) μ = some μ' ∧ Fr P5w μ μ' ∧ pRw μ' (ht A 11 p) (rwH A p) := by
  obtain ⟨b1, b2⟩ := p_beginRow C (rwH A p)
  have h8 := (H.pers hp).2.2.2.1
  have F1 : Fr P5w μ (dtSI μ 124 1 (Int32.ofNat 0)) := Fr.SI (Or.inl ⟨rfl, rfl⟩)
  obtain ⟨μ2, e2, F2, R2⟩ := lh6 hh hp (ht A 11 p) dtFuel 0 _ (by omega) (dtFuel_gt (by omega)) (H.k5w hh F1) (C.kept F1) b2
  refine ⟨μ2, ?_, F1.tr F2, R2⟩
  simp only [f_X5_loadHeard, o_Rv C.s124, o_bind, b1, z_lit]
  exact e2
def apw (A : aH) (row : Nat → Nat) (m w j : Nat) : Nat := if j < m then row j else ht A (4 + (j - m)) w
theorem aw2 {h : Nat} {A : aH} (hh : h + 12 < 123) {w m : Nat} {row : Nat → Nat} (hw : w < hs A 2) (hm : m + ht A 3 w ≤ 24) : ∀ (n f i : Nat) (μ : dtM), i + n = ht A 3 w → n < f → PH μ h A → CX μ → pRw μ (m + i) (apw A row m w) → ∃ μ', f_X5_addWord_2 f 124 h (Int32.ofNat w) (Int32.ofNat i) μ = some μ' ∧ Fr P5w μ μ' ∧ pRw μ' (m + ht A 3 w) (apw A row m w) := by
  intro n
  induction n with
  | zero =>
    intro f i μ e hf H C R
    cases f with
    | zero => omega
    | succ f =>
      simp (disch := omega) only [f_X5_addWord_2, H.r12, H.l3 hw, o_bind, z_le]
      rw [if_pos (by omega)]
      have : i = ht A 3 w := by omega
      exact ⟨μ, rfl, Fr.rf, by rw [← this]; exact R⟩
  | succ n ih =>
    intro f i μ e hf H C R
    have h4 := (H.word hw).2.2 i (by omega)
    cases f with
    | zero => omega
    | succ f =>
      obtain ⟨μ1, e1, F1, R1⟩ := p_addSound C R (s := ht A (4 + i) w) (by omega) h4
      obtain ⟨μ2, e2, F2, R2⟩ := ih f (i + 1) μ1 (by omega) (by omega) (H.k5w hh F1) (C.kept F1) (R1.cg (fun j hj => by
        show (if j = m + i then _ else _) = _
        by_cases q : j = m + i
        · rw [if_pos q, q]
          unfold apw
          rw [if_neg (by omega), show m + i - m = i by omega]
        · rw [if_neg q]))
      refine ⟨μ2, ?_, F1.tr F2, R2⟩
      rw [← e2]
      simp (disch := omega) only [f_X5_addWord_2, H.r12, H.l3 hw, H.rv, o_bind, o_call, z_le, z_lit, z_add, H.soundOfWord hw (show i < ht A 3 w by omega), o_Rv C.s124, e1]
      rw [if_neg (by omega)]
theorem PH.addWord {μ : dtM} {h : Nat} {A : aH} (H : PH μ h A) (hh : h + 12 < 123) (C : CX μ) {w m : Nat} {row : Nat → Nat} (R : pRw μ m row) (hw : w < hs A 2) (hm : m + ht A 3 w ≤ 24) : ∃ μ', f_X5_addWord 124 h (Int32.ofNat w) μ = some μ' ∧ Fr P5w μ μ' ∧ pRw μ' (m + ht A 3 w) (apw A row m w) := by
  rw [f_X5_addWord, z_lit]
  exact aw2 hh hw hm (ht A 3 w) dtFuel 0 μ (by omega) (dtFuel_gt (by omega)) H C (by rw [Nat.add_zero]; exact R.cg (fun j hj => (if_pos hj).symm))
/-! the model -/
abbrev Pmw : Nat → Nat → Prop := fun k j => (k = 133 ∧ j = 27) ∨ k = 143
theorem MH.kmw {μ μ' : dtM} {A : aH} (H : MH μ 0 0 A) (F : Fr Pmw μ μ') : MH μ' 0 0 A := H.keptAt F (fun _ _ _ _ => by show ¬ (_ ∨ _); omega) (fun _ _ _ => by show ¬ (_ ∨ _); omega)
theorem mRw.cg {μ : dtM} {m : Nat} {row row' : Nat → Nat} (R : mRw μ m row) (h : ∀ j, j < m → row j = row' j) : mRw μ m row' :=
  ⟨R.1, fun j hj => by rw [← h j hj]; exact R.2.1 j hj, R.2.2.1, fun j hj => by rw [← h j hj]; exact R.2.2.2 j hj⟩
theorem lv_put {μ : dtM} {i s : Nat} {row : Nat → Nat} (L : LV μ 143 i row) (h : row i = s) : LV (dtSI μ 143 i (Int32.ofNat s)) 143 (i + 1) row := by
  intro j hj
  rw [m_I_SI]
  by_cases q : j = i
  · rw [if_pos ⟨rfl, q⟩, q, h]
  · rw [if_neg (fun x => q x.2)]; exact L j (by omega)
theorem mh12 {A : aH} {p : Nat} (hp : p < hs A 3) : ∀ (n f i : Nat) (μ : dtM), i + n = ht A 11 p → n < f → MH μ 0 0 A → CX μ → dtI μ 133 27 = Int32.ofNat (ht A 11 p) → LV μ 143 i (rwH A p) → ∃ μ', f_X12_laysHeard_12 f 133 (Int32.ofNat p) (Int32.ofNat i) μ = some (Int32.ofNat (rc A (ht A 10 p) (rwH A p) (ht A 11 p) 0), μ') ∧ Fr (fun k j => Pmw k j ∨ k = 144) μ μ' ∧ mRw μ' (ht A 11 p) (rwH A p) ∧ AV μ' 144 0 (ht A 11 p) (rc A (ht A 10 p) (rwH A p) (ht A 11 p)) := by
  intro n
  induction n with
  | zero =>
    intro f i μ e hf H C h27 L
    have h8 := (H.pers hp).2.2.2.1
    have h10 := (H.pers hp).2.2.1
    have hnw := H.nw
    have h2 : 2 ^ hs A 2 ≤ 128 := Nat.pow_le_pow_right (n := 2) (by decide) hnw
    have p2 := H.personOf (k := 2) (by decide) hp
    have : i = ht A 11 p := by omega
    subst this
    have R : mRw μ (ht A 11 p) (rwH A p) := ⟨by omega, fun j hj => (H.pers hp).2.2.2.2 j hj, h27, L⟩
    obtain ⟨μ1, e1, F1, V1⟩ := H.laysReadings C (kn := ht A 10 p) (by omega) R
    cases f with
    | zero => omega
    | succ f =>
      refine ⟨μ1, ?_, F1.wide (fun k j x => Or.inr x), R.k144 F1, V1⟩
      simp (disch := omega) only [f_X12_laysHeard_12, R.m C, o_bind, o_call, z_le, C.v133, z_lit, p2, Nat.reduceAdd, e1]
      rw [if_pos (Nat.le_refl _)]
  | succ n ih =>
    intro f i μ e hf H C h27 L
    have h8 := (H.pers hp).2.2.2.1
    cases f with
    | zero => omega
    | succ f =>
      have F1 : Fr Pmw μ (dtSI μ 143 i (Int32.ofNat (ht A (12 + i) p))) := Fr.SI (Or.inr rfl)
      obtain ⟨μ2, e2, F2, R2, V2⟩ := ih f (i + 1) _ (by omega) (by omega) (H.kmw F1) (C.kept F1) (by rw [m_I_SI, if_neg (by omega)]; exact h27) (lv_put L rfl)
      refine ⟨μ2, ?_, (F1.wide (fun k j x => Or.inl x)).tr F2, R2, V2⟩
      rw [← e2]
      have m27 : opGI 12 27 μ 133 = some (Int32.ofNat (ht A 11 p)) := by rw [o_GI C.s133, h27]
      simp (disch := omega) only [f_X12_laysHeard_12, m27, o_bind, o_call, z_le, C.v133, C.g133_25, z_lit, z_add, H.heardOf hp (show i < ht A 11 p by omega), o_SI C.s143 (show i < 24 by omega) (by decide)]
      rw [if_neg (by omega)]
theorem MH.laysHeard {μ : dtM} {A : aH} (H : MH μ 0 0 A) (C : CX μ) {p : Nat} (hp : p < hs A 3) : ∃ μ', f_X12_laysHeard 133 (Int32.ofNat p) μ = some (Int32.ofNat (rc A (ht A 10 p) (rwH A p) (ht A 11 p) 0), μ') ∧ Fr (fun k j => Pmw k j ∨ k = 144) μ μ' ∧ mRw μ' (ht A 11 p) (rwH A p) ∧ AV μ' 144 0 (ht A 11 p) (rc A (ht A 10 p) (rwH A p) (ht A 11 p)) := by
  have h8 := (H.pers hp).2.2.2.1
  have p3 := H.personOf (k := 3) (by decide) hp
  have F1 : Fr Pmw μ (dtSI μ 133 27 (Int32.ofNat (ht A 11 p))) := Fr.SI (Or.inl ⟨rfl, rfl⟩)
  obtain ⟨μ2, e2, F2, R2, V2⟩ := mh12 hp (ht A 11 p) dtFuel 0 _ (by omega) (dtFuel_gt (by omega)) (H.kmw F1) (C.kept F1) (by rw [m_I_SI, if_pos ⟨rfl, rfl⟩]) (fun j hj => absurd hj (Nat.not_lt_zero j))
  refine ⟨μ2, ?_, (F1.wide (fun k j x => Or.inl x)).tr F2, R2, V2⟩
  simp only [f_X12_laysHeard, C.v133, o_bind, o_call, z_lit, p3, Nat.reduceAdd, o_PI C.s133]
  exact e2
theorem MH.kmh {μ μ' : dtM} {A : aH} (H : MH μ 0 0 A) (F : Fr (fun k j => Pmw k j ∨ k = 144) μ μ') : MH μ' 0 0 A := H.keptAt F (fun _ _ _ _ => by show ¬ ((_ ∨ _) ∨ _); omega) (fun _ _ _ => by show ¬ ((_ ∨ _) ∨ _); omega)
theorem mu2 {A : aH} {w m : Nat} {row : Nat → Nat} (hw : w < hs A 2) (hm : m + ht A 3 w ≤ 24) : ∀ (n f i : Nat) (μ : dtM), i + n = ht A 3 w → n < f → MH μ 0 0 A → CX μ → mRw μ (m + i) (apw A row m w) → ∃ μ', f_X12_utters_2 f 133 (Int32.ofNat w) (Int32.ofNat i) μ = some μ' ∧ Fr Pmw μ μ' ∧ mRw μ' (m + ht A 3 w) (apw A row m w) := by
  intro n
  induction n with
  | zero =>
    intro f i μ e hf H C R
    cases f with
    | zero => omega
    | succ f =>
      simp (disch := omega) only [f_X12_utters_2, C.g133_0, f_wordRow, H.w3 hw, o_bind, o_call, z_le]
      rw [if_pos (by omega)]
      have : i = ht A 3 w := by omega
      exact ⟨μ, rfl, Fr.rf, by rw [← this]; exact R⟩
  | succ n ih =>
    intro f i μ e hf H C R
    have h4 := (H.word hw).2.2 i (by omega)
    cases f with
    | zero => omega
    | succ f =>
      have er : apw A row m w (m + i) = ht A (4 + i) w := by
        unfold apw
        rw [if_neg (by omega), show m + i - m = i by omega]
      have F1 : Fr Pmw μ (dtSI μ 143 (m + i) (Int32.ofNat (ht A (4 + i) w))) := Fr.SI (Or.inr rfl)
      have C1 := C.kept F1
      have x : opGI 12 27 (dtSI μ 143 (m + i) (Int32.ofNat (ht A (4 + i) w))) 133 = some (Int32.ofNat (m + i)) := by
        rw [o_GI C1.s133, m_I_SI, if_neg (by omega)]
        exact congrArg some R.2.2.1
      have F2 : Fr Pmw μ (dtSI (dtSI μ 143 (m + i) (Int32.ofNat (ht A (4 + i) w))) 133 27 (Int32.ofNat (m + i + 1))) := F1.tr (Fr.SI (Or.inl ⟨rfl, rfl⟩))
      obtain ⟨μ2, e2, F3, R2⟩ := ih f (i + 1) _ (by omega) (by omega) (H.kmw F2) (C.kept F2) ⟨by omega, fun j hj => by
        by_cases q : j = m + i
        · rw [q, er]; exact h4
        · exact R.2.1 j (by omega), by rw [m_I_SI, if_pos ⟨rfl, rfl⟩]; rfl, fun j hj => by
        rw [m_I_SI, if_neg (by omega)]
        exact lv_put R.2.2.2 er j (by omega)⟩
      refine ⟨μ2, ?_, F2.tr F3, R2⟩
      rw [← e2]
      simp (disch := omega) only [f_X12_utters_2, C.g133_0, C.g133_25, f_wordRow, H.w3 hw, o_bind, o_call, z_le, R.m C, z_lit, z_add, H.w4 hw (show i < ht A 3 w by omega), o_SI C.s143 (show m + i < 24 by omega) (by decide), x, o_PI C1.s133]
      rw [if_neg (by omega)]
theorem MH.utters {μ : dtM} {A : aH} (H : MH μ 0 0 A) (C : CX μ) {w m : Nat} {row : Nat → Nat} (R : mRw μ m row) (hw : w < hs A 2) (hm : m + ht A 3 w ≤ 24) : ∃ μ', f_X12_utters 133 (Int32.ofNat w) μ = some μ' ∧ Fr Pmw μ μ' ∧ mRw μ' (m + ht A 3 w) (apw A row m w) := by
  rw [f_X12_utters, z_lit]
  exact mu2 hw hm (ht A 3 w) dtFuel 0 μ (by omega) (dtFuel_gt (by omega)) H C (by rw [Nat.add_zero]; exact R.cg (fun j hj => (if_pos hj).symm))
theorem P5w.s {w : aW} {k j : Nat} (h : P5w k j) : ScP w k j := by
  have h' : (k = 124 ∧ j = 1) ∨ k = 125 := h
  unfold ScP; omega
theorem P126.s {w : aW} {k j : Nat} (h : P126 k j) : ScP w k j := by
  have h' : k = 126 := h
  unfold ScP; omega
theorem Pmw.s {k j : Nat} (h : Pmw k j) : ScM k j := by
  have h' : (k = 133 ∧ j = 27) ∨ k = 143 := h
  unfold ScM; omega
theorem P144.s {k j : Nat} (h : P144 k j) : ScM k j := by
  have h' : k = 144 := h
  unfold ScM; omega
theorem MH.fi33 {μ : dtM} {A : aH} (H : MH μ 0 0 A) (C : CX μ) {p m : Nat} {row : Nat → Nat} (hp : p < hs A 3) (R : mRw μ m row) (hm : m ≤ 8) (V : AV μ 144 0 m (rc A (ht A 10 p) row m)) : ∀ (n f at0 acc : Nat), m - at0 ≤ n → n < f → at0 ≤ m → ¬ rc A (ht A 10 p) row m at0 = 0 → f_X12_first_33 f 133 (Int32.ofNat p) (Int32.ofNat acc) (Int32.ofNat at0) μ = some (Int32.ofNat (acc + wfN A (ht A 10 p) row m n at0), dtSI μ 133 2 (Int32.ofNat 0)) := by
  have hnw := H.nw
  have h10 := (H.pers hp).2.2.1
  have h2 : 2 ^ hs A 2 ≤ 128 := Nat.pow_le_pow_right (n := 2) (by decide) hnw
  have p2 : f_X12_personOf 133 (Int32.ofNat p) (Int32.ofNat 2) μ = some (Int32.ofNat (ht A 10 p), μ) := H.personOf (k := 2) (by decide) hp
  intro n
  induction n with
  | zero =>
    intro f at0 acc e hf ha hr
    cases f with
    | zero => omega
    | succ f =>
      simp (disch := omega) only [f_X12_first_33, R.m C, o_bind, o_call, z_le, C.v133, n_gives C]
      rw [if_pos (by omega)]; rfl
  | succ n ih =>
    intro f at0 acc e hf ha hr
    cases f with
    | zero => omega
    | succ f =>
      rw [wfN]
      by_cases q : m ≤ at0
      · simp (disch := omega) only [f_X12_first_33, R.m C, o_bind, o_call, z_le, C.v133, n_gives C]
        rw [if_pos q, if_pos q]; rfl
      · obtain ⟨a, b⟩ := fw_ok H.2.2 (kn := ht A 10 p) (row := row) (show at0 < m by omega) hr
        obtain ⟨n1, n2, n3⟩ := nxw_ok H.2.2 (kn := ht A 10 p) (row := row) (show at0 < m by omega) hr
        have fw1 := H.firstWord C (show ht A 10 p < 128 by omega) R hm V (show at0 < m by omega) hr
        rw [f_X12_first_33, R.m C, o_bind, if_neg (show ¬ Int32.ofNat m ≤ Int32.ofNat at0 by rw [z_le (by omega) (by omega)]; exact q), if_neg q]
        rw [C.g133_0, o_bind, C.v133, o_bind, show (2 : Int32) = Int32.ofNat 2 from rfl, p2, o_call, C.v133, o_bind, fw1, o_call, f_wordRow, o_call, H.w3 a, o_bind, o_bind, show (1 : Int32) = Int32.ofNat 1 from rfl, z_add, z_add]
        have hx := ih f (nxw A (ht A 10 p) row m at0) (acc + 1) (by omega) (by omega) n2 n3
        rw [Nat.add_assoc] at hx
        exact hx
theorem MH.fi38 {μ : dtM} {A : aH} (H : MH μ 0 0 A) (C : CX μ) {p m K : Nat} {row : Nat → Nat} (hp : p < hs A 3) (R : mRw μ m row) (hm : m ≤ 8) (V : AV μ 144 0 m (rc A (ht A 10 p) row m)) (hK : K < 2147483648) : ∀ (n f k i at0 : Nat), i + k = K → i + n ≤ 8 → m - at0 ≤ n → n < f → at0 ≤ m → ¬ rc A (ht A 10 p) row m at0 = 0 → f_X12_firstAt_38 f 133 (Int32.ofNat p) (Int32.ofNat K) (Int32.ofNat at0) (Int32.ofNat i) μ = some (oN (waF A (ht A 10 p) row m n k at0), dtSI μ 133 2 (oS (waF A (ht A 10 p) row m n k at0))) := by
  have hnw := H.nw
  have h10 := (H.pers hp).2.2.1
  have h2 : 2 ^ hs A 2 ≤ 128 := Nat.pow_le_pow_right (n := 2) (by decide) hnw
  have p2 : f_X12_personOf 133 (Int32.ofNat p) (Int32.ofNat 2) μ = some (Int32.ofNat (ht A 10 p), μ) := H.personOf (k := 2) (by decide) hp
  intro n
  induction n with
  | zero =>
    intro f k i at0 e hi he hf ha hr
    cases f with
    | zero => omega
    | succ f =>
      simp (disch := omega) only [f_X12_firstAt_38, R.m C, o_bind, o_call, z_le, z_lit, C.v133, n_refuse C]
      rw [if_pos (by omega)]; rfl
  | succ n ih =>
    intro f k i at0 e hi he hf ha hr
    cases f with
    | zero => omega
    | succ f =>
      rw [waF]
      by_cases q : m ≤ at0
      · simp (disch := omega) only [f_X12_firstAt_38, R.m C, o_bind, o_call, z_le, z_lit, C.v133, n_refuse C]
        rw [if_pos q, if_pos q]; rfl
      · obtain ⟨a, b⟩ := fw_ok H.2.2 (kn := ht A 10 p) (row := row) (show at0 < m by omega) hr
        obtain ⟨n1, n2, n3⟩ := nxw_ok H.2.2 (kn := ht A 10 p) (row := row) (show at0 < m by omega) hr
        rw [if_neg q]
        have fw1 := H.firstWord C (show ht A 10 p < 128 by omega) R hm V (show at0 < m by omega) hr
        simp (disch := omega) only [f_X12_firstAt_38, R.m C, o_bind, o_call, z_le, C.v133, C.g133_0, z_lit, p2, fw1, f_wordRow, H.w3 a, z_add, z_eq, n_gives C]
        rw [if_neg q]
        by_cases q2 : k = 0
        · rw [if_pos (by omega), if_pos q2]; rfl
        · rw [if_neg (by omega), if_neg q2]
          exact ih f (k - 1) (i + 1) (nxw A (ht A 10 p) row m at0) (by omega) (by omega) (by omega) (by omega) n2 n3
theorem cs32 {μ : dtM} {w : aW} {f : aF} {A : aH} {z : aZ} (HP : RP μ w f A z) (HM : RM μ f A z) (W : dWF A (zD z)) (x : Int32) : both (f_X11_readings 0 x) (f_X12_readings 133 x) μ := by
  have C := HP.c
  have HH := HP.ph
  have g5 := HP.g5
  have hnr := HH.nr
  have hnd := HH.nd
  have hnw := HH.nw
  have hnp := HH.np
  cases hq : inR x (hs A 3)
  · refine both.no HP HM W (-Int32.ofNat 1) (Int32.ofNat 1) ?_ (fun μ1 R1 => ?_)
    · simp only [f_X11_readings, g5, C.v0, HH.rv, HH.hasPerson, hq, p_fail C, o_bind, o_call, z_lit, b0, o_ret0', o_ret1', o_bI, Bool.true_eq_false, Bool.false_eq_true, eq_self, if_true, if_false]
    · have C1 := R1.c
      have M1 := R1.mh
      simp only [f_X12_readings, f_X12_readings_25, C1.v133, M1.r0, M1.isPerson, hq, n_refuse C1, o_bind, o_call, z_lit, b0, o_ret0', o_ret1', o_bI, Bool.true_eq_false, Bool.false_eq_true, eq_self, if_true, if_false]
  · obtain ⟨p, hp, rfl⟩ := inR_t (by omega) hq
    have h8 := (HH.pers hp).2.2.2.1
    have h10 := (HH.pers hp).2.2.1
    have h2 : 2 ^ hs A 2 ≤ 128 := Nat.pow_le_pow_right (n := 2) (by decide) hnw
    refine both.out HP HM W (v := Int32.ofNat (rc A (ht A 10 p) (rwH A p) (ht A 11 p) 0)) (st := Int32.ofNat 0) ?_ (fun μ1 R1 => ?_)
    · obtain ⟨μ2, e2, F2, R2⟩ := HH.loadHeard HP.hh C hp
      have C2 := C.kept F2
      have H2 := HH.k5w HP.hh F2
      have g5' : opGR 11 5 μ2 0 = some w.1 := o_GR C2.s0 (by rw [F2.Ra]; exact HP.2.1.2.1)
      obtain ⟨μ3, e3, F3, _⟩ := H2.countReadings HP.hh C2 (kn := ht A 10 p) (by omega) R2
      have C3 := C2.kept F3
      refine ⟨μ3, ?_, (F2.wide (fun k j x => P5w.s x)).tr (F3.wide (fun k j x => P126.s x))⟩
      simp only [f_X11_readings, g5, C.v0, HH.rv, HH.hasPerson, hq, C.g0_15, o_Rv C.s124, e2, C2.g0_15, g5', H2.r16, H2.l10 hp, o_Rv C2.s124, e3, C3.v0, p_ans C3, o_bind, o_call, z_lit, b0, o_ret0', o_ret1', o_bI, Bool.true_eq_false, Bool.false_eq_true, eq_self, if_true, if_false]
    · have C1 := R1.c
      have M1 := R1.mh
      obtain ⟨μ2, e2, F2, _, _⟩ := M1.laysHeard C1 hp
      have C2 := C1.kept F2
      refine ⟨μ2, ?_, F2.wide (fun k j x => x.elim Pmw.s P144.s)⟩
      simp only [f_X12_readings, f_X12_readings_25, C1.v133, M1.isPerson, hq, e2, C2.v133, n_gives C2, o_bind, o_call, z_lit, b0, o_ret0', o_ret1', o_bI, Bool.true_eq_false, Bool.false_eq_true, eq_self, if_true, if_false]
theorem cs33 {μ : dtM} {w : aW} {f : aF} {A : aH} {z : aZ} (HP : RP μ w f A z) (HM : RM μ f A z) (W : dWF A (zD z)) (x : Int32) : both (f_X11_first 0 x) (f_X12_first 133 x) μ := by
  have C := HP.c
  have HH := HP.ph
  have g5 := HP.g5
  have hnr := HH.nr
  have hnd := HH.nd
  have hnw := HH.nw
  have hnp := HH.np
  cases hq : inR x (hs A 3)
  · refine both.no HP HM W (-Int32.ofNat 1) (Int32.ofNat 1) ?_ (fun μ1 R1 => ?_)
    · simp only [f_X11_first, g5, C.v0, HH.rv, HH.hasPerson, hq, p_fail C, o_bind, o_call, z_lit, b0, o_ret0', o_ret1', o_bI, Bool.true_eq_false, Bool.false_eq_true, eq_self, if_true, if_false]
    · have C1 := R1.c
      have M1 := R1.mh
      simp only [f_X12_first, C1.v133, M1.r0, M1.isPerson, hq, n_refuse C1, o_bind, o_call, z_lit, b0, o_ret0', o_ret1', o_bI, Bool.true_eq_false, Bool.false_eq_true, eq_self, if_true, if_false]
  · obtain ⟨p, hp, rfl⟩ := inR_t (by omega) hq
    have h8 := (HH.pers hp).2.2.2.1
    have h10 := (HH.pers hp).2.2.1
    have h2 : 2 ^ hs A 2 ≤ 128 := Nat.pow_le_pow_right (n := 2) (by decide) hnw
    refine both.out HP HM W (v := oN (if rc A (ht A 10 p) (rwH A p) (ht A 11 p) 0 = 0 then none else some (wfN A (ht A 10 p) (rwH A p) (ht A 11 p) 8 0))) (st := oS (if rc A (ht A 10 p) (rwH A p) (ht A 11 p) 0 = 0 then none else some (wfN A (ht A 10 p) (rwH A p) (ht A 11 p) 8 0))) ?_ (fun μ1 R1 => ?_)
    · obtain ⟨μ2, e2, F2, R2⟩ := HH.loadHeard HP.hh C hp
      have C2 := C.kept F2
      have H2 := HH.k5w HP.hh F2
      have g5' : opGR 11 5 μ2 0 = some w.1 := o_GR C2.s0 (by rw [F2.Ra]; exact HP.2.1.2.1)
      obtain ⟨μ3, e3, F3, _⟩ := H2.wordsOfFirst HP.hh C2 (kn := ht A 10 p) (by omega) R2 h8
      have C3 := C2.kept F3
      have w8 := wfN_le (A := A) (kn := ht A 10 p) (m := ht A 11 p) (row := rwH A p) 8 0
      have hv : ∀ v, (if rc A (ht A 10 p) (rwH A p) (ht A 11 p) 0 = 0 then none else some (wfN A (ht A 10 p) (rwH A p) (ht A 11 p) 8 0)) = some v → v < 2147483648 := fun v e => by
        by_cases q : rc A (ht A 10 p) (rwH A p) (ht A 11 p) 0 = 0
        · rw [if_pos q] at e; cases e
        · rw [if_neg q] at e; cases e; omega
      refine ⟨μ3, ?_, (F2.wide (fun k j x => P5w.s x)).tr (F3.wide (fun k j x => P126.s x))⟩
      simp only [f_X11_first, g5, C.v0, HH.rv, HH.hasPerson, hq, C.g0_15, o_Rv C.s124, e2, C2.g0_15, g5', H2.r16, H2.l10 hp, o_Rv C2.s124, e3, C3.v0, p_found C3 hv, o_bind, o_call, z_lit, b0, o_ret0', o_ret1', o_bI, Bool.true_eq_false, Bool.false_eq_true, eq_self, if_true, if_false]
    · have C1 := R1.c
      have M1 := R1.mh
      obtain ⟨μ2, e2, F2, R2, V2⟩ := M1.laysHeard C1 hp
      have C2 := C1.kept F2
      have M2 := M1.kmh F2
      have r8 := rc_8 HH.2.2 (kn := ht A 10 p) (row := rwH A p) h8 (Nat.zero_le _)
      refine ⟨μ2, ?_, F2.wide (fun k j x => x.elim Pmw.s P144.s)⟩
      simp only [f_X12_first, C1.v133, M1.isPerson, hq, e2, C2.v133, n_refuse C2, z_eq (show rc A (ht A 10 p) (rwH A p) (ht A 11 p) 0 < 2147483648 by omega) (show 0 < 2147483648 by decide), o_bind, o_call, z_lit, b0, o_ret0', o_ret1', o_bI, Bool.true_eq_false, Bool.false_eq_true, eq_self, if_true, if_false]
      by_cases q : rc A (ht A 10 p) (rwH A p) (ht A 11 p) 0 = 0
      · rw [if_pos q, if_pos q]; rfl
      · rw [if_neg q, if_neg q, M2.fi33 C2 hp R2 h8 V2 8 dtFuel 0 0 (by omega) (dtFuel_gt (by decide)) (Nat.zero_le _) q, Nat.zero_add]; rfl
theorem waF_lt {A : aH} (W : hWF A) {kn m : Nat} {row : Nat → Nat} : ∀ (n k at0 v : Nat), ¬ rc A kn row m at0 = 0 → waF A kn row m n k at0 = some v → v < hs A 2
  | 0, _, _, _, _, h => by cases h
  | n + 1, k, at0, v, hr, h => by
    rw [waF] at h
    by_cases q : m ≤ at0
    · rw [if_pos q] at h; cases h
    · rw [if_neg q] at h
      by_cases q2 : k = 0
      · rw [if_pos q2] at h
        cases h
        exact (fw_ok W (by omega) hr).1
      · rw [if_neg q2] at h
        exact waF_lt W n (k - 1) _ v (nxw_ok W (by omega) hr).2.2 h
theorem woO_lt {A : aH} (W : hWF A) {kn m k v : Nat} {row : Nat → Nat} (h : woO A kn row m k = some v) : v < 7 := by
  have := W.1.2.2.1
  unfold woO at h
  by_cases q : rc A kn row m 0 = 0
  · rw [if_pos q] at h; cases h
  · rw [if_neg q] at h
    have := waF_lt W 8 k 0 v q h
    omega
theorem cs34 {μ : dtM} {w : aW} {f : aF} {A : aH} {z : aZ} (HP : RP μ w f A z) (HM : RM μ f A z) (W : dWF A (zD z)) (x y : Int32) : both (f_X11_firstAt 0 x y) (f_X12_firstAt 133 x y) μ := by
  have C := HP.c
  have HH := HP.ph
  have g5 := HP.g5
  have hnr := HH.nr
  have hnd := HH.nd
  have hnw := HH.nw
  have hnp := HH.np
  cases hq : inR x (hs A 3)
  · refine both.no HP HM W (-Int32.ofNat 1) (Int32.ofNat 1) ?_ (fun μ1 R1 => ?_)
    · simp only [f_X11_firstAt, f_X11_firstAt_15, g5, C.v0, HH.rv, HH.hasPerson, hq, p_fail C, o_bind, o_call, z_lit, b0, o_ret0', o_ret1', o_bI, Bool.true_eq_false, Bool.false_eq_true, eq_self, if_true, if_false]
    · have C1 := R1.c
      have M1 := R1.mh
      simp only [f_X12_firstAt, f_X12_firstAt_12, C1.v133, M1.r0, M1.isPerson, hq, n_refuse C1, o_bind, o_call, z_lit, b0, o_ret0', o_ret1', o_bI, Bool.true_eq_false, Bool.false_eq_true, eq_self, if_true, if_false]
  · obtain ⟨p, hp, rfl⟩ := inR_t (by omega) hq
    have h8 := (HH.pers hp).2.2.2.1
    have h10 := (HH.pers hp).2.2.1
    have h2 : 2 ^ hs A 2 ≤ 128 := Nat.pow_le_pow_right (n := 2) (by decide) hnw
    rcases z_cases y with hy | ⟨k, hk, rfl⟩
    · refine both.no HP HM W (-Int32.ofNat 1) (Int32.ofNat 1) ?_ (fun μ1 R1 => ?_)
      · simp only [f_X11_firstAt, f_X11_firstAt_15, g5, C.v0, HH.rv, HH.hasPerson, hq, z_le0n hy, p_fail C, o_bind, o_call, z_lit, b0, o_ret0', o_ret1', o_bI, Bool.true_eq_false, Bool.false_eq_true, eq_self, if_true, if_false]
      · have C1 := R1.c
        have M1 := R1.mh
        simp only [f_X12_firstAt, f_X12_firstAt_12, C1.v133, M1.r0, M1.isPerson, hq, z_le0n hy, n_refuse C1, o_bind, o_call, z_lit, b0, o_ret0', o_ret1', o_bI, Bool.true_eq_false, Bool.false_eq_true, eq_self, if_true, if_false]
    · refine both.out HP HM W (v := oN (woO A (ht A 10 p) (rwH A p) (ht A 11 p) k)) (st := oS (woO A (ht A 10 p) (rwH A p) (ht A 11 p) k)) ?_ (fun μ1 R1 => ?_)
      · obtain ⟨μ2, e2, F2, R2⟩ := HH.loadHeard HP.hh C hp
        have C2 := C.kept F2
        have H2 := HH.k5w HP.hh F2
        have g5' : opGR 11 5 μ2 0 = some w.1 := o_GR C2.s0 (by rw [F2.Ra]; exact HP.2.1.2.1)
        obtain ⟨μ3, e3, F3⟩ := H2.wordOfFirst HP.hh C2 (kn := ht A 10 p) (by omega) R2 h8 hk
        have C3 := C2.kept F3
        have hv : ∀ v, woO A (ht A 10 p) (rwH A p) (ht A 11 p) k = some v → v < 2147483648 := fun v e => by have := woO_lt HH.2.2 e; omega
        refine ⟨μ3, ?_, (F2.wide (fun k j x => P5w.s x)).tr (F3.wide (fun k j x => P126.s x))⟩
        simp only [f_X11_firstAt, g5, C.v0, HH.rv, HH.hasPerson, hq, z_le0 hk, C.g0_15, o_Rv C.s124, e2, C2.g0_15, g5', H2.r16, H2.l10 hp, o_Rv C2.s124, e3, C3.v0, p_found C3 hv, o_bind, o_call, z_lit, b0, o_ret0', o_ret1', o_bI, Bool.true_eq_false, Bool.false_eq_true, eq_self, if_true, if_false]
      · have C1 := R1.c
        have M1 := R1.mh
        obtain ⟨μ2, e2, F2, R2, V2⟩ := M1.laysHeard C1 hp
        have C2 := C1.kept F2
        have M2 := M1.kmh F2
        have r8 := rc_8 HH.2.2 (kn := ht A 10 p) (row := rwH A p) h8 (Nat.zero_le _)
        refine ⟨μ2, ?_, F2.wide (fun k j x => x.elim Pmw.s P144.s)⟩
        simp only [f_X12_firstAt, C1.v133, M1.isPerson, hq, z_le0 hk, e2, C2.v133, n_refuse C2, z_eq (show rc A (ht A 10 p) (rwH A p) (ht A 11 p) 0 < 2147483648 by omega) (show 0 < 2147483648 by decide), o_bind, o_call, z_lit, b0, o_ret0', o_ret1', o_bI, Bool.true_eq_false, Bool.false_eq_true, eq_self, if_true, if_false]
        unfold woO
        by_cases q : rc A (ht A 10 p) (rwH A p) (ht A 11 p) 0 = 0
        · rw [if_pos q, if_pos q]; rfl
        · rw [if_neg q, if_neg q, M2.fi38 C2 hp R2 h8 V2 hk 8 dtFuel k 0 0 (by omega) (by decide) (by omega) (dtFuel_gt (by decide)) (Nat.zero_le _) q]
