/-! PURE 47: readings, both sides -/
def AV (μ : dtM) (k lo m : Nat) (g : Nat → Nat) : Prop := ∀ j, lo ≤ j → j ≤ m → dtI μ k j = Int32.ofNat (g j)
theorem AV.get {μ : dtM} {k lo m N j : Nat} {g : Nat → Nat} (h : AV μ k lo m g) (hs : dtS μ k = (1, N)) (hN : N < 2147483648) (hm : m < N) (h1 : lo ≤ j) (h2 : j ≤ m) : opLI 1 μ k (Int32.ofNat j) = some (Int32.ofNat (g j)) := by
  rw [o_LI hs (by omega) hN, h j h1 h2]
theorem AV.SI {μ : dtM} {k lo m j v : Nat} {g : Nat → Nat} (h : AV μ k lo m g) : AV (dtSI μ k j (Int32.ofNat v)) k lo m (dtUp g j v) := by
  intro i h1 h2
  rw [m_I_SI]
  show _ = Int32.ofNat (if i = j then v else g i)
  by_cases q : i = j
  · rw [if_pos ⟨rfl, q⟩, if_pos q]
  · rw [if_neg (fun x => q x.2), if_neg q]; exact h i h1 h2
def agr (A : aH) (row : Nat → Nat) (w at0 : Nat) : Nat → Nat → Bool
  | 0, _ => true
  | n + 1, k => if row (at0 + k) = ht A (4 + k) w then agr A row w at0 n (k + 1) else false
def fit (A : aH) (row : Nat → Nat) (m w at0 : Nat) : Bool := decide (at0 + ht A 3 w ≤ m) && agr A row w at0 (ht A 3 w) 0
def rcW (A : aH) (kn : Nat) (row : Nat → Nat) (m at0 : Nat) (g : Nat → Nat) (w acc : Nat) : Nat := if kn.testBit w = true ∧ fit A row m w at0 = true then acc + g (at0 + ht A 3 w) else acc
def rcS (A : aH) (kn : Nat) (row : Nat → Nat) (m at0 : Nat) (g : Nat → Nat) : Nat → Nat := dtUp g at0 (fo (rcW A kn row m at0 g) (hs A 2) 0 0)
def rcN (A : aH) (kn : Nat) (row : Nat → Nat) (m : Nat) : Nat → (Nat → Nat) → Nat → Nat
  | 0, g => g
  | k + 1, g => rcN A kn row m k (rcS A kn row m k g)
def rc0 (m j : Nat) : Nat := if j = m then 1 else 0
def rc (A : aH) (kn : Nat) (row : Nat → Nat) (m : Nat) : Nat → Nat := rcN A kn row m m (rc0 m)
def rB (row : Nat → Nat) (m : Nat) : Prop := ∀ j, j < m → row j < 4
/-! the program -/
def pRw (μ : dtM) (m : Nat) (row : Nat → Nat) : Prop := m ≤ 24 ∧ rB row m ∧ dtI μ 124 1 = Int32.ofNat m ∧ LV μ 125 m row
abbrev P126 : Nat → Nat → Prop := fun k _ => k = 126
theorem PH.k126 {μ μ' : dtM} {h : Nat} {A : aH} (H : PH μ h A) (hh : h + 12 < 123) (F : Fr P126 μ μ') : PH μ' h A := H.kept F (fun k _ q _ => by show ¬ k = 126; omega)
theorem pRw.kept {P : Nat → Nat → Prop} {μ μ' : dtM} {m : Nat} {row : Nat → Nat} (R : pRw μ m row) (F : Fr P μ μ') (h1 : ¬ P 124 1) (h2 : ∀ j, ¬ P 125 j) : pRw μ' m row :=
  ⟨R.1, R.2.1, by rw [F.i h1]; exact R.2.2.1, fun j hj => by rw [F.i (h2 _)]; exact R.2.2.2 j hj⟩
theorem pRw.k126 {μ μ' : dtM} {m : Nat} {row : Nat → Nat} (R : pRw μ m row) (F : Fr P126 μ μ') : pRw μ' m row := R.kept F (by decide) (fun _ => show ¬ 125 = 126 by decide)
theorem pRw.l {μ : dtM} {m j : Nat} {row : Nat → Nat} (R : pRw μ m row) (C : CX μ) (hj : j < m) : opLI 1 μ 125 (Int32.ofNat j) = some (Int32.ofNat (row j)) := R.2.2.2.getN C.s125 (by decide) hj R.1
theorem pRw.m {μ : dtM} {m : Nat} {row : Nat → Nat} (R : pRw μ m row) (C : CX μ) : opGI 5 1 μ 124 = some (Int32.ofNat m) := by rw [o_GI C.s124, R.2.2.1]
theorem PH.ag3 {μ : dtM} {h : Nat} {A : aH} (H : PH μ h A) (C : CX μ) {m w at0 L : Nat} {row : Nat → Nat} (R : pRw μ m row) (hw : w < hs A 2) (hL : L ≤ ht A 3 w) (ha : at0 + L ≤ m) : ∀ (n f k : Nat), k + n = L → n < f → f_X5_agrees_3 f 124 h (Int32.ofNat w) (Int32.ofNat at0) (Int32.ofNat L) (Int32.ofNat k) μ = some (bI (agr A row w at0 n k), μ) := by
  have hm := R.1
  have hl4 := (H.word hw).2.1
  intro n
  induction n with
  | zero =>
    intro f k e hf
    cases f with
    | zero => omega
    | succ f =>
      simp (disch := omega) only [f_X5_agrees_3, z_le, z_lit, o_ret1']
      rw [if_pos (by omega)]; rfl
  | succ n ih =>
    intro f k e hf
    cases f with
    | zero => omega
    | succ f =>
      have r4 := R.2.1 (at0 + k) (by omega)
      have s4 := (H.word hw).2.2 k (by omega)
      simp (disch := omega) only [f_X5_agrees_3, z_le, z_lit, C.g124_0, o_bind, o_call, z_add, R.l C (show at0 + k < m by omega), H.rv, H.soundOfWord hw (show k < ht A 3 w by omega), z_eq, o_ret0']
      rw [if_neg (by omega), agr]
      by_cases q : row (at0 + k) = ht A (4 + k) w
      · rw [if_pos q, if_pos q]
        exact ih f (k + 1) (by omega) (by omega)
      · rw [if_neg q, if_neg q]
theorem PH.agrees {μ : dtM} {h : Nat} {A : aH} (H : PH μ h A) (C : CX μ) {m w at0 L : Nat} {row : Nat → Nat} (R : pRw μ m row) (hw : w < hs A 2) (hL : L ≤ ht A 3 w) (ha : at0 + L ≤ m) : f_X5_agrees 124 h (Int32.ofNat w) (Int32.ofNat at0) (Int32.ofNat L) μ = some (bI (agr A row w at0 L 0), μ) := by
  have hl4 := (H.word hw).2.1
  rw [f_X5_agrees, z_lit]
  exact H.ag3 C R hw hL ha L dtFuel 0 (by omega) (dtFuel_gt (by omega))
theorem PH.fits {μ : dtM} {h : Nat} {A : aH} (H : PH μ h A) (C : CX μ) {m w at0 : Nat} {row : Nat → Nat} (R : pRw μ m row) (hw : w < hs A 2) (ha : at0 ≤ 24) : f_X5_fits 124 h (Int32.ofNat w) (Int32.ofNat at0) μ = some (bI (fit A row m w at0), μ) := by
  have hm := R.1
  have hl4 := (H.word hw).2.1
  simp (disch := omega) only [f_X5_fits, f_X5_fits_39, f_X5_fits_40, H.r12, H.l3 hw, o_bind, z_lit, R.m C, z_add, z_lt, o_Rv C.s124, o_ret0', o_ret1']
  rw [if_neg (Nat.not_lt_zero _)]
  unfold fit
  by_cases q : at0 + ht A 3 w ≤ m
  · rw [if_neg (by omega), H.agrees C R hw (Nat.le_refl _) q, o_call, decide_eq_true q]
    simp only [b0]
    cases agr A row w at0 (ht A 3 w) 0
    · rw [if_pos rfl]; rfl
    · rw [if_neg (by decide)]; rfl
  · rw [if_pos (by omega), decide_eq_false q]; rfl
theorem cr31 {k17 : Nat → Nat → Int32 → Int32 → dtM → Option (Int32 × dtM)} {h : Nat} {A : aH} (hh : h + 12 < 123) {kn m at0 : Nat} {row g : Nat → Nat} (hk : kn < 128) (ha : at0 < m) : ∀ (n f i acc : Nat) (μ : dtM), i + n = hs A 2 → n < f → PH μ h A → CX μ → pRw μ m row → AV μ 126 at0 m (dtUp g at0 acc) → ∃ μ', f_X5_countReadings_31 k17 f 124 h (Int32.ofNat kn) (Int32.ofNat at0) (Int32.ofNat i) μ = k17 124 h (Int32.ofNat kn) (zP at0) μ' ∧ Fr P126 μ μ' ∧ AV μ' 126 at0 m (dtUp g at0 (fo (rcW A kn row m at0 g) n i acc)) := by
  intro n
  induction n with
  | zero =>
    intro f i acc μ e hf H C R V
    have hnw := H.nw
    cases f with
    | zero => omega
    | succ f =>
      simp (disch := omega) only [f_X5_countReadings_31, H.g2, o_bind, z_lit, z_le, z_dec]
      rw [if_pos (by omega)]
      exact ⟨μ, rfl, Fr.rf, V⟩
  | succ n ih =>
    intro f i acc μ e hf H C R V
    have hnw := H.nw
    have hm := R.1
    cases f with
    | zero => omega
    | succ f =>
      have hi : i < hs A 2 := by omega
      have hl1 := (H.word hi).1
      have hl4 := (H.word hi).2.1
      obtain ⟨μs, es, Fs, Vs⟩ := ih f (i + 1) acc μ (by omega) (by omega) H C R V
      rw [fo]
      have base : ∀ X : Prop, X → X := fun _ x => x
      by_cases q : kn.testBit i = true ∧ fit A row m i at0 = true
      · have hle : at0 + ht A 3 i ≤ m := by
          have := q.2
          unfold fit at this
          rw [Bool.and_eq_true, decide_eq_true_iff] at this
          exact this.1
        have x1 := V.get C.s126 (by decide) (by omega) (Nat.le_refl at0) (by omega)
        have x2 := V.get C.s126 (j := at0 + ht A 3 i) (by decide) (by omega) (by omega) hle
        rw [show dtUp g at0 acc at0 = acc from if_pos rfl] at x1
        rw [show dtUp g at0 acc (at0 + ht A 3 i) = g (at0 + ht A 3 i) from if_neg (by omega)] at x2
        have F1 : Fr P126 μ (dtSI μ 126 at0 (Int32.ofNat (acc + g (at0 + ht A 3 i)))) := Fr.SI rfl
        have V1 : AV (dtSI μ 126 at0 (Int32.ofNat (acc + g (at0 + ht A 3 i)))) 126 at0 m (dtUp g at0 (acc + g (at0 + ht A 3 i))) := by
          have := V.SI (j := at0) (v := acc + g (at0 + ht A 3 i))
          intro j j1 j2
          rw [this j j1 j2]
          show Int32.ofNat (if j = at0 then _ else (if j = at0 then _ else _)) = Int32.ofNat (if j = at0 then _ else _)
          by_cases y : j = at0
          · rw [if_pos y, if_pos y]
          · rw [if_neg y, if_neg y, if_neg y]
        obtain ⟨μ2, e2, F2, V2⟩ := ih f (i + 1) _ _ (by omega) (by omega) (H.k126 hh F1) (C.kept F1) (R.k126 F1) V1
        refine ⟨μ2, ?_, F1.tr F2, ?_⟩
        · rw [← e2]
          simp (disch := omega) only [f_X5_countReadings_31, f_X5_countReadings_83, H.g2, o_bind, o_call, z_lit, z_le, f_contains, q.1, q.2, b0, Bool.true_eq_false, if_false, o_Rv C.s124, H.fits C R hi (show at0 ≤ 24 by omega), C.g124_2, x1, H.r12, H.l3 hi, z_add, x2, o_SI C.s126 (show at0 < 25 by omega) (by decide)]
          rw [if_neg (by omega)]
        · rw [show rcW A kn row m at0 g i acc = acc + g (at0 + ht A 3 i) from if_pos q]; exact V2
      · refine ⟨μs, ?_, Fs, ?_⟩
        · rw [← es]
          simp (disch := omega) only [f_X5_countReadings_31, f_X5_countReadings_83, H.g2, o_bind, o_call, z_lit, z_le, f_contains, b0, o_Rv C.s124, H.fits C R hi (show at0 ≤ 24 by omega), z_add]
          rw [if_neg (by omega)]
          cases q1 : kn.testBit i
          · rw [if_pos rfl]
          · rw [if_neg (by decide)]
            cases q2 : fit A row m i at0
            · rw [if_pos rfl]
            · exact absurd ⟨q1, q2⟩ q
        · rw [show rcW A kn row m at0 g i acc = acc from if_neg q]; exact Vs
theorem rcN_ge {A : aH} {kn : Nat} {row : Nat → Nat} {m : Nat} : ∀ (k : Nat) (g : Nat → Nat) (j : Nat), k ≤ j → rcN A kn row m k g j = g j
  | 0, _, _, _ => rfl
  | k + 1, g, j, h => by
    rw [rcN, rcN_ge k _ j (by omega)]
    exact if_neg (by omega)
theorem cr17 {h : Nat} {A : aH} (hh : h + 12 < 123) {kn m : Nat} {row : Nat → Nat} (hk : kn < 128) : ∀ (n f : Nat) (g : Nat → Nat) (μ : dtM), n ≤ m → n < f → PH μ h A → CX μ → pRw μ m row → AV μ 126 n m g → ∃ μ', f_X5_countReadings_17 f 124 h (Int32.ofNat kn) (zP n) μ = some (Int32.ofNat (rcN A kn row m n g 0), μ') ∧ Fr P126 μ μ' ∧ AV μ' 126 0 m (rcN A kn row m n g) := by
  intro n
  induction n with
  | zero =>
    intro f g μ hn hf H C R V
    have hm := R.1
    cases f with
    | zero => omega
    | succ f =>
      have x := V.get C.s126 (by decide) (by omega) (Nat.le_refl 0) (by omega)
      rw [f_X5_countReadings_17, if_pos (by decide)]
      simp only [C.g124_2, o_bind, z_lit, x]
      exact ⟨μ, rfl, Fr.rf, V⟩
  | succ n ih =>
    intro f g μ hn hf H C R V
    have hm := R.1
    have hnw := H.nw
    cases f with
    | zero => omega
    | succ f =>
      have F1 : Fr P126 μ (dtSI μ 126 n (Int32.ofNat 0)) := Fr.SI rfl
      have V1 : AV (dtSI μ 126 n (Int32.ofNat 0)) 126 n m (dtUp g n 0) := by
        intro j j1 j2
        rw [m_I_SI]
        show _ = Int32.ofNat (if j = n then 0 else g j)
        by_cases y : j = n
        · rw [if_pos ⟨rfl, y⟩, if_pos y]
        · rw [if_neg (fun x => y x.2), if_neg y]; exact V j (by omega) j2
      obtain ⟨μ1, e1, F2, V2⟩ := cr31 (k17 := f_X5_countReadings_17 f) hh hk (show n < m by omega) (hs A 2) dtFuel 0 0 _ (by omega) (dtFuel_gt (by omega)) (H.k126 hh F1) (C.kept F1) (R.k126 F1) V1
      have F12 := F1.tr F2
      obtain ⟨μ2, e2, F3, V3⟩ := ih f (rcS A kn row m n g) μ1 (by omega) (by omega) (H.k126 hh F12) (C.kept F12) (R.k126 F12) V2
      refine ⟨μ2, ?_, F12.tr F3, V3⟩
      rw [rcN, ← e2, zP_s, f_X5_countReadings_17, if_neg (by rw [z_lit, z_lt (by omega) (by decide)]; omega)]
      simp only [C.g124_2, o_bind, z_lit, o_SI C.s126 (show n < 25 by omega) (by decide)]
      exact e1
theorem PH.countReadings {μ : dtM} {h : Nat} {A : aH} (H : PH μ h A) (hh : h + 12 < 123) (C : CX μ) {kn m : Nat} {row : Nat → Nat} (hk : kn < 128) (R : pRw μ m row) : ∃ μ', f_X5_countReadings 124 h (Int32.ofNat kn) μ = some (Int32.ofNat (rc A kn row m 0), μ') ∧ Fr P126 μ μ' ∧ AV μ' 126 0 m (rc A kn row m) := by
  have hm := R.1
  have F1 : Fr P126 μ (dtSI μ 126 m (Int32.ofNat 1)) := Fr.SI rfl
  have C1 := C.kept F1
  have V1 : AV (dtSI μ 126 m (Int32.ofNat 1)) 126 m m (rc0 m) := by
    intro j j1 j2
    have : j = m := by omega
    subst this
    rw [m_I_SI, if_pos ⟨rfl, rfl⟩, rc0, if_pos rfl]
  obtain ⟨μ2, e2, F2, V2⟩ := cr17 hh hk m dtFuel (rc0 m) _ (Nat.le_refl _) (dtFuel_gt (by omega)) (H.k126 hh F1) C1 (R.k126 F1) V1
  refine ⟨μ2, ?_, F1.tr F2, V2⟩
  simp only [f_X5_countReadings, C.g124_2, o_bind, R.m C, z_lit, o_SI C.s126 (show m < 25 by omega) (by decide), (R.k126 F1).m C1, z_dec']
  exact e2
/-! the model -/
def mRw (μ : dtM) (m : Nat) (row : Nat → Nat) : Prop := m ≤ 24 ∧ rB row m ∧ dtI μ 133 27 = Int32.ofNat m ∧ LV μ 143 m row
abbrev P144 : Nat → Nat → Prop := fun k _ => k = 144
theorem MH.k144 {μ μ' : dtM} {A : aH} (H : MH μ 0 0 A) (F : Fr P144 μ μ') : MH μ' 0 0 A := H.keptAt F (fun _ _ _ _ => show ¬ 134 = 144 by decide) (fun _ _ _ => show ¬ 135 = 144 by decide)
theorem mRw.kept {P : Nat → Nat → Prop} {μ μ' : dtM} {m : Nat} {row : Nat → Nat} (R : mRw μ m row) (F : Fr P μ μ') (h1 : ¬ P 133 27) (h2 : ∀ j, ¬ P 143 j) : mRw μ' m row :=
  ⟨R.1, R.2.1, by rw [F.i h1]; exact R.2.2.1, fun j hj => by rw [F.i (h2 _)]; exact R.2.2.2 j hj⟩
theorem mRw.k144 {μ μ' : dtM} {m : Nat} {row : Nat → Nat} (R : mRw μ m row) (F : Fr P144 μ μ') : mRw μ' m row := R.kept F (by decide) (fun _ => show ¬ 143 = 144 by decide)
theorem mRw.l {μ : dtM} {m j : Nat} {row : Nat → Nat} (R : mRw μ m row) (C : CX μ) (hj : j < m) : opLI 1 μ 143 (Int32.ofNat j) = some (Int32.ofNat (row j)) := R.2.2.2.getN C.s143 (by decide) hj R.1
theorem mRw.m {μ : dtM} {m : Nat} {row : Nat → Nat} (R : mRw μ m row) (C : CX μ) : opGI 12 27 μ 133 = some (Int32.ofNat m) := by rw [o_GI C.s133, R.2.2.1]
theorem f_wordRow {w : Nat} {μ : dtM} : f_X12_wordRow (Int32.ofNat w) μ = some (Int32.ofNat (40 + 5 * w), μ) := by
  simp only [f_X12_wordRow, z_lit, z_mul, z_add]
theorem MH.is25 {μ : dtM} {A : aH} (H : MH μ 0 0 A) (C : CX μ) {m w at0 : Nat} {row : Nat → Nat} (R : mRw μ m row) (hw : w < hs A 2) (ha : at0 + ht A 3 w ≤ m) : ∀ (n f k : Nat), k + n = ht A 3 w → n < f → f_X12_isSaid_25 f 133 (Int32.ofNat w) (Int32.ofNat at0) (Int32.ofNat (ht A 3 w)) (Int32.ofNat k) μ = some (bI (agr A row w at0 n k), μ) := by
  have hm := R.1
  have hnw := H.nw
  have hl4 := (H.word hw).2.1
  intro n
  induction n with
  | zero =>
    intro f k e hf
    cases f with
    | zero => omega
    | succ f =>
      simp (disch := omega) only [f_X12_isSaid_25, z_le, z_lit, o_ret1']
      rw [if_pos (by omega)]; rfl
  | succ n ih =>
    intro f k e hf
    cases f with
    | zero => omega
    | succ f =>
      have r4 := R.2.1 (at0 + k) (by omega)
      have s4 := (H.word hw).2.2 k (by omega)
      simp (disch := omega) only [f_X12_isSaid_25, z_le, z_lit, C.g133_25, C.g133_0, o_bind, o_call, z_add, R.l C (show at0 + k < m by omega), f_wordRow, H.w4 hw (show k < ht A 3 w by omega), z_eq, o_ret0']
      rw [if_neg (by omega), agr]
      by_cases q : row (at0 + k) = ht A (4 + k) w
      · rw [if_pos q, if_pos q]
        exact ih f (k + 1) (by omega) (by omega)
      · rw [if_neg q, if_neg q]
theorem MH.isSaid {μ : dtM} {A : aH} (H : MH μ 0 0 A) (C : CX μ) {m w at0 : Nat} {row : Nat → Nat} (R : mRw μ m row) (hw : w < hs A 2) (ha : at0 ≤ 24) : f_X12_isSaid 133 (Int32.ofNat w) (Int32.ofNat at0) μ = some (bI (fit A row m w at0), μ) := by
  have hm := R.1
  have hl4 := (H.word hw).2.1
  simp (disch := omega) only [f_X12_isSaid, C.g133_0, f_wordRow, H.w3 hw, o_bind, o_call, z_lit, R.m C, z_add, z_le, o_ret0']
  unfold fit
  by_cases q : at0 + ht A 3 w ≤ m
  · rw [if_pos q, decide_eq_true q, H.is25 C R hw q (ht A 3 w) dtFuel 0 (by omega) (dtFuel_gt (by omega))]; rfl
  · rw [if_neg q, decide_eq_false q]; rfl
theorem lr30 {k17 : Nat → Int32 → Int32 → dtM → Option (Int32 × dtM)} {A : aH} {kn m at0 : Nat} {row g : Nat → Nat} (hk : kn < 128) (ha : at0 < m) : ∀ (n f i acc : Nat) (μ : dtM), i + n = hs A 2 → n < f → MH μ 0 0 A → CX μ → mRw μ m row → AV μ 144 at0 m (dtUp g at0 acc) → ∃ μ', f_X12_laysReadings_30 k17 f 133 (Int32.ofNat kn) (Int32.ofNat at0) (Int32.ofNat i) μ = k17 133 (Int32.ofNat kn) (zP at0) μ' ∧ Fr P144 μ μ' ∧ AV μ' 144 at0 m (dtUp g at0 (fo (rcW A kn row m at0 g) n i acc)) := by
  intro n
  induction n with
  | zero =>
    intro f i acc μ e hf H C R V
    have hnw := H.nw
    have g2 := H.gj (j := 2) (by decide)
    cases f with
    | zero => omega
    | succ f =>
      simp (disch := omega) only [f_X12_laysReadings_30, C.g133_0, g2, o_bind, z_lit, z_le, z_dec]
      rw [if_pos (by omega)]
      exact ⟨μ, rfl, Fr.rf, V⟩
  | succ n ih =>
    intro f i acc μ e hf H C R V
    have hnw := H.nw
    have hm := R.1
    have g2 := H.gj (j := 2) (by decide)
    cases f with
    | zero => omega
    | succ f =>
      have hi : i < hs A 2 := by omega
      have hl1 := (H.word hi).1
      have hl4 := (H.word hi).2.1
      obtain ⟨μs, es, Fs, Vs⟩ := ih f (i + 1) acc μ (by omega) (by omega) H C R V
      rw [fo]
      by_cases q : kn.testBit i = true ∧ fit A row m i at0 = true
      · have hle : at0 + ht A 3 i ≤ m := by
          have := q.2
          unfold fit at this
          rw [Bool.and_eq_true, decide_eq_true_iff] at this
          exact this.1
        have x1 := V.get C.s144 (by decide) (by omega) (Nat.le_refl at0) (by omega)
        have x2 := V.get C.s144 (j := at0 + ht A 3 i) (by decide) (by omega) (by omega) hle
        rw [show dtUp g at0 acc at0 = acc from if_pos rfl] at x1
        rw [show dtUp g at0 acc (at0 + ht A 3 i) = g (at0 + ht A 3 i) from if_neg (by omega)] at x2
        have F1 : Fr P144 μ (dtSI μ 144 at0 (Int32.ofNat (acc + g (at0 + ht A 3 i)))) := Fr.SI rfl
        have V1 : AV (dtSI μ 144 at0 (Int32.ofNat (acc + g (at0 + ht A 3 i)))) 144 at0 m (dtUp g at0 (acc + g (at0 + ht A 3 i))) := by
          have := V.SI (j := at0) (v := acc + g (at0 + ht A 3 i))
          intro j j1 j2
          rw [this j j1 j2]
          show Int32.ofNat (if j = at0 then _ else (if j = at0 then _ else _)) = Int32.ofNat (if j = at0 then _ else _)
          by_cases y : j = at0
          · rw [if_pos y, if_pos y]
          · rw [if_neg y, if_neg y, if_neg y]
        obtain ⟨μ2, e2, F2, V2⟩ := ih f (i + 1) _ _ (by omega) (by omega) (H.k144 F1) (C.kept F1) (R.k144 F1) V1
        refine ⟨μ2, ?_, F1.tr F2, ?_⟩
        · rw [← e2]
          simp (disch := omega) only [f_X12_laysReadings_30, f_X12_laysReadings_83, C.g133_0, C.v133, g2, o_bind, o_call, z_lit, z_le, f_isIn, q.1, q.2, b0, Bool.true_eq_false, if_false, H.isSaid C R hi (show at0 ≤ 24 by omega), C.g133_26, x1, f_wordRow, H.w3 hi, z_add, x2, o_SI C.s144 (show at0 < 25 by omega) (by decide)]
          rw [if_neg (by omega)]
        · rw [show rcW A kn row m at0 g i acc = acc + g (at0 + ht A 3 i) from if_pos q]; exact V2
      · refine ⟨μs, ?_, Fs, ?_⟩
        · rw [← es]
          simp (disch := omega) only [f_X12_laysReadings_30, f_X12_laysReadings_83, C.g133_0, C.v133, g2, o_bind, o_call, z_lit, z_le, f_isIn, b0, H.isSaid C R hi (show at0 ≤ 24 by omega), z_add]
          rw [if_neg (by omega)]
          cases q1 : kn.testBit i
          · rw [if_pos rfl]
          · rw [if_neg (by decide)]
            cases q2 : fit A row m i at0
            · rw [if_pos rfl]
            · exact absurd ⟨q1, q2⟩ q
        · rw [show rcW A kn row m at0 g i acc = acc from if_neg q]; exact Vs
theorem lr17 {A : aH} {kn m : Nat} {row : Nat → Nat} (hk : kn < 128) : ∀ (n f : Nat) (g : Nat → Nat) (μ : dtM), n ≤ m → n < f → MH μ 0 0 A → CX μ → mRw μ m row → AV μ 144 n m g → ∃ μ', f_X12_laysReadings_17 f 133 (Int32.ofNat kn) (zP n) μ = some (Int32.ofNat (rcN A kn row m n g 0), μ') ∧ Fr P144 μ μ' ∧ AV μ' 144 0 m (rcN A kn row m n g) := by
  intro n
  induction n with
  | zero =>
    intro f g μ hn hf H C R V
    have hm := R.1
    cases f with
    | zero => omega
    | succ f =>
      have x := V.get C.s144 (by decide) (by omega) (Nat.le_refl 0) (by omega)
      rw [f_X12_laysReadings_17, if_pos (by decide)]
      simp only [C.g133_26, o_bind, z_lit, x]
      exact ⟨μ, rfl, Fr.rf, V⟩
  | succ n ih =>
    intro f g μ hn hf H C R V
    have hm := R.1
    have hnw := H.nw
    cases f with
    | zero => omega
    | succ f =>
      have F1 : Fr P144 μ (dtSI μ 144 n (Int32.ofNat 0)) := Fr.SI rfl
      have V1 : AV (dtSI μ 144 n (Int32.ofNat 0)) 144 n m (dtUp g n 0) := by
        intro j j1 j2
        rw [m_I_SI]
        show _ = Int32.ofNat (if j = n then 0 else g j)
        by_cases y : j = n
        · rw [if_pos ⟨rfl, y⟩, if_pos y]
        · rw [if_neg (fun x => y x.2), if_neg y]; exact V j (by omega) j2
      obtain ⟨μ1, e1, F2, V2⟩ := lr30 (k17 := f_X12_laysReadings_17 f) hk (show n < m by omega) (hs A 2) dtFuel 0 0 _ (by omega) (dtFuel_gt (by omega)) (H.k144 F1) (C.kept F1) (R.k144 F1) V1
      have F12 := F1.tr F2
      obtain ⟨μ2, e2, F3, V3⟩ := ih f (rcS A kn row m n g) μ1 (by omega) (by omega) (H.k144 F12) (C.kept F12) (R.k144 F12) V2
      refine ⟨μ2, ?_, F12.tr F3, V3⟩
      rw [rcN, ← e2, zP_s, f_X12_laysReadings_17, if_neg (by rw [z_lit, z_lt (by omega) (by decide)]; omega)]
      simp only [C.g133_26, o_bind, z_lit, o_SI C.s144 (show n < 25 by omega) (by decide)]
      exact e1
theorem MH.laysReadings {μ : dtM} {A : aH} (H : MH μ 0 0 A) (C : CX μ) {kn m : Nat} {row : Nat → Nat} (hk : kn < 128) (R : mRw μ m row) : ∃ μ', f_X12_laysReadings 133 (Int32.ofNat kn) μ = some (Int32.ofNat (rc A kn row m 0), μ') ∧ Fr P144 μ μ' ∧ AV μ' 144 0 m (rc A kn row m) := by
  have hm := R.1
  have F1 : Fr P144 μ (dtSI μ 144 m (Int32.ofNat 1)) := Fr.SI rfl
  have C1 := C.kept F1
  have V1 : AV (dtSI μ 144 m (Int32.ofNat 1)) 144 m m (rc0 m) := by
    intro j j1 j2
    have : j = m := by omega
    subst this
    rw [m_I_SI, if_pos ⟨rfl, rfl⟩, rc0, if_pos rfl]
  obtain ⟨μ2, e2, F2, V2⟩ := lr17 hk m dtFuel (rc0 m) _ (Nat.le_refl _) (dtFuel_gt (by omega)) (H.k144 F1) C1 (R.k144 F1) V1
  refine ⟨μ2, ?_, F1.tr F2, V2⟩
  simp only [f_X12_laysReadings, C.g133_26, o_bind, R.m C, z_lit, o_SI C.s144 (show m < 25 by omega) (by decide), (R.k144 F1).m C1, z_dec']
  exact e2
