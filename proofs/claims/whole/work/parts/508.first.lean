/-! PURE 48: first, readings, shared -/
theorem rcW_le {A : aH} {kn m at0 M : Nat} {row g : Nat → Nat} (h : ∀ w, w < hs A 2 → at0 + ht A 3 w ≤ m → g (at0 + ht A 3 w) ≤ M) : ∀ (n i acc : Nat), i + n ≤ hs A 2 → fo (rcW A kn row m at0 g) n i acc ≤ acc + n * M
  | 0, _, acc, _ => by rw [fo]; omega
  | n + 1, i, acc, e => by
    rw [fo, Nat.succ_mul]
    have a := rcW_le (kn := kn) (row := row) h n (i + 1) (rcW A kn row m at0 g i acc) (by omega)
    have b : rcW A kn row m at0 g i acc ≤ acc + M := by
      unfold rcW
      by_cases q : kn.testBit i = true ∧ fit A row m i at0 = true
      · rw [if_pos q]
        have q2 := q.2
        unfold fit at q2
        rw [Bool.and_eq_true, decide_eq_true_iff] at q2
        have := h i (by omega) q2.1
        omega
      · rw [if_neg q]; omega
    omega
theorem rcN_le {A : aH} (W : hWF A) {kn m : Nat} {row : Nat → Nat} : ∀ (k : Nat) (g : Nat → Nat), k ≤ m → (∀ j, k ≤ j → j ≤ m → g j ≤ 7 ^ (m - j)) → ∀ j, j ≤ m → rcN A kn row m k g j ≤ 7 ^ (m - j)
  | 0, g, _, h, j, hj => h j (Nat.zero_le _) hj
  | k + 1, g, hk, h, j, hj => by
    rw [rcN]
    refine rcN_le W k _ (by omega) (fun i i1 i2 => ?_) j hj
    show (if i = k then _ else g i) ≤ _
    by_cases q : i = k
    · rw [if_pos q, q]
      have a := rcW_le (A := A) (kn := kn) (m := m) (at0 := k) (M := 7 ^ (m - (k + 1))) (row := row) (g := g) (fun w hw hle => by
        have l1 := (W.2.2.1 w hw).1
        exact Nat.le_trans (h _ (by omega) hle) (Nat.pow_le_pow_right (by decide) (by omega))) (hs A 2) 0 0 (by omega)
      have nw := W.1.2.2.1
      have e7 : m - k = (m - (k + 1)) + 1 := by omega
      rw [e7, Nat.pow_succ]
      have : hs A 2 * 7 ^ (m - (k + 1)) ≤ 7 * 7 ^ (m - (k + 1)) := Nat.mul_le_mul_right _ nw
      omega
    · rw [if_neg q]; exact h i (by omega) i2
theorem rc0_le {m i : Nat} : rc0 m i ≤ 7 ^ (m - i) := by
  unfold rc0
  by_cases q : i = m
  · rw [if_pos q]; exact Nat.one_le_pow _ _ (by decide)
  · rw [if_neg q]; exact Nat.zero_le _
theorem rc_le {A : aH} (W : hWF A) {kn m j : Nat} {row : Nat → Nat} (hj : j ≤ m) : rc A kn row m j ≤ 7 ^ (m - j) :=
  rcN_le W m _ (Nat.le_refl _) (fun i _ _ => rc0_le) j hj
theorem rc_8 {A : aH} (W : hWF A) {kn m j : Nat} {row : Nat → Nat} (hm : m ≤ 8) (hj : j ≤ m) : rc A kn row m j ≤ 5764801 :=
  Nat.le_trans (rc_le W hj) (Nat.le_trans (Nat.pow_le_pow_right (by decide) (show m - j ≤ 8 by omega)) (by decide))
theorem rc_m {A : aH} {kn m : Nat} {row : Nat → Nat} : rc A kn row m m = 1 := by
  unfold rc
  rw [rcN_ge m _ m (Nat.le_refl _), rc0, if_pos rfl]
theorem rcW_cg {A : aH} {kn m at0 : Nat} {row g g' : Nat → Nat} (W : hWF A) (h : ∀ w, w < hs A 2 → g (at0 + ht A 3 w) = g' (at0 + ht A 3 w)) : ∀ (n i acc : Nat), i + n ≤ hs A 2 → fo (rcW A kn row m at0 g) n i acc = fo (rcW A kn row m at0 g') n i acc
  | 0, _, _, _ => rfl
  | n + 1, i, acc, e => by
    rw [fo, fo, rcW_cg W h n (i + 1) _ (by omega)]
    unfold rcW
    rw [h i (by omega)]
/-- at each place the sum of what follows -/
theorem rcN_eq {A : aH} {kn m : Nat} (W : hWF A) {row : Nat → Nat} : ∀ (k : Nat) (g : Nat → Nat), k ≤ m → ∀ j, j < k → rcN A kn row m k g j = fo (rcW A kn row m j (rcN A kn row m k g)) (hs A 2) 0 0
  | 0, _, _, _, h => absurd h (Nat.not_lt_zero _)
  | k + 1, g, hk, j, h => by
    rw [rcN]
    by_cases q : j = k
    · subst q
      rw [rcN_ge j _ j (Nat.le_refl _)]
      have e : rcS A kn row m j g j = fo (rcW A kn row m j g) (hs A 2) 0 0 := if_pos rfl
      rw [e]
      refine rcW_cg W (fun w hw => ?_) (hs A 2) 0 0 (by omega)
      have l1 := (W.2.2.1 w hw).1
      rw [rcN_ge j _ _ (by omega)]
      exact (if_neg (by omega)).symm
    · exact rcN_eq W k _ (by omega) j (by omega)
theorem rc_eq {A : aH} (W : hWF A) {kn m j : Nat} {row : Nat → Nat} (hj : j < m) : rc A kn row m j = fo (rcW A kn row m j (rc A kn row m)) (hs A 2) 0 0 := rcN_eq W m _ (Nat.le_refl _) j hj
def fwC (A : aH) (kn : Nat) (row : Nat → Nat) (m at0 w : Nat) : Prop := (kn.testBit w = true ∧ fit A row m w at0 = true) ∧ ¬ rc A kn row m (at0 + ht A 3 w) = 0
theorem rcW_pos {A : aH} {kn m at0 : Nat} {row : Nat → Nat} : ∀ (n i acc : Nat), (∀ w, i ≤ w → w < i + n → ¬ fwC A kn row m at0 w) → fo (rcW A kn row m at0 (rc A kn row m)) n i acc = acc
  | 0, _, _, _ => rfl
  | n + 1, i, acc, h => by
    have e : rcW A kn row m at0 (rc A kn row m) i acc = acc := by
      unfold rcW
      by_cases q : kn.testBit i = true ∧ fit A row m i at0 = true
      · rw [if_pos q]
        have := h i (by omega) (by omega)
        have z : rc A kn row m (at0 + ht A 3 i) = 0 := Classical.byContradiction (fun x => this ⟨q, x⟩)
        rw [z]; rfl
      · rw [if_neg q]
    rw [fo, e]
    exact rcW_pos n (i + 1) acc (fun w a b => h w (by omega) (by omega))
theorem fw_ex {A : aH} (W : hWF A) {kn m at0 : Nat} {row : Nat → Nat} (h : at0 < m) (hr : ¬ rc A kn row m at0 = 0) : ∃ w, w < hs A 2 ∧ fwC A kn row m at0 w := by
  refine Classical.byContradiction (fun no => hr ?_)
  rw [rc_eq W h]
  exact rcW_pos (hs A 2) 0 0 (fun w _ hw hc => no ⟨w, by omega, hc⟩)
noncomputable def fwd (A : aH) (kn : Nat) (row : Nat → Nat) (m at0 : Nat) : Nat → Nat → Nat
  | 0, _ => 0
  | n + 1, w => @ite _ (fwC A kn row m at0 w) (Classical.propDecidable _) w (fwd A kn row m at0 n (w + 1))
theorem fwd_y {A : aH} {kn m at0 n w : Nat} {row : Nat → Nat} (h : fwC A kn row m at0 w) : fwd A kn row m at0 (n + 1) w = w := by
  rw [fwd]; exact if_pos h
theorem fwd_n {A : aH} {kn m at0 n w : Nat} {row : Nat → Nat} (h : ¬ fwC A kn row m at0 w) : fwd A kn row m at0 (n + 1) w = fwd A kn row m at0 n (w + 1) := by
  rw [fwd]; exact if_neg h
noncomputable def fw (A : aH) (kn : Nat) (row : Nat → Nat) (m at0 : Nat) : Nat := fwd A kn row m at0 (hs A 2) 0
theorem fwd_ok {A : aH} {kn m at0 : Nat} {row : Nat → Nat} : ∀ (n i : Nat), (∃ w, i ≤ w ∧ w < i + n ∧ fwC A kn row m at0 w) → i ≤ fwd A kn row m at0 n i ∧ fwd A kn row m at0 n i < i + n ∧ fwC A kn row m at0 (fwd A kn row m at0 n i)
  | 0, _, ⟨w, a, b, _⟩ => by omega
  | n + 1, i, ⟨w, a, b, c⟩ => by
    by_cases q : fwC A kn row m at0 i
    · rw [fwd_y q]; exact ⟨by omega, by omega, q⟩
    · rw [fwd_n q]
      have := fwd_ok n (i + 1) ⟨w, Nat.lt_of_le_of_ne a (fun e => q (by rw [e]; exact c)), by omega, c⟩
      exact ⟨by omega, by omega, this.2.2⟩
theorem fw_ok {A : aH} (W : hWF A) {kn m at0 : Nat} {row : Nat → Nat} (h : at0 < m) (hr : ¬ rc A kn row m at0 = 0) : fw A kn row m at0 < hs A 2 ∧ fwC A kn row m at0 (fw A kn row m at0) := by
  obtain ⟨w, a, b⟩ := fw_ex W h hr
  have := fwd_ok (A := A) (kn := kn) (m := m) (at0 := at0) (row := row) (hs A 2) 0 ⟨w, Nat.zero_le _, by omega, b⟩
  exact ⟨by have := this.2.1; unfold fw; omega, this.2.2⟩
theorem fwC_le {A : aH} {kn m at0 w : Nat} {row : Nat → Nat} (h : fwC A kn row m at0 w) : at0 + ht A 3 w ≤ m := by
  have := h.1.2
  unfold fit at this
  rw [Bool.and_eq_true, decide_eq_true_iff] at this
  exact this.1
theorem PH.fw3 {μ : dtM} {h : Nat} {A : aH} (H : PH μ h A) (C : CX μ) {kn m at0 : Nat} {row : Nat → Nat} (hk : kn < 128) (R : pRw μ m row) (hm : m ≤ 8) (V : AV μ 126 0 m (rc A kn row m)) (ha : at0 ≤ m) : ∀ (n f i : Nat), i + n = hs A 2 → n < f → f_X5_firstWordAt_3 f 124 h (Int32.ofNat kn) (Int32.ofNat at0) (Int32.ofNat i) μ = some (Int32.ofNat (fwd A kn row m at0 n i), μ) := by
  have hnw := H.nw
  intro n
  induction n with
  | zero =>
    intro f i e hf
    cases f with
    | zero => omega
    | succ f =>
      simp (disch := omega) only [f_X5_firstWordAt_3, H.g2, o_bind, z_lit, z_le]
      rw [if_pos (by omega)]; rfl
  | succ n ih =>
    intro f i e hf
    cases f with
    | zero => omega
    | succ f =>
      have hi : i < hs A 2 := by omega
      have hx := ih f (i + 1) (by omega) (by omega)
      simp (disch := omega) only [f_X5_firstWordAt_3, f_X5_firstWordAt_52, H.g2, o_bind, o_call, z_lit, z_le, f_contains, b0, o_Rv C.s124, H.fits C R hi (show at0 ≤ 24 by omega), C.g124_2, H.r12, H.l3 hi, z_add]
      rw [if_neg (by omega)]
      cases q1 : kn.testBit i
      · rw [if_pos rfl, hx, fwd_n (fun x => absurd (q1.symm.trans x.1.1) (by decide))]
      · rw [if_neg (by decide)]
        cases q2 : fit A row m i at0
        · rw [if_pos rfl, hx, fwd_n (fun x => absurd (q2.symm.trans x.1.2) (by decide))]
        · rw [if_neg (by decide)]
          have hle : at0 + ht A 3 i ≤ m := by
            have := q2
            unfold fit at this
            rw [Bool.and_eq_true, decide_eq_true_iff] at this
            exact this.1
          have b8 := rc_8 H.2.2 (kn := kn) (row := row) hm hle
          rw [V.get C.s126 (by decide) (by omega) (Nat.zero_le _) hle, o_bind]
          simp (disch := omega) only [z_le]
          by_cases q3 : rc A kn row m (at0 + ht A 3 i) = 0
          · rw [if_pos (by omega), hx, fwd_n (fun x => x.2 q3)]
          · rw [if_neg (by omega), fwd_y ⟨⟨q1, q2⟩, q3⟩]
theorem PH.firstWordAt {μ : dtM} {h : Nat} {A : aH} (H : PH μ h A) (C : CX μ) {kn m at0 : Nat} {row : Nat → Nat} (hk : kn < 128) (R : pRw μ m row) (hm : m ≤ 8) (V : AV μ 126 0 m (rc A kn row m)) (ha : at0 ≤ m) : f_X5_firstWordAt 124 h (Int32.ofNat kn) (Int32.ofNat at0) μ = some (Int32.ofNat (fw A kn row m at0), μ) := by
  have hnw := H.nw
  rw [f_X5_firstWordAt, z_lit]
  exact H.fw3 C hk R hm V ha (hs A 2) dtFuel 0 (by omega) (dtFuel_gt (by omega))
theorem MH.fw2 {μ : dtM} {A : aH} (H : MH μ 0 0 A) (C : CX μ) {kn m at0 : Nat} {row : Nat → Nat} (hk : kn < 128) (R : mRw μ m row) (hm : m ≤ 8) (V : AV μ 144 0 m (rc A kn row m)) (ha : at0 ≤ m) : ∀ (n f i : Nat), i + n = hs A 2 → n < f → (∃ w, i ≤ w ∧ w < i + n ∧ fwC A kn row m at0 w) → f_X12_firstWord_2 f 133 (Int32.ofNat kn) (Int32.ofNat at0) (Int32.ofNat i) μ = some (Int32.ofNat (fwd A kn row m at0 n i), μ) := by
  have hnw := H.nw
  intro n
  induction n with
  | zero => intro f i e hf ⟨w, a, b, _⟩; omega
  | succ n ih =>
    intro f i e hf ⟨w, a, b, c⟩
    cases f with
    | zero => omega
    | succ f =>
      have hi : i < hs A 2 := by omega
      have hx : ¬ fwC A kn row m at0 i → f_X12_firstWord_2 f 133 (Int32.ofNat kn) (Int32.ofNat at0) (Int32.ofNat (i + 1)) μ = some (Int32.ofNat (fwd A kn row m at0 (n + 1) i), μ) := by
        intro no
        rw [fwd_n no]
        exact ih f (i + 1) (by omega) (by omega) ⟨w, Nat.lt_of_le_of_ne a (fun e => no (by rw [e]; exact c)), by omega, c⟩
      simp (disch := omega) only [f_X12_firstWord_2, f_X12_firstWord_39, C.v133, o_bind, o_call, z_lit, f_isIn, b0, H.isSaid C R hi (show at0 ≤ 24 by omega), C.g133_26, C.g133_0, f_wordRow, H.w3 hi, z_add]
      cases q1 : kn.testBit i
      · rw [if_pos rfl, hx (fun x => absurd (q1.symm.trans x.1.1) (by decide))]
      · rw [if_neg (by decide)]
        cases q2 : fit A row m i at0
        · rw [if_pos rfl, hx (fun x => absurd (q2.symm.trans x.1.2) (by decide))]
        · rw [if_neg (by decide)]
          have hle : at0 + ht A 3 i ≤ m := by
            have := q2
            unfold fit at this
            rw [Bool.and_eq_true, decide_eq_true_iff] at this
            exact this.1
          have b8 := rc_8 H.2.2 (kn := kn) (row := row) hm hle
          rw [V.get C.s144 (by decide) (by omega) (Nat.zero_le _) hle, o_bind]
          simp (disch := omega) only [z_eq]
          by_cases q3 : rc A kn row m (at0 + ht A 3 i) = 0
          · rw [if_pos q3, hx (fun x => x.2 q3)]
          · rw [if_neg q3, fwd_y ⟨⟨q1, q2⟩, q3⟩]
theorem MH.firstWord {μ : dtM} {A : aH} (H : MH μ 0 0 A) (C : CX μ) {kn m at0 : Nat} {row : Nat → Nat} (hk : kn < 128) (R : mRw μ m row) (hm : m ≤ 8) (V : AV μ 144 0 m (rc A kn row m)) (ha : at0 < m) (hr : ¬ rc A kn row m at0 = 0) : f_X12_firstWord 133 (Int32.ofNat kn) (Int32.ofNat at0) μ = some (Int32.ofNat (fw A kn row m at0), μ) := by
  have hnw := H.nw
  obtain ⟨w, a, b⟩ := fw_ex H.2.2 ha hr
  rw [f_X12_firstWord, z_lit]
  exact H.fw2 C hk R hm V (by omega) (hs A 2) dtFuel 0 (by omega) (dtFuel_gt (by omega)) ⟨w, Nat.zero_le _, by omega, b⟩
noncomputable def nxw (A : aH) (kn : Nat) (row : Nat → Nat) (m at0 : Nat) : Nat := at0 + ht A 3 (fw A kn row m at0)
theorem nxw_ok {A : aH} (W : hWF A) {kn m at0 : Nat} {row : Nat → Nat} (h : at0 < m) (hr : ¬ rc A kn row m at0 = 0) : at0 < nxw A kn row m at0 ∧ nxw A kn row m at0 ≤ m ∧ ¬ rc A kn row m (nxw A kn row m at0) = 0 := by
  obtain ⟨a, b⟩ := fw_ok W h hr
  have l1 := (W.2.2.1 _ a).1
  exact ⟨by unfold nxw; omega, fwC_le b, b.2⟩
noncomputable def wfN (A : aH) (kn : Nat) (row : Nat → Nat) (m : Nat) : Nat → Nat → Nat
  | 0, _ => 0
  | n + 1, at0 => if m ≤ at0 then 0 else 1 + wfN A kn row m n (nxw A kn row m at0)
theorem wfN_le {A : aH} {kn m : Nat} {row : Nat → Nat} : ∀ (n at0 : Nat), wfN A kn row m n at0 ≤ n
  | 0, _ => Nat.le_refl _
  | n + 1, at0 => by
    rw [wfN]
    by_cases q : m ≤ at0
    · rw [if_pos q]; omega
    · rw [if_neg q]
      have := wfN_le (A := A) (kn := kn) (m := m) (row := row) n (nxw A kn row m at0)
      omega
theorem PH.wf19 {μ : dtM} {h : Nat} {A : aH} (H : PH μ h A) (C : CX μ) {kn m : Nat} {row : Nat → Nat} (hk : kn < 128) (R : pRw μ m row) (hm : m ≤ 8) (V : AV μ 126 0 m (rc A kn row m)) : ∀ (n f i at0 acc : Nat), m - at0 ≤ n → n < f → i + n ≤ 23 → at0 ≤ m → ¬ rc A kn row m at0 = 0 → f_X5_wordsOfFirst_19 f 124 h (Int32.ofNat kn) (Int32.ofNat acc) (Int32.ofNat at0) (Int32.ofNat i) μ = some (Int32.ofNat (acc + wfN A kn row m n at0), μ) := by
  intro n
  induction n with
  | zero =>
    intro f i at0 acc e hf hi ha hr
    cases f with
    | zero => omega
    | succ f =>
      simp (disch := omega) only [f_X5_wordsOfFirst_19, f_X5_wordsOfFirst_62, R.m C, o_bind, z_lit, z_le]
      rw [if_neg (by omega), if_pos (by omega)]; rfl
  | succ n ih =>
    intro f i at0 acc e hf hi ha hr
    cases f with
    | zero => omega
    | succ f =>
      simp (disch := omega) only [f_X5_wordsOfFirst_19, f_X5_wordsOfFirst_62, R.m C, o_bind, z_lit, z_le]
      rw [if_neg (by omega), wfN]
      by_cases q : m ≤ at0
      · rw [if_pos q, if_pos q]; rfl
      · rw [if_neg q, if_neg q]
        obtain ⟨a, b⟩ := fw_ok H.2.2 (kn := kn) (row := row) (show at0 < m by omega) hr
        obtain ⟨n1, n2, n3⟩ := nxw_ok H.2.2 (kn := kn) (row := row) (show at0 < m by omega) hr
        simp (disch := omega) only [H.r12, o_bind, o_call, o_Rv C.s124, H.firstWordAt C hk R hm V ha, H.l3 a, z_add]
        have := ih f (i + 1) (nxw A kn row m at0) (acc + 1) (by omega) (by omega) (by omega) n2 n3
        unfold nxw at this
        rw [this]
        unfold nxw
        rw [Nat.add_assoc]
theorem PH.wordsOfFirst {μ : dtM} {h : Nat} {A : aH} (H : PH μ h A) (hh : h + 12 < 123) (C : CX μ) {kn m : Nat} {row : Nat → Nat} (hk : kn < 128) (R : pRw μ m row) (hm : m ≤ 8) : ∃ μ', f_X5_wordsOfFirst 124 h (Int32.ofNat kn) μ = some (oN (if rc A kn row m 0 = 0 then none else some (wfN A kn row m 8 0)), μ') ∧ Fr P126 μ μ' ∧ AV μ' 126 0 m (rc A kn row m) := by
  obtain ⟨μ1, e1, F1, V1⟩ := H.countReadings hh C hk R
  have b8 := rc_8 H.2.2 (kn := kn) (row := row) hm (Nat.zero_le m)
  refine ⟨μ1, ?_, F1, V1⟩
  simp (disch := omega) only [f_X5_wordsOfFirst, o_Rv C.s124, o_bind, e1, o_call, z_lit, z_eq]
  by_cases q : rc A kn row m 0 = 0
  · rw [if_pos q, if_pos q]; rfl
  · rw [if_neg q, if_neg q]
    rw [(H.k126 hh F1).wf19 (C.kept F1) hk (R.k126 F1) hm V1 8 dtFuel 0 0 0 (by omega) (dtFuel_gt (by decide)) (by decide) (Nat.zero_le _) q, Nat.zero_add]
    rfl
noncomputable def waF (A : aH) (kn : Nat) (row : Nat → Nat) (m : Nat) : Nat → Nat → Nat → Option Nat
  | 0, _, _ => none
  | n + 1, k, at0 => if m ≤ at0 then none else if k = 0 then some (fw A kn row m at0) else waF A kn row m n (k - 1) (nxw A kn row m at0)
theorem waF_no {A : aH} {kn m : Nat} {row : Nat → Nat} : ∀ (n k at0 : Nat), wfN A kn row m n at0 ≤ k → waF A kn row m n k at0 = none
  | 0, _, _, _ => rfl
  | n + 1, k, at0, h => by
    rw [wfN] at h
    rw [waF]
    by_cases q : m ≤ at0
    · rw [if_pos q]
    · rw [if_neg q] at h ⊢
      rw [if_neg (by omega)]
      exact waF_no n (k - 1) _ (by omega)
theorem PH.wo18 {μ : dtM} {h : Nat} {A : aH} (H : PH μ h A) (C : CX μ) {kn m K : Nat} {row : Nat → Nat} (hk : kn < 128) (R : pRw μ m row) (hm : m ≤ 8) (V : AV μ 126 0 m (rc A kn row m)) (hK : K ≤ 8) : ∀ (n f k i at0 : Nat), i + k = K → k < f → at0 ≤ m → ¬ rc A kn row m at0 = 0 → k < wfN A kn row m n at0 → f_X5_wordOfFirst_18 f 124 h (Int32.ofNat kn) (Int32.ofNat K) (Int32.ofNat at0) (Int32.ofNat i) μ = some (oN (waF A kn row m n k at0), μ) := by
  intro n
  induction n with
  | zero => intro f k i at0 e hf ha hr hw; exact absurd hw (Nat.not_lt_zero _)
  | succ n ih =>
    intro f k i at0 e hf ha hr hw
    cases f with
    | zero => omega
    | succ f =>
      rw [wfN] at hw
      by_cases q : m ≤ at0
      · rw [if_pos q] at hw; omega
      · rw [if_neg q] at hw
        rw [waF, if_neg q]
        obtain ⟨a, b⟩ := fw_ok H.2.2 (kn := kn) (row := row) (show at0 < m by omega) hr
        obtain ⟨n1, n2, n3⟩ := nxw_ok H.2.2 (kn := kn) (row := row) (show at0 < m by omega) hr
        simp (disch := omega) only [f_X5_wordOfFirst_18, H.r12, o_bind, o_call, o_Rv C.s124, H.firstWordAt C hk R hm V ha, H.l3 a, z_add, z_lit, z_le]
        by_cases q2 : k = 0
        · rw [if_pos (by omega), if_pos q2]; rfl
        · rw [if_neg (by omega), if_neg q2]
          exact ih f (k - 1) (i + 1) (nxw A kn row m at0) (by omega) (by omega) n2 n3 (by omega)
noncomputable def woO (A : aH) (kn : Nat) (row : Nat → Nat) (m k : Nat) : Option Nat := if rc A kn row m 0 = 0 then none else waF A kn row m 8 k 0
theorem PH.wordOfFirst {μ : dtM} {h : Nat} {A : aH} (H : PH μ h A) (hh : h + 12 < 123) (C : CX μ) {kn m k : Nat} {row : Nat → Nat} (hk : kn < 128) (R : pRw μ m row) (hm : m ≤ 8) (hk' : k < 2147483648) : ∃ μ', f_X5_wordOfFirst 124 h (Int32.ofNat kn) (Int32.ofNat k) μ = some (oN (woO A kn row m k), μ') ∧ Fr P126 μ μ' := by
  obtain ⟨μ1, e1, F1, V1⟩ := H.wordsOfFirst hh C hk R hm
  refine ⟨μ1, ?_, F1⟩
  simp only [f_X5_wordOfFirst, o_Rv C.s124, o_bind, e1, o_call, z_lit]
  unfold woO
  by_cases q : rc A kn row m 0 = 0
  · rw [if_pos q, if_pos q]
    have nl : ¬ Int32.ofNat k < oN none := by
      show ¬ Int32.ofNat k < -Int32.ofNat 1
      rw [Int32.lt_iff_toInt_lt, z_tI hk', show (-Int32.ofNat 1).toInt = -1 by decide]
      omega
    rw [if_neg nl]; rfl
  · rw [if_neg q, if_neg q]
    have w8 := wfN_le (A := A) (kn := kn) (m := m) (row := row) 8 0
    have le : (Int32.ofNat k < oN (some (wfN A kn row m 8 0))) = (k < wfN A kn row m 8 0) := z_lt hk' (by omega)
    simp only [le]
    by_cases q2 : k < wfN A kn row m 8 0
    · rw [if_pos q2, (H.k126 hh F1).wo18 (C.kept F1) hk (R.k126 F1) hm V1 (show k ≤ 8 by omega) 8 dtFuel k 0 0 (by omega) (dtFuel_gt (by omega)) (Nat.zero_le _) q q2]
    · rw [if_neg q2, waF_no 8 k 0 (by omega)]; rfl
