/-! PURE 46: trays -/
theorem l_lt (a b : Int64) : (lg_cmp a b < Int32.ofNat 0) = (a < b) := by
  have t : a < b ↔ a.toInt < b.toInt := Int64.lt_iff_toInt_lt
  have t2 : a > b ↔ b.toInt < a.toInt := Int64.lt_iff_toInt_lt
  have t3 : a = b ↔ a.toInt = b.toInt := Int64.toInt_inj.symm
  unfold lg_cmp
  apply propext
  by_cases h : a > b
  · rw [if_pos h]
    exact ⟨fun q => absurd q (by decide), fun q => by rw [t] at q; rw [t2] at h; omega⟩
  · rw [if_neg h]
    by_cases h3 : a = b
    · rw [if_pos h3]
      exact ⟨fun q => absurd q (by decide), fun q => by rw [t] at q; rw [t3] at h3; omega⟩
    · rw [if_neg h3]
      exact ⟨fun _ => by rw [t]; rw [t2] at h; rw [t3] at h3; omega, fun _ => by decide⟩
theorem l_gt (a b : Int64) : (Int32.ofNat 0 < lg_cmp a b) = (b < a) := by
  have t : b < a ↔ b.toInt < a.toInt := Int64.lt_iff_toInt_lt
  have t2 : a > b ↔ b.toInt < a.toInt := Int64.lt_iff_toInt_lt
  unfold lg_cmp
  apply propext
  by_cases h : a > b
  · rw [if_pos h]
    exact ⟨fun _ => h, fun _ => by decide⟩
  · rw [if_neg h]
    by_cases h3 : a = b
    · rw [if_pos h3]
      exact ⟨fun q => absurd q (by decide), fun q => absurd q h⟩
    · rw [if_neg h3]
      exact ⟨fun q => absurd q (by decide), fun q => absurd q h⟩
theorem RP.pt {μ : dtM} {w : aW} {f : aF} {A : aH} {z : aZ} (H : RP μ w f A z) : PT μ (zT z) := H.2.2.2.2.1
theorem RM.mt {μ : dtM} {f : aF} {A : aH} {z : aZ} (H : RM μ f A z) : MT μ (zT z) := H.2.2.2.1
theorem CX.t1 {μ : dtM} (C : CX μ) {i : Nat} (h : i < 4) : opLR 4 μ 1 (Int32.ofNat i) = some (2 + 2 * i) := o_LR C.s1 h (by decide) (C.tr h).2.2.1
theorem CX.t2 {μ : dtM} (C : CX μ) {i : Nat} (h : i < 4) : opRv 9 μ (2 + 2 * i) = some () := o_Rv (C.tr h).1
theorem CX.t3 {μ : dtM} (C : CX μ) {i : Nat} (h : i < 4) : opGR 9 3 μ (2 + 2 * i) = some (3 + 2 * i) := o_GR (C.tr h).1 (C.tr h).2.2.2
theorem PT.no {μ : dtM} {T : aT} (H : PT μ T) (C : CX μ) {i : Nat} (h : i < 4) (hn : taN T i = 0) : opGI 9 0 μ (2 + 2 * i) = some (Int32.ofNat 0) := by rw [o_GI (C.tr h).1, (H i h).2.1, if_pos hn]
theorem PT.is {μ : dtM} {T : aT} (H : PT μ T) (C : CX μ) {i : Nat} (h : i < 4) (hn : 0 < taN T i) : opGI 9 0 μ (2 + 2 * i) = some (Int32.ofNat 1) := by rw [o_GI (C.tr h).1, (H i h).2.1, if_neg (by omega)]
theorem PT.so {μ : dtM} {T : aT} (H : PT μ T) (C : CX μ) {i : Nat} (h : i < 4) (hn : 0 < taN T i) : opGI 9 1 μ (2 + 2 * i) = some (Int32.ofNat (taS T i)) := by rw [o_GI (C.tr h).1, ((H i h).2.2 hn).1]
theorem PT.ma {μ : dtM} {T : aT} (H : PT μ T) (C : CX μ) {i : Nat} (h : i < 4) (hn : 0 < taN T i) : opGI 9 2 μ (2 + 2 * i) = some (Int32.ofNat (taN T i - 1)) := by rw [o_GI (C.tr h).1, ((H i h).2.2 hn).2.1]
theorem PT.nu {μ : dtM} {T : aT} (H : PT μ T) (C : CX μ) {i j : Nat} (h : i < 4) (hj : j + 1 < taN T i) : opLJ 3 μ (3 + 2 * i) (Int32.ofNat j) = some (taV T i j) := by
  have := (H i h).1.2
  rw [o_LJ (C.tr h).2.1 (by omega) (by decide), ((H i h).2.2 (by omega)).2.2 j hj]
theorem MT.no {μ : dtM} {T : aT} (H : MT μ T) (C : CX μ) {i : Nat} (h : i < 4) (hn : taN T i = 0) : opLI 1 μ 137 (Int32.ofNat i) = some (-Int32.ofNat 1) := by rw [o_LI C.s137 h (by decide), (H i h).2.1 hn]
theorem MT.ma {μ : dtM} {T : aT} (H : MT μ T) (C : CX μ) {i : Nat} (h : i < 4) (hn : 0 < taN T i) : opLI 1 μ 137 (Int32.ofNat i) = some (Int32.ofNat (taN T i - 1)) := by rw [o_LI C.s137 h (by decide), ((H i h).2.2 hn).2.1]
theorem MT.so {μ : dtM} {T : aT} (H : MT μ T) (C : CX μ) {i : Nat} (h : i < 4) (hn : 0 < taN T i) : opLI 1 μ 136 (Int32.ofNat i) = some (Int32.ofNat (taS T i)) := by rw [o_LI C.s136 h (by decide), ((H i h).2.2 hn).1]
theorem MT.nu {μ : dtM} {T : aT} (H : MT μ T) (C : CX μ) {i j : Nat} (h : i < 4) (hj : j + 1 < taN T i) : opLJ 3 μ 138 (Int32.ofNat (60 * i + j)) = some (taV T i j) := by
  have := (H i h).1.2
  rw [o_LJ C.s138 (by omega) (by decide), ((H i h).2.2 (by omega)).2.2 j hj]
def rSt (T : aT) (x : Int32) (n : Nat) : Nat := if inR x 4 = false then 1 else if taN T x.toNatClampNeg = 0 then 2 else if n < taN T x.toNatClampNeg then 0 else 3
theorem rSt_le {T : aT} {x : Int32} {n : Nat} : rSt T x n ≤ 3 := by
  unfold rSt
  by_cases h1 : inR x 4 = false
  · rw [if_pos h1]; omega
  · rw [if_neg h1]
    by_cases h2 : taN T x.toNatClampNeg = 0
    · rw [if_pos h2]; omega
    · rw [if_neg h2]
      by_cases h3 : n < taN T x.toNatClampNeg
      · rw [if_pos h3]; omega
      · rw [if_neg h3]; omega
theorem rSt_0 {T : aT} {x : Int32} {n : Nat} (h : rSt T x n = 0) : ∃ i, i < 4 ∧ x = Int32.ofNat i ∧ n < taN T i := by
  unfold rSt at h
  by_cases h1 : inR x 4 = false
  · rw [if_pos h1] at h; omega
  · rw [if_neg h1] at h
    obtain ⟨i, hi, rfl⟩ := inR_t (n := 4) (by decide) (by simpa using h1)
    rw [z_cl (by omega)] at h
    by_cases h2 : taN T i = 0
    · rw [if_pos h2] at h; omega
    · rw [if_neg h2] at h
      by_cases h3 : n < taN T i
      · exact ⟨i, hi, rfl, h3⟩
      · rw [if_neg h3] at h; omega
theorem p_hasRun {μ : dtM} {T : aT} (H : PT μ T) (C : CX μ) {i a n : Nat} (h : i < 4) (hn : 0 < taN T i) (ha : a < 2147483648) (hm : n < 2147483648) : f_X9_hasRun (2 + 2 * i) (Int32.ofNat a) (Int32.ofNat n) μ = some (bI (decide (a + n < taN T i)), μ) := by
  have := (H i h).1.2
  simp (disch := omega) only [f_X9_hasRun, f_X9_hasRun_26, f_X9_hasRun_27, H.ma C h hn, o_bind, z_lit, z_lt0, if_false, l_gt, j_of, j_add, j_lt, o_ret0', o_ret1']
  by_cases q : a + n < taN T i
  · rw [if_neg (by omega), decide_eq_true q]
  · rw [if_pos (by omega), decide_eq_false q]
theorem p_run {μ : dtM} {w : aW} {f : aF} {A : aH} {z : aZ} (H : RP μ w f A z) (x : Int32) {n : Nat} (hn : n < 2147483648) : f_X11_runStatus 0 x (Int32.ofNat n) μ = some (Int32.ofNat (rSt (zT z) x n), μ) := by
  have C := H.c
  have T := H.pt
  unfold rSt
  cases hq : inR x 4
  · simp only [f_X11_runStatus, f_isTrayP, hq, o_bind, o_call, z_lit, b0, o_ret0', o_ret1', o_bI, Bool.true_eq_false, Bool.false_eq_true, eq_self, if_true, if_false]
  · obtain ⟨i, hi, rfl⟩ := inR_t (by decide) hq
    rw [z_cl (by omega)]
    rw [if_neg (by decide)]
    by_cases h2 : taN (zT z) i = 0
    · rw [if_pos h2]
      simp only [f_X11_runStatus, f_isTrayP, hq, C.g0_3, C.t1 hi, T.no C hi h2, o_bind, o_call, z_lit, b0, o_ret0', o_ret1', o_bI, Bool.true_eq_false, Bool.false_eq_true, eq_self, if_true, if_false]
    · rw [if_neg h2]
      have hp := p_hasRun T C hi (a := 0) (n := n) (by omega) (by decide) hn
      rw [Nat.zero_add] at hp
      simp only [f_X11_runStatus, f_X11_runStatus_42, f_isTrayP, hq, C.g0_3, C.t1 hi, C.t2 hi, T.is C hi (by omega), hp, z_eq (show 1 < 2147483648 by decide) (show 0 < 2147483648 by decide), Nat.one_ne_zero, o_bind, o_call, z_lit, b0, o_ret0', o_ret1', o_bI, Bool.true_eq_false, Bool.false_eq_true, eq_self, if_true, if_false]
      by_cases h3 : n < taN (zT z) i
      · rw [if_pos h3, decide_eq_true h3, if_neg (by decide)]
      · rw [if_neg h3, decide_eq_false h3, if_pos rfl]
/-- small numbers -/
def sJ (v : Int64) (lim : Nat) : Bool := decide (¬ v < Int64.ofNat 0 ∧ v < Int64.ofNat lim)
theorem j_cases (x : Int64) : x < Int64.ofNat 0 ∨ ∃ n, n < 9223372036854775808 ∧ x = Int64.ofNat n := by
  by_cases h : x < 0
  · exact Or.inl h
  · right
    have h0 : 0 ≤ x := Int64.not_lt.mp h
    exact ⟨x.toNatClampNeg, Int64.toNatClampNeg_lt x, (Int64.ofNat_toNatClampNeg x h0).symm⟩
theorem sJ_t {v : Int64} {lim : Nat} (hl : lim < 9223372036854775808) (h : sJ v lim = true) : ∃ k, k < lim ∧ v = Int64.ofNat k := by
  have h := of_decide_eq_true h
  rcases j_cases v with q | ⟨k, hk, rfl⟩
  · exact absurd q h.1
  · have := h.2
    rw [j_lt hk hl] at this
    exact ⟨k, this, rfl⟩
def abB (g : Nat → Int64) (lim : Nat) : Nat → Nat → Bool
  | 0, _ => true
  | n + 1, j => if sJ (g j) lim = true then abB g lim n (j + 1) else false
theorem abB_t {g : Nat → Int64} {lim : Nat} : ∀ (n j : Nat), abB g lim n j = true → ∀ i, j ≤ i → i < j + n → sJ (g i) lim = true
  | 0, _, _, _, _, _ => by omega
  | n + 1, j, h, i, h1, h2 => by
    rw [abB] at h
    by_cases q : sJ (g j) lim = true
    · rw [if_pos q] at h
      by_cases e : i = j
      · rw [e]; exact q
      · exact abB_t n (j + 1) h i (by omega) (by omega)
    · rw [if_neg q] at h; cases h
theorem ab2 {μ : dtM} {T : aT} (H : PT μ T) (C : CX μ) {i N lim : Nat} (h : i < 4) (hN : N < taN T i) (hl : lim < 2147483648) : ∀ (n f j : Nat), j + n = N → n < f → f_X9_allBelow_2 f (2 + 2 * i) (Int32.ofNat N) (Int32.ofNat lim) (Int32.ofNat j) μ = some (bI (abB (taV T i) lim n j), μ) := by
  have h61 := (H i h).1.2
  intro n
  induction n with
  | zero =>
    intro f j e hf
    cases f with
    | zero => omega
    | succ f =>
      simp (disch := omega) only [f_X9_allBelow_2, z_le, z_lit, o_ret1']
      rw [if_pos (by omega)]; rfl
  | succ n ih =>
    intro f j e hf
    cases f with
    | zero => omega
    | succ f =>
      simp (disch := omega) only [f_X9_allBelow_2, f_X9_allBelow_30, z_le, z_lit, C.t3 h, H.nu C h (show j + 1 < taN T i by omega), o_bind, o_ret0', j_lit, l_lt, j_of, z_add]
      rw [if_neg (by omega), abB]
      unfold sJ
      by_cases q1 : taV T i j < Int64.ofNat 0
      · rw [if_pos q1, decide_eq_false (fun x => x.1 q1), if_neg (by decide)]
      · rw [if_neg q1]
        by_cases q2 : taV T i j < Int64.ofNat lim
        · rw [if_pos q2, decide_eq_true ⟨q1, q2⟩, if_pos rfl]
          exact ih f (j + 1) (by omega) (by omega)
        · rw [if_neg q2, decide_eq_false (fun x => q2 x.2), if_neg (by decide)]
theorem p_allBelow {μ : dtM} {T : aT} (H : PT μ T) (C : CX μ) {i N lim : Nat} (h : i < 4) (hN : N < taN T i) (hl : lim < 2147483648) : f_X9_allBelow (2 + 2 * i) (Int32.ofNat N) (Int32.ofNat lim) μ = some (bI (abB (taV T i) lim N 0), μ) := by
  have h61 := (H i h).1.2
  rw [f_X9_allBelow, z_lit]
  exact ab2 H C h hN hl N dtFuel 0 (by omega) (dtFuel_gt (by omega))
theorem j_to {k : Nat} (h : k < 2147483648) : (Int64.ofNat k).toInt32 = Int32.ofNat k := by
  rw [← j_of h, Int32.toInt32_toInt64]
theorem p_small {μ : dtM} {T : aT} (H : PT μ T) (C : CX μ) {i j k : Nat} (h : i < 4) (hj : j + 1 < taN T i) (hk : k < 2147483648) (e : taV T i j = Int64.ofNat k) : f_X9_smallNumber (2 + 2 * i) (Int32.ofNat j) μ = some (Int32.ofNat k, μ) := by
  simp only [f_X9_smallNumber, C.t3 h, H.nu C h hj, o_bind, e, j_to hk]
theorem f_isFromJ {v : Int64} {lim : Nat} {μ : dtM} (hl : 0 < lim ∧ lim < 9223372036854775808) : f_X12_isFrom v (Int64.ofNat 0) (Int64.ofNat (lim - 1)) μ = some (bI (sJ v lim), μ) := by
  simp only [f_X12_isFrom, f_X12_isFrom_17, f_X12_isFrom_18, z_lit, l_lt, l_gt, o_ret0', o_ret1']
  unfold sJ
  rcases j_cases v with q | ⟨k, hk, rfl⟩
  · rw [if_pos q, decide_eq_false (fun x => x.1 q)]
  · have n0 : ¬ Int64.ofNat k < Int64.ofNat 0 := by rw [j_lt hk (by omega)]; omega
    have e1 : (Int64.ofNat (lim - 1) < Int64.ofNat k) = (lim - 1 < k) := j_lt (by omega) hk
    have e2 : (Int64.ofNat k < Int64.ofNat lim) = (k < lim) := j_lt hk hl.2
    rw [if_neg n0]
    by_cases q : k < lim
    · rw [if_neg (by rw [e1]; omega), decide_eq_true ⟨n0, by rw [e2]; exact q⟩]
    · rw [if_pos (by rw [e1]; omega), decide_eq_false (fun x => q (by have y := x.2; rw [e2] at y; exact y))]
/-! a tray that becomes another one -/
def ScTP (w : aW) (k j : Nat) : Prop := ScP w k j ∨ (2 ≤ k ∧ k ≤ 9)
def ScTM (k j : Nat) : Prop := ScM k j ∨ (136 ≤ k ∧ k ≤ 138)
theorem RP.tra {w : aW} {f : aF} {A : aH} {z : aZ} {T' : aT} {μ μ' : dtM} {st : Int32} (H : RP μ w f A z) (F : Fr (ScTP w) μ μ') (h : PT μ' T') (e : dtI μ' 0 0 = st) : RP μ' w (st, f.2) A (T', z.2) := by
  obtain ⟨C, R, X, hh, _, B, D, K, V, L⟩ := H
  obtain ⟨w1, w2⟩ := R.1
  refine ⟨C.kept F, R.kept F, ⟨e, ?_, ?_⟩, hh.kept F ?_, h, B.kept F ?_, D.kept F ?_, K.kept F ?_ ?_, V.kept F ?_, L.kept F ?_⟩
  · rw [F.j (by unfold ScTP ScP; omega)]; exact X.2.1
  · rw [F.j (by unfold ScTP ScP; omega)]; exact X.2.2
  all_goals (intros; unfold ScTP ScP; omega)
theorem RM.tra {f : aF} {A : aH} {z : aZ} {T' : aT} {μ μ' : dtM} {st : Int32} (H : RM μ f A z) (W : dWF A (zD z)) (F : Fr ScTM μ μ') (h : MT μ' T') (e : dtI μ' 133 2 = st) : RM μ' (st, f.2) A (T', z.2) := by
  obtain ⟨C, X, hh, _, B, D, K, V, L⟩ := H
  refine ⟨C.kept F, ⟨e, ?_, ?_⟩, hh.keptAt F ?_ ?_, h, B.kept F ?_ ⟨?_, ?_, ?_⟩, D.kept W F ?_, K.kept F ?_ ?_ ?_, V.kept F ?_ ?_, L.kept F ?_⟩
  · rw [F.j (by unfold ScTM ScM; omega)]; exact X.2.1
  · rw [F.j (by unfold ScTM ScM; omega)]; exact X.2.2
  all_goals (intros; unfold ScTM ScM; omega)
theorem both.tra {α : Type} {a b : dtM → Option (α × dtM)} {μ : dtM} {w : aW} {f : aF} {A : aH} {z : aZ} (HP : RP μ w f A z) (HM : RM μ f A z) (W : dWF A (zD z)) (v : α) (st : Int32) (T' : aT)
    (hP : ∃ μ1, a μ = some (v, dtSI μ1 0 0 st) ∧ Fr (ScTP w) μ μ1 ∧ PT μ1 T') (hM : ∀ μ1, RM μ1 f A z → ∃ μ2, b μ1 = some (v, dtSI μ2 133 2 st) ∧ Fr ScTM μ1 μ2 ∧ MT μ2 T') : both a b μ := by
  obtain ⟨μ1, e1, F1, h1⟩ := hP
  obtain ⟨w1, w2⟩ := HP.2.1.1
  have F1' : Fr (ScTP w) μ (dtSI μ1 0 0 st) := F1.tr (Fr.SI (Or.inl (Or.inl ⟨rfl, rfl⟩)))
  refine both.mk HP HM W ⟨_, e1, F1'.wide (fun k j x => ?_), HP.tra F1' (h1.kept (P := fun k _ => k = 0) (Fr.SI rfl) (fun k j _ _ => by omega)) (by rw [m_I_SI, if_pos ⟨rfl, rfl⟩])⟩ (fun μ1 R1 => ?_) W
  · unfold ScTP ScP at x; unfold LPq; omega
  · obtain ⟨μ2, e2, F2, h2⟩ := hM μ1 R1
    have F2' : Fr ScTM μ1 (dtSI μ2 133 2 st) := F2.tr (Fr.SI (Or.inl (Or.inl (by decide))))
    refine ⟨_, e2, F2'.wide (fun k j x => ?_), R1.tra W F2' (h2.kept (P := fun k _ => k = 133) (Fr.SI rfl) (fun k j _ _ => by omega)) (by rw [m_I_SI, if_pos ⟨rfl, rfl⟩])⟩
    unfold ScTM ScM at x; unfold LMq; omega
