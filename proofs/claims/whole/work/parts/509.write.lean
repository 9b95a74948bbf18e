/-! PURE 49: cases tray, write, read -/
def upT (T : aT) (k s n : Nat) (g : Nat → Int64) : aT := ((fun i => if i = k then s else taS T i), (fun i => if i = k then n else taN T i), (fun i j => if i = k then g j else taV T i j))
theorem upT_s {T : aT} {k s n : Nat} {g : Nat → Int64} : taS (upT T k s n g) k = s := if_pos rfl
theorem upT_n {T : aT} {k s n : Nat} {g : Nat → Int64} : taN (upT T k s n g) k = n := if_pos rfl
theorem upT_v {T : aT} {k s n j : Nat} {g : Nat → Int64} : taV (upT T k s n g) k j = g j := if_pos rfl
theorem upT_so {T : aT} {k s n i : Nat} {g : Nat → Int64} (h : ¬ i = k) : taS (upT T k s n g) i = taS T i := if_neg h
theorem upT_no {T : aT} {k s n i : Nat} {g : Nat → Int64} (h : ¬ i = k) : taN (upT T k s n g) i = taN T i := if_neg h
theorem upT_vo {T : aT} {k s n i j : Nat} {g : Nat → Int64} (h : ¬ i = k) : taV (upT T k s n g) i j = taV T i j := if_neg h
abbrev PTr (k : Nat) : Nat → Nat → Prop := fun a _ => a = 2 + 2 * k ∨ a = 3 + 2 * k
abbrev PTm (k : Nat) : Nat → Nat → Prop := fun a j => ((a = 136 ∨ a = 137) ∧ j = k) ∨ (a = 138 ∧ 60 * k ≤ j ∧ j < 60 * k + 60)
theorem PT.one {μ μ' : dtM} {T : aT} {k s n : Nat} {g : Nat → Int64} (H : PT μ T) (F : Fr (PTr k) μ μ') (hs' : s ≤ 3) (hn : n ≤ 60) (h0 : dtI μ' (2 + 2 * k) 0 = Int32.ofNat 1) (h1 : dtI μ' (2 + 2 * k) 1 = Int32.ofNat s) (h2 : dtI μ' (2 + 2 * k) 2 = Int32.ofNat n) (h3 : ∀ j, j < n → dtJ μ' (3 + 2 * k) j = g j) : PT μ' (upT T k s (n + 1) g) := by
  intro i hi
  by_cases e : i = k
  · subst e
    rw [upT_s, upT_n]
    refine ⟨⟨hs', by omega⟩, by rw [if_neg (by omega)]; exact h0, fun _ => ⟨h1, by rw [Nat.add_sub_cancel]; exact h2, fun j hj => by rw [upT_v]; exact h3 j (by omega)⟩⟩
  · rw [upT_so e, upT_no e]
    obtain ⟨a, b, c⟩ := H i hi
    refine ⟨a, by rw [F.i (by show ¬ (_ ∨ _); omega)]; exact b, fun x => ⟨?_, ?_, fun j hj => ?_⟩⟩
    · rw [F.i (by show ¬ (_ ∨ _); omega)]; exact (c x).1
    · rw [F.i (by show ¬ (_ ∨ _); omega)]; exact (c x).2.1
    · rw [upT_vo e, F.j (by show ¬ (_ ∨ _); omega)]; exact (c x).2.2 j hj
theorem MT.one {μ μ' : dtM} {T : aT} {k s n : Nat} {g : Nat → Int64} (H : MT μ T) (F : Fr (PTm k) μ μ') (hs' : s ≤ 3) (hn : n ≤ 60) (h1 : dtI μ' 136 k = Int32.ofNat s) (h2 : dtI μ' 137 k = Int32.ofNat n) (h3 : ∀ j, j < n → dtJ μ' 138 (60 * k + j) = g j) : MT μ' (upT T k s (n + 1) g) := by
  intro i hi
  by_cases e : i = k
  · subst e
    rw [upT_s, upT_n]
    refine ⟨⟨hs', by omega⟩, fun x => absurd x (by omega), fun _ => ⟨h1, by rw [Nat.add_sub_cancel]; exact h2, fun j hj => by rw [upT_v]; exact h3 j (by omega)⟩⟩
  · rw [upT_so e, upT_no e]
    obtain ⟨a, b, c⟩ := H i hi
    refine ⟨a, fun x => by rw [F.i (by show ¬ ((_ ∨ _) ∧ _ ∨ _); omega)]; exact b x, fun x => ⟨?_, ?_, fun j hj => ?_⟩⟩
    · rw [F.i (by show ¬ ((_ ∨ _) ∧ _ ∨ _); omega)]; exact (c x).1
    · rw [F.i (by show ¬ ((_ ∨ _) ∧ _ ∨ _); omega)]; exact (c x).2.1
    · rw [upT_vo e, F.j (by show ¬ ((_ ∨ _) ∧ _ ∨ _); omega)]; exact (c x).2.2 j hj
theorem lo17 {k : Nat} (hk : k < 4) : ∀ (n f i : Nat) (μ : dtM), i + n = 60 → n < f → CX μ → ∃ μ', f_X9_layOut_17 f (2 + 2 * k) (Int32.ofNat i) μ = some μ' ∧ Fr (fun a _ => a = 3 + 2 * k) μ μ' ∧ ∀ j, j < 60 → dtJ μ' (3 + 2 * k) j = if i ≤ j then Int64.ofNat 0 else dtJ μ (3 + 2 * k) j := by
  intro n
  induction n with
  | zero =>
    intro f i μ e hf C
    cases f with
    | zero => omega
    | succ f =>
      simp (disch := omega) only [f_X9_layOut_17, C.t3 hk, o_bind, o_AL (C.tr hk).2.1 (by decide), z_le]
      rw [if_pos (by omega)]
      exact ⟨μ, rfl, Fr.rf, fun j hj => by rw [if_neg (by omega)]⟩
  | succ n ih =>
    intro f i μ e hf C
    cases f with
    | zero => omega
    | succ f =>
      have F1 : Fr (fun a _ => a = 3 + 2 * k) μ (dtSJ μ (3 + 2 * k) i (Int64.ofNat 0)) := Fr.SJ rfl
      obtain ⟨μ2, e2, F2, g2⟩ := ih f (i + 1) _ (by omega) (by omega) (C.kept F1)
      refine ⟨μ2, ?_, F1.tr F2, fun j hj => ?_⟩
      · rw [← e2]
        simp (disch := omega) only [f_X9_layOut_17, C.t3 hk, o_bind, o_AL (C.tr hk).2.1 (by decide), z_le, z_lit, z_add, j_lit, o_SJ (C.tr hk).2.1 (show i < 60 by omega) (by decide)]
        rw [if_neg (by omega)]
      · rw [g2 j hj, m_J_SJ]
        by_cases q : i + 1 ≤ j
        · rw [if_pos q, if_pos (by omega)]
        · rw [if_neg q]
          by_cases q2 : j = i
          · rw [if_pos ⟨rfl, q2⟩, if_pos (by omega)]
          · rw [if_neg (fun x => q2 x.2), if_neg (by omega)]
theorem p_layOut {μ : dtM} {T : aT} (H : PT μ T) (C : CX μ) {k s n : Nat} (hk : k < 4) (hs' : s ≤ 3) (hn : n ≤ 60) : ∃ μ', f_X9_layOut (2 + 2 * k) (Int32.ofNat s) (Int32.ofNat n) μ = some μ' ∧ Fr (PTr k) μ μ' ∧ PT μ' (upT T k s (n + 1) (fun _ => Int64.ofNat 0)) := by
  have S := (C.tr hk).1
  have F1 : Fr (PTr k) μ (dtSI (dtSI (dtSI μ (2 + 2 * k) 0 (Int32.ofNat 1)) (2 + 2 * k) 1 (Int32.ofNat s)) (2 + 2 * k) 2 (Int32.ofNat n)) := (Fr.SI (P := PTr k) (Or.inl rfl)).tr ((Fr.SI (P := PTr k) (Or.inl rfl)).tr (Fr.SI (P := PTr k) (Or.inl rfl)))
  obtain ⟨μ2, e2, F2, g2⟩ := lo17 hk 60 dtFuel 0 _ (by omega) (dtFuel_gt (by decide)) (C.kept F1)
  have F12 := F1.tr (F2.wide (fun a j x => (Or.inr x : PTr k a j)))
  have k2 : ∀ j, dtI μ2 (2 + 2 * k) j = dtI (dtSI (dtSI (dtSI μ (2 + 2 * k) 0 (Int32.ofNat 1)) (2 + 2 * k) 1 (Int32.ofNat s)) (2 + 2 * k) 2 (Int32.ofNat n)) (2 + 2 * k) j := fun j => F2.i (by show ¬ _ = _; omega)
  refine ⟨μ2, ?_, F12, H.one F12 hs' hn ?_ ?_ ?_ (fun j hj => ?_)⟩
  · rw [← e2]
    have S1 : dtS (dtSI μ (2 + 2 * k) 0 (Int32.ofNat 1)) (2 + 2 * k) = (0, 9) := S
    have S2 : dtS (dtSI (dtSI μ (2 + 2 * k) 0 (Int32.ofNat 1)) (2 + 2 * k) 1 (Int32.ofNat s)) (2 + 2 * k) = (0, 9) := S
    have z1 : opPZ 9 0 μ (2 + 2 * k) (Int32.ofNat 1) = some (dtSI μ (2 + 2 * k) 0 (Int32.ofNat 1)) := o_PZ1 S
    simp only [f_X9_layOut, z1, o_PI S1, o_PI S2, o_bind, z_lit]
  · rw [k2, m_I_SI, if_neg (by omega), m_I_SI, if_neg (by omega), m_I_SI, if_pos ⟨rfl, rfl⟩]
  · rw [k2, m_I_SI, if_neg (by omega), m_I_SI, if_pos ⟨rfl, rfl⟩]
  · rw [k2, m_I_SI, if_pos ⟨rfl, rfl⟩]
  · rw [g2 j (by omega), if_pos (Nat.zero_le _)]
theorem tm49 {k N : Nat} (hk : k < 4) (hN : N ≤ 60) : ∀ (n f i : Nat) (μ : dtM), i + n = N → n < f → CX μ → ∃ μ', f_X12_tray_49 f 133 (Int32.ofNat k) (Int32.ofNat N) (Int32.ofNat i) μ = some (bI true, dtSI μ' 133 2 (Int32.ofNat 0)) ∧ Fr (fun a j => a = 138 ∧ 60 * k ≤ j ∧ j < 60 * k + 60) μ μ' ∧ ∀ j, j < N → dtJ μ' 138 (60 * k + j) = if i ≤ j then Int64.ofNat 0 else dtJ μ 138 (60 * k + j) := by
  intro n
  induction n with
  | zero =>
    intro f i μ e hf C
    cases f with
    | zero => omega
    | succ f =>
      simp (disch := omega) only [f_X12_tray_49, C.v133, o_bind, o_call, z_lit, n_is0 C, o_bI, z_le]
      rw [if_pos (by omega)]
      exact ⟨μ, rfl, Fr.rf, fun j hj => by rw [if_neg (by omega)]⟩
  | succ n ih =>
    intro f i μ e hf C
    cases f with
    | zero => omega
    | succ f =>
      have F1 : Fr (fun a j => a = 138 ∧ 60 * k ≤ j ∧ j < 60 * k + 60) μ (dtSJ μ 138 (60 * k + i) (Int64.ofNat 0)) := Fr.SJ ⟨rfl, by omega, by omega⟩
      obtain ⟨μ2, e2, F2, g2⟩ := ih f (i + 1) _ (by omega) (by omega) (C.kept F1)
      refine ⟨μ2, ?_, F1.tr F2, fun j hj => ?_⟩
      · rw [← e2]
        simp (disch := omega) only [f_X12_tray_49, C.g133_7, o_bind, z_le, z_lit, z_mul, z_add, j_lit, o_SJ C.s138 (show 60 * k + i < 240 by omega) (by decide)]
        rw [if_neg (by omega)]
      · rw [g2 j hj, m_J_SJ]
        by_cases q : i + 1 ≤ j
        · rw [if_pos q, if_pos (by omega)]
        · rw [if_neg q]
          by_cases q2 : j = i
          · rw [if_pos ⟨rfl, by rw [q2]⟩, if_pos (by omega)]
          · rw [if_neg (fun x => by have := x.2; omega), if_neg (by omega)]
theorem cs3 {μ : dtM} {w : aW} {f : aF} {A : aH} {z : aZ} (HP : RP μ w f A z) (HM : RM μ f A z) (W : dWF A (zD z)) (x y v : Int32) : both (f_X11_tray 0 x y v) (f_X12_tray 133 x y v) μ := by
  have C := HP.c
  have T := HP.pt
  have no : (inR x 4 && inR y 4 && inR v 61) = false → both (f_X11_tray 0 x y v) (f_X12_tray 133 x y v) μ := by
    intro hq
    refine both.no HP HM W (bI false) (Int32.ofNat 1) ?_ (fun μ1 R1 => ?_)
    · simp only [f_X11_tray, f_X11_tray_26, f_isTrayP, f_within0 (show 3 < 2147483647 by decide), f_within0 (show 60 < 2147483647 by decide), C.v0, p_refuse C, o_bind, o_call, z_lit, b0, o_ret0', o_ret1', o_bI, Bool.true_eq_false, Bool.false_eq_true, eq_self, if_true, if_false]
      cases h1 : inR x 4
      · rw [if_pos rfl]
      · rw [if_neg (by decide)]
        cases h2 : inR y (3 + 1)
        · rw [if_pos rfl]
        · rw [if_neg (by decide)]
          cases h3 : inR v (60 + 1)
          · rw [if_pos rfl]
          · rw [h1, h2, h3] at hq; exact absurd hq (by decide)
    · have C1 := R1.c
      simp only [f_X12_tray, f_X12_tray_26, f_isTrayM, C1.v133, n_isW C1 (show 0 < 1 ∧ 1 < 2147483648 by decide), o_bind, o_call, z_lit, b0, o_ret0', o_ret1', o_bI, Bool.true_eq_false, Bool.false_eq_true, eq_self, if_true, if_false]
      cases h1 : inR x 4
      · rw [if_pos rfl]
      · rw [if_neg (by decide)]
        rcases z_cases y with hy | ⟨s, hs', rfl⟩
        · rw [if_pos hy]
        · rw [if_neg (by rw [z_lt0 hs']; exact id)]
          by_cases h2 : 3 < s
          · rw [if_pos (by rw [z_lt (by decide) hs']; exact h2)]
          · rw [if_neg (by rw [z_lt (by decide) hs']; exact h2)]
            rcases z_cases v with hv | ⟨n, hn, rfl⟩
            · rw [if_pos hv]
            · rw [if_neg (by rw [z_lt0 hn]; exact id)]
              by_cases h3 : n ≤ 60
              · rw [h1, inR_n (by decide) hs', inR_n (by decide) hn, decide_eq_true (by omega), decide_eq_true (by omega)] at hq
                exact absurd hq (by decide)
              · rw [if_neg (by rw [z_le hn (by decide)]; exact h3)]
  cases hq : (inR x 4 && inR y 4 && inR v 61)
  · exact no hq
  · have hq' := hq
    simp only [Bool.and_eq_true] at hq'
    obtain ⟨k, hk, rfl⟩ := inR_t (by decide) hq'.1.1
    obtain ⟨s, hs', rfl⟩ := inR_t (by decide) hq'.1.2
    obtain ⟨n, hn, rfl⟩ := inR_t (by decide) hq'.2
    refine both.tra HP HM W (bI true) (Int32.ofNat 0) (upT (zT z) k s (n + 1) (fun _ => Int64.ofNat 0)) ?_ (fun μ1 R1 => ?_)
    · obtain ⟨μ2, e2, F2, T2⟩ := p_layOut T C hk (show s ≤ 3 by omega) (show n ≤ 60 by omega)
      have C2 := C.kept F2
      refine ⟨μ2, ?_, F2.wide (fun a j x => Or.inr (by have x' : a = 2 + 2 * k ∨ a = 3 + 2 * k := x; omega)), T2⟩
      simp only [f_X11_tray, f_isTrayP, f_within0 (show 3 < 2147483647 by decide), f_within0 (show 60 < 2147483647 by decide), hq'.1.1, hq'.1.2, hq'.2, Nat.reduceAdd, C.g0_3, C.t1 hk, C.t2 hk, e2, C2.v0, p_agree C2, o_bind, o_call, z_lit, b0, o_ret0', o_ret1', o_bI, Bool.true_eq_false, Bool.false_eq_true, eq_self, if_true, if_false]
    · have C1 := R1.c
      have M1 := R1.mt
      have F1 : Fr (PTm k) μ1 (dtSI (dtSI μ1 136 k (Int32.ofNat s)) 137 k (Int32.ofNat n)) := (Fr.SI (P := PTm k) (Or.inl ⟨Or.inl rfl, rfl⟩)).tr (Fr.SI (P := PTm k) (Or.inl ⟨Or.inr rfl, rfl⟩))
      obtain ⟨μ2, e2, F2, g2⟩ := tm49 hk (show n ≤ 60 by omega) n dtFuel 0 _ (by omega) (dtFuel_gt (by omega)) (C1.kept F1)
      have F12 := F1.tr (F2.wide (fun a j x => (Or.inr x : PTm k a j)))
      refine ⟨μ2, ?_, F12.wide (fun a j x => Or.inr (by have x' : ((a = 136 ∨ a = 137) ∧ j = k) ∨ (a = 138 ∧ 60 * k ≤ j ∧ j < 60 * k + 60) := x; omega)), M1.one F12 (by omega) (by omega) ?_ ?_ (fun j hj => ?_)⟩
      · rw [← e2]
        have C2 : CX (dtSI μ1 136 k (Int32.ofNat s)) := C1.SI
        simp (disch := omega) only [f_X12_tray, f_isTrayM, hq'.1.1, C1.g133_5, C2.g133_6, o_SI C1.s136 hk (by decide), o_SI C2.s137 hk (by decide), o_bind, o_call, z_lit, b0, o_ret0', o_ret1', o_bI, Bool.true_eq_false, Bool.false_eq_true, eq_self, if_true, if_false]
        rw [if_neg (show ¬ Int32.ofNat s < Int32.ofNat 0 by rw [z_lt0 (by omega)]; exact id), if_neg (show ¬ Int32.ofNat 3 < Int32.ofNat s by rw [z_lt (by decide) (by omega)]; omega), if_neg (show ¬ Int32.ofNat n < Int32.ofNat 0 by rw [z_lt0 (by omega)]; exact id), if_pos (show Int32.ofNat n ≤ Int32.ofNat 60 by rw [z_le (by omega) (by decide)]; omega)]
      · rw [F2.i (by omega), m_I_SI, if_neg (by omega), m_I_SI, if_pos ⟨rfl, rfl⟩]
      · rw [F2.i (by omega), m_I_SI, if_pos ⟨rfl, rfl⟩]
      · rw [g2 j hj, if_pos (Nat.zero_le _)]
def wSt (T : aT) (x y : Int32) : Nat := if inR x 4 = false then 1 else if taN T x.toNatClampNeg = 0 then 2 else if inR y (taN T x.toNatClampNeg - 1) = true then 0 else 3
theorem wSt_le {T : aT} {x y : Int32} : wSt T x y ≤ 3 := by
  unfold wSt
  by_cases h1 : inR x 4 = false
  · rw [if_pos h1]; omega
  · rw [if_neg h1]
    by_cases h2 : taN T x.toNatClampNeg = 0
    · rw [if_pos h2]; omega
    · rw [if_neg h2]
      by_cases h3 : inR y (taN T x.toNatClampNeg - 1) = true
      · rw [if_pos h3]; omega
      · rw [if_neg h3]; omega
theorem wSt_0 {T : aT} {x y : Int32} (hT : ∀ i, i < 4 → taN T i ≤ 61) (h : wSt T x y = 0) : ∃ i j, i < 4 ∧ x = Int32.ofNat i ∧ y = Int32.ofNat j ∧ j + 1 < taN T i := by
  unfold wSt at h
  by_cases h1 : inR x 4 = false
  · rw [if_pos h1] at h; omega
  · rw [if_neg h1] at h
    obtain ⟨i, hi, rfl⟩ := inR_t (n := 4) (by decide) (by simpa using h1)
    rw [z_cl (by omega)] at h
    have := hT i hi
    by_cases h2 : taN T i = 0
    · rw [if_pos h2] at h; omega
    · rw [if_neg h2] at h
      by_cases h3 : inR y (taN T i - 1) = true
      · obtain ⟨j, hj, rfl⟩ := inR_t (by omega) h3
        exact ⟨i, j, hi, rfl, rfl, by omega⟩
      · rw [if_neg h3] at h; omega
theorem f_withinM {x : Int32} {n : Nat} {μ : dtM} (hn : n < 2147483647) : f_X11_within x (Int32.ofNat 0) (zP n) μ = some (bI (inR x n), μ) := by
  cases n with
  | zero =>
    simp only [f_X11_within, f_X11_within_14, f_X11_within_15, o_ret0, o_ret1]
    rcases z_cases x with q | ⟨k, hk, rfl⟩
    · rw [if_pos q, inR_neg q]; rfl
    · rw [if_neg (by rw [z_lt0 hk]; exact id), if_pos, inR_n (by decide) hk, decide_eq_false (by omega)]
      · rfl
      · show -Int32.ofNat 1 < _
        rw [Int32.lt_iff_toInt_lt, z_tI hk, show (-Int32.ofNat 1).toInt = -1 by decide]
        omega
  | succ n => rw [zP_s]; exact f_within0 (by omega)
theorem p_place {μ : dtM} {w : aW} {f : aF} {A : aH} {z : aZ} (H : RP μ w f A z) (x y : Int32) : f_X11_placeStatus 0 x y μ = some (Int32.ofNat (wSt (zT z) x y), μ) := by
  have C := H.c
  have T := H.pt
  unfold wSt
  cases hq : inR x 4
  · simp only [f_X11_placeStatus, f_isTrayP, hq, o_bind, o_call, z_lit, b0, o_ret0', o_ret1', o_bI, Bool.true_eq_false, Bool.false_eq_true, eq_self, if_true, if_false]
  · obtain ⟨i, hi, rfl⟩ := inR_t (by decide) hq
    have h61 := (T i hi).1.2
    rw [z_cl (by omega), if_neg (by decide)]
    by_cases h2 : taN (zT z) i = 0
    · rw [if_pos h2]
      simp only [f_X11_placeStatus, f_isTrayP, hq, C.g0_3, C.t1 hi, T.no C hi h2, o_bind, o_call, z_lit, b0, o_ret0', o_ret1', o_bI, Bool.true_eq_false, Bool.false_eq_true, eq_self, if_true, if_false]
    · rw [if_neg h2]
      simp only [f_X11_placeStatus, f_X11_placeStatus_47, f_isTrayP, hq, C.g0_3, C.t1 hi, C.t2 hi, T.is C hi (by omega), T.ma C hi (by omega), z_dec', f_withinM (show taN (zT z) i - 1 < 2147483647 by omega), z_eq (show 1 < 2147483648 by decide) (show 0 < 2147483648 by decide), Nat.one_ne_zero, o_bind, o_call, z_lit, b0, o_ret0', o_ret1', o_bI, Bool.true_eq_false, Bool.false_eq_true, eq_self, if_true, if_false]
      cases h3 : inR y (taN (zT z) i - 1)
      · rw [if_pos rfl, if_neg (by decide)]
      · rw [if_neg (by decide), if_pos rfl]
theorem n_place {μ : dtM} {f : aF} {A : aH} {z : aZ} (H : RM μ f A z) (x y : Int32) : f_X12_wrongPlace 133 x y μ = some (Int32.ofNat (wSt (zT z) x y), μ) := by
  have C := H.c
  have T := H.mt
  unfold wSt
  cases hq : inR x 4
  · simp only [f_X12_wrongPlace, f_X12_wrongPlace_44, f_isTrayM, hq, o_bind, o_call, z_lit, b0, o_ret0', o_ret1', o_bI, Bool.true_eq_false, Bool.false_eq_true, eq_self, if_true, if_false]
  · obtain ⟨i, hi, rfl⟩ := inR_t (by decide) hq
    have h61 := (T i hi).1.2
    rw [z_cl (by omega), if_neg (by decide)]
    by_cases h2 : taN (zT z) i = 0
    · rw [if_pos h2]
      simp only [f_X12_wrongPlace, f_X12_wrongPlace_44, f_isTrayM, hq, C.g133_6, T.no C hi h2, o_bind, o_call, z_lit, b0, o_ret0', o_ret1', o_bI, Bool.true_eq_false, Bool.false_eq_true, eq_self, if_true, if_false]
    · rw [if_neg h2]
      simp (disch := omega) only [f_X12_wrongPlace, f_X12_wrongPlace_39, f_X12_wrongPlace_44, f_isTrayM, hq, C.g133_6, T.ma C hi (by omega), z_neg, o_bind, o_call, z_lit, b0, o_ret0', o_ret1', o_bI, Bool.true_eq_false, Bool.false_eq_true, eq_self, if_true, if_false]
      rcases z_cases y with hy | ⟨j, hj, rfl⟩
      · rw [if_pos hy, inR_neg hy, if_neg (by decide)]
      · rw [if_neg (by rw [z_lt0 hj]; exact id), inR_n (by omega) hj]
        simp (disch := omega) only [z_lt]
        by_cases h3 : j < taN (zT z) i - 1
        · rw [if_pos h3, decide_eq_true h3, if_pos rfl]
        · rw [if_neg h3, decide_eq_false h3, if_neg (by decide)]
def cutJ (s : Nat) (v : Int64) : Int64 := if s = 0 then v.toInt32.toInt8.toInt32.toInt64 else if s = 1 then v.toInt32.toInt16.toInt32.toInt64 else if s = 2 then v.toInt32.toInt64 else v
theorem f_cut {s : Nat} {v : Int64} {μ : dtM} (hs' : s ≤ 3) : f_X12_cut v (Int32.ofNat s) μ = some (cutJ s v, μ) := by
  simp (disch := omega) only [f_X12_cut, f_X12_cut_35, z_lit, z_eq]
  unfold cutJ
  by_cases h0 : s = 0
  · rw [if_pos h0, if_pos h0]
  · rw [if_neg h0, if_neg h0]
    by_cases h1 : s = 1
    · rw [if_pos h1, if_pos h1]
    · rw [if_neg h1, if_neg h1]
      by_cases h2 : s = 2
      · rw [if_pos h2, if_pos h2]
      · rw [if_neg h2, if_neg h2]
theorem p_put {μ : dtM} {T : aT} (H : PT μ T) (C : CX μ) {i j : Nat} {v : Int64} (h : i < 4) (hj : j + 1 < taN T i) : f_X9_put (2 + 2 * i) (Int32.ofNat j) v μ = some (dtSJ μ (3 + 2 * i) j (cutJ (taS T i) v)) := by
  have h61 := (H i h).1.2
  have h3 := (H i h).1.1
  simp (disch := omega) only [f_X9_put, f_X9_put_44, f_X9_put_57, f_X9_put_70, f_X9_put_82, f_X9_put_89, z_lit, H.ma C h (show 0 < taN T i by omega), H.so C h (show 0 < taN T i by omega), C.t3 h, o_bind, z_lt, z_eq, o_SJ (C.tr h).2.1 (show j < 60 by omega) (by decide)]
  rw [if_neg (Nat.not_lt_zero _), if_pos (by omega)]
  unfold cutJ
  by_cases h0 : taS T i = 0
  · rw [if_pos h0, if_pos h0]
  · rw [if_neg h0, if_neg h0]
    by_cases h1 : taS T i = 1
    · rw [if_pos h1, if_pos h1]
    · rw [if_neg h1, if_neg h1]
      by_cases h2 : taS T i = 2
      · rw [if_pos h2, if_pos h2]
      · rw [if_neg h2, if_neg h2]
theorem PT.put {μ : dtM} {T : aT} (H : PT μ T) {i j : Nat} {v : Int64} (h : i < 4) (hj : j + 1 < taN T i) : PT (dtSJ μ (3 + 2 * i) j v) (upT T i (taS T i) (taN T i) (fun b => if b = j then v else taV T i b)) := by
  obtain ⟨a, b, c⟩ := H i h
  have c' := c (by omega)
  have e : taN T i = (taN T i - 1) + 1 := by omega
  have X := H.one (k := i) (s := taS T i) (n := taN T i - 1) (g := fun b => if b = j then v else taV T i b) (μ' := dtSJ μ (3 + 2 * i) j v) (Fr.SJ (Or.inr rfl)) a.1 (by omega) (by rw [if_neg (by omega)] at b; exact b) c'.1 c'.2.1 (fun q hq => by
    rw [m_J_SJ]
    by_cases x : q = j
    · rw [if_pos ⟨rfl, x⟩, if_pos x]
    · rw [if_neg (fun y => x y.2), if_neg x]; exact c'.2.2 q (by omega))
  rw [← e] at X
  exact X
theorem MT.put {μ : dtM} {T : aT} (H : MT μ T) {i j : Nat} {v : Int64} (h : i < 4) (hj : j + 1 < taN T i) : MT (dtSJ μ 138 (60 * i + j) v) (upT T i (taS T i) (taN T i) (fun b => if b = j then v else taV T i b)) := by
  obtain ⟨a, b, c⟩ := H i h
  have c' := c (by omega)
  have e : taN T i = (taN T i - 1) + 1 := by omega
  have X := H.one (k := i) (s := taS T i) (n := taN T i - 1) (g := fun b => if b = j then v else taV T i b) (μ' := dtSJ μ 138 (60 * i + j) v) (Fr.SJ (Or.inr ⟨rfl, by omega, by omega⟩)) a.1 (by omega) c'.1 c'.2.1 (fun q hq => by
    rw [m_J_SJ]
    by_cases x : q = j
    · rw [if_pos ⟨rfl, by rw [x]⟩, if_pos x]
    · rw [if_neg (fun y => x (by have := y.2; omega)), if_neg x]; exact c'.2.2 q (by omega))
  rw [← e] at X
  exact X
theorem cs4 {μ : dtM} {w : aW} {f : aF} {A : aH} {z : aZ} (HP : RP μ w f A z) (HM : RM μ f A z) (W : dWF A (zD z)) (x y : Int32) (v : Int64) : both (f_X11_write 0 x y v) (f_X12_write 133 x y v) μ := by
  have C := HP.c
  have T := HP.pt
  have h3 := wSt_le (T := zT z) (x := x) (y := y)
  by_cases h0 : wSt (zT z) x y = 0
  · obtain ⟨i, j, hi, rfl, rfl, hj⟩ := wSt_0 (fun i hi => (T i hi).1.2) h0
    have h61 := (T i hi).1.2
    have hs3 := (T i hi).1.1
    refine both.tra HP HM W (bI true) (Int32.ofNat 0) (upT (zT z) i (taS (zT z) i) (taN (zT z) i) (fun b => if b = j then cutJ (taS (zT z) i) v else taV (zT z) i b)) ?_ (fun μ1 R1 => ?_)
    · have C2 : CX (dtSJ μ (3 + 2 * i) j (cutJ (taS (zT z) i) v)) := C.SJ
      refine ⟨_, ?_, Fr.SJ (Or.inr (by omega)), T.put hi hj⟩
      simp only [f_X11_write, C.v0, p_place HP, h0, C.g0_3, C.t1 hi, C.t2 hi, p_put T C hi hj, C2.v0, p_agree C2, o_bind, o_call, z_lit, b0, o_ret0', o_ret1', o_bI, Bool.true_eq_false, Bool.false_eq_true, eq_self, if_true, if_false]
    · have C1 := R1.c
      have M1 := R1.mt
      have C2 : CX (dtSJ μ1 138 (60 * i + j) (cutJ (taS (zT z) i) v)) := C1.SJ
      refine ⟨_, ?_, Fr.SJ (Or.inr (by omega)), M1.put hi hj⟩
      simp (disch := omega) only [f_X12_write, f_X12_write_34, C1.v133, n_place R1, h0, C1.g133_5, C1.g133_7, M1.so C1 hi (show 0 < taN (zT z) i by omega), f_cut hs3, z_mul, z_add, o_SJ C1.s138 (show 60 * i + j < 240 by omega) (by decide), C2.v133, n_is0 C2, o_bind, o_call, z_lit, b0, o_ret0', o_ret1', o_bI, Bool.true_eq_false, Bool.false_eq_true, eq_self, if_true, if_false]
  · refine both.no HP HM W (bI false) (Int32.ofNat (wSt (zT z) x y)) ?_ (fun μ1 R1 => ?_)
    · simp (disch := omega) only [f_X11_write, C.v0, p_place HP, z_eq, h0, p_refuse C, o_bind, o_call, z_lit, b0, o_ret0', o_ret1', o_bI, Bool.true_eq_false, Bool.false_eq_true, eq_self, if_true, if_false]
    · have C1 := R1.c
      simp (disch := omega) only [f_X12_write, f_X12_write_34, C1.v133, n_place R1, z_eq, h0, n_isW C1 (show 0 < wSt (zT z) x y ∧ wSt (zT z) x y < 2147483648 by omega), o_bind, o_call, z_lit, b0, o_ret0', o_ret1', o_bI, Bool.true_eq_false, Bool.false_eq_true, eq_self, if_true, if_false]
theorem cs5 {μ : dtM} {w : aW} {f : aF} {A : aH} {z : aZ} (HP : RP μ w f A z) (HM : RM μ f A z) (W : dWF A (zD z)) (x y : Int32) : both (f_X11_read 0 x y) (f_X12_read 133 x y) μ := by
  have C := HP.c
  have T := HP.pt
  have h3 := wSt_le (T := zT z) (x := x) (y := y)
  by_cases h0 : wSt (zT z) x y = 0
  · obtain ⟨i, j, hi, rfl, rfl, hj⟩ := wSt_0 (fun i hi => (T i hi).1.2) h0
    have h61 := (T i hi).1.2
    refine both.no HP HM W (taV (zT z) i j) (Int32.ofNat 0) ?_ (fun μ1 R1 => ?_)
    · have C2 : CX (dtSI μ 0 0 (Int32.ofNat 0)) := C.SI
      have T2 : PT (dtSI μ 0 0 (Int32.ofNat 0)) (zT z) := T.kept (P := fun k _ => k = 0) (Fr.SI rfl) (fun k j _ _ => by omega)
      simp only [f_X11_read, C.v0, p_place HP, h0, o_PI C.s0, C2.g0_3, C2.t1 hi, C2.t3 hi, T2.nu C2 hi hj, o_bind, o_call, z_lit, b0, o_ret0', o_ret1', o_bI, Bool.true_eq_false, Bool.false_eq_true, eq_self, if_true, if_false]
    · have C1 := R1.c
      have C2 : CX (dtSI μ1 133 2 (Int32.ofNat 0)) := C1.SI
      have M2 : MT (dtSI μ1 133 2 (Int32.ofNat 0)) (zT z) := R1.mt.kept (P := fun k _ => k = 133) (Fr.SI rfl) (fun k j _ _ => by omega)
      have x2 : dtI (dtSI μ1 133 2 (Int32.ofNat 0)) 133 2 = Int32.ofNat 0 := by rw [m_I_SI, if_pos ⟨rfl, rfl⟩]
      simp (disch := omega) only [f_X12_read, f_X12_read_34, C1.v133, n_place R1, h0, o_PI C1.s133, o_GI C2.s133, x2, z_le, C2.g133_7, z_mul, z_add, M2.nu C2 hi hj, Nat.le_refl, o_bind, o_call, z_lit, b0, o_ret0', o_ret1', o_bI, Bool.true_eq_false, Bool.false_eq_true, eq_self, if_true, if_false]
  · refine both.no HP HM W (-Int64.ofNat 1) (Int32.ofNat (wSt (zT z) x y)) ?_ (fun μ1 R1 => ?_)
    · simp (disch := omega) only [f_X11_read, C.v0, p_place HP, z_eq, h0, p_fail C, o_bind, o_call, z_lit, b0, o_ret0', o_ret1', o_bI, Bool.true_eq_false, Bool.false_eq_true, eq_self, if_true, if_false]
      rfl
    · have C1 := R1.c
      have C2 : CX (dtSI μ1 133 2 (Int32.ofNat (wSt (zT z) x y))) := C1.SI
      have x2 : dtI (dtSI μ1 133 2 (Int32.ofNat (wSt (zT z) x y))) 133 2 = Int32.ofNat (wSt (zT z) x y) := by rw [m_I_SI, if_pos ⟨rfl, rfl⟩]
      simp (disch := omega) only [f_X12_read, f_X12_read_34, C1.v133, n_place R1, o_PI C1.s133, o_GI C2.s133, x2, z_le, o_bind, o_call, z_lit, b0, o_ret0', o_ret1', o_bI, Bool.true_eq_false, Bool.false_eq_true, eq_self, if_true, if_false]
      rw [if_neg (by omega)]
      rfl
