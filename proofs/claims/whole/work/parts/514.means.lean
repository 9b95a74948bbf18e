/-! PURE 54: means, unsaid, shared -/
theorem f_isFromL {v : Int64} {lim : Nat} {μ : dtM} (hl : lim < 2147483648) : f_X12_isFrom v (Int64.ofNat 0) (Int64.ofNat lim - Int64.ofNat 1) μ = some (bI (sJ v lim), μ) := by
  by_cases h0 : lim = 0
  · subst h0
    simp only [f_X12_isFrom, f_X12_isFrom_17, f_X12_isFrom_18, z_lit, l_lt, l_gt, o_ret0', o_ret1']
    unfold sJ
    rw [decide_eq_false (fun x => x.1 x.2)]
    rcases j_cases v with q | ⟨k, hk, rfl⟩
    · rw [if_pos q]
    · have n0 : ¬ Int64.ofNat k < Int64.ofNat 0 := by rw [j_lt hk (by omega)]; omega
      have n1 : Int64.ofNat 0 - Int64.ofNat 1 < Int64.ofNat k := by
        rw [Int64.lt_iff_toInt_lt, show (Int64.ofNat 0 - Int64.ofNat 1).toInt = -1 by decide, Int64.toInt_ofNat_of_lt hk]
        omega
      rw [if_neg n0, if_pos n1]
  · rw [j_sub (show 1 ≤ lim by omega)]
    exact f_isFromJ ⟨by omega, by omega⟩
def wrC (A : aH) (T : aT) (x t y : Int32) (M lim : Nat) : Nat := if (inR x (hs A 3) && inR y (M + 1)) = false then 1 else if ¬ rSt T t y.toNatClampNeg = 0 then rSt T t y.toNatClampNeg else if abB (taV T t.toNatClampNeg) lim y.toNatClampNeg 0 = true then 0 else 5
theorem wrC_le {A : aH} {T : aT} {x t y : Int32} {M lim : Nat} : wrC A T x t y M lim ≤ 5 := by
  have := rSt_le (T := T) (x := t) (n := y.toNatClampNeg)
  unfold wrC
  by_cases h1 : (inR x (hs A 3) && inR y (M + 1)) = false
  · rw [if_pos h1]; omega
  · rw [if_neg h1]
    by_cases h2 : ¬ rSt T t y.toNatClampNeg = 0
    · rw [if_pos h2]; omega
    · rw [if_neg h2]
      by_cases h3 : abB (taV T t.toNatClampNeg) lim y.toNatClampNeg 0 = true
      · rw [if_pos h3]; omega
      · rw [if_neg h3]; omega
theorem wrC_0 {A : aH} {T : aT} {x t y : Int32} {M lim : Nat} (hp5 : hs A 3 ≤ 5) (hM : M ≤ 20) (h : wrC A T x t y M lim = 0) : ∃ p i n, p < hs A 3 ∧ i < 4 ∧ n ≤ M ∧ n < taN T i ∧ x = Int32.ofNat p ∧ t = Int32.ofNat i ∧ y = Int32.ofNat n ∧ abB (taV T i) lim n 0 = true := by
  unfold wrC at h
  by_cases h1 : (inR x (hs A 3) && inR y (M + 1)) = false
  · rw [if_pos h1] at h; omega
  · rw [if_neg h1] at h
    have h1' : (inR x (hs A 3) && inR y (M + 1)) = true := by simpa using h1
    rw [Bool.and_eq_true] at h1'
    obtain ⟨p, hp, rfl⟩ := inR_t (by omega) h1'.1
    obtain ⟨n, hn, rfl⟩ := inR_t (by omega) h1'.2
    rw [z_cl (by omega)] at h
    by_cases h2 : ¬ rSt T t n = 0
    · rw [if_pos h2] at h; exact absurd h h2
    · rw [if_neg h2] at h
      obtain ⟨i, hi, rfl, hin⟩ := rSt_0 (Classical.byContradiction h2)
      rw [z_cl (by omega)] at h
      by_cases h3 : abB (taV T i) lim n 0 = true
      · exact ⟨p, i, n, hp, hi, by omega, hin, rfl, rfl, rfl, h3⟩
      · rw [if_neg h3] at h; omega
theorem wr56 {μ : dtM} {T : aT} (H : MT μ T) (C : CX μ) {i N lim : Nat} (h : i < 4) (hN : N < taN T i) (hl : lim < 2147483648) : ∀ (n f j : Nat), j + n = N → n < f → f_X12_wrongRow_56 f 133 (Int32.ofNat i) (Int32.ofNat N) (Int32.ofNat lim) (Int32.ofNat j) μ = some (Int32.ofNat (if abB (taV T i) lim n j = true then 0 else 5), μ) := by
  have h61 := (H i h).1.2
  intro n
  induction n with
  | zero =>
    intro f j e hf
    cases f with
    | zero => omega
    | succ f =>
      simp (disch := omega) only [f_X12_wrongRow_56, z_le, z_lit]
      rw [if_pos (by omega)]; rfl
  | succ n ih =>
    intro f j e hf
    cases f with
    | zero => omega
    | succ f =>
      have hx := ih f (j + 1) (by omega) (by omega)
      simp (disch := omega) only [f_X12_wrongRow_56, z_le, z_lit, C.g133_7, z_mul, z_add, H.nu C h (show j + 1 < taN T i by omega), o_bind, o_call, j_lit, j_of, f_isFromL hl, b0]
      rw [if_neg (by omega), abB]
      cases q : sJ (taV T i j) lim
      · rw [if_pos rfl, if_neg (c := false = true) (by decide), if_neg (by decide)]
      · rw [if_neg (by decide), if_pos (c := true = true) rfl, hx]
theorem n_wrong {μ : dtM} {f : aF} {A : aH} {z : aZ} (H : RM μ f A z) (x t y : Int32) {M lim : Nat} (hM : M ≤ 20) (hl : lim < 2147483648) : f_X12_wrongRow 133 x t y (Int32.ofNat M) (Int32.ofNat lim) μ = some (Int32.ofNat (wrC A (zT z) x t y M lim), μ) := by
  have C := H.c
  have M1 := H.mh
  have T := H.mt
  have hnp := M1.np
  unfold wrC
  cases h1 : inR x (hs A 3)
  · simp only [f_X12_wrongRow, f_X12_wrongRow_27, C.v133, M1.isPerson, h1, Bool.false_and, o_bind, o_call, z_lit, b0, o_ret0', o_ret1', o_bI, Bool.true_eq_false, Bool.false_eq_true, eq_self, if_true, if_false]
  · cases h2 : inR y (M + 1)
    · cases h3 : inR t 4
      · simp only [f_X12_wrongRow, f_X12_wrongRow_27, C.v133, M1.isPerson, h1, h3, f_isTrayM, Bool.and_false, o_bind, o_call, z_lit, b0, o_ret0', o_ret1', o_bI, Bool.true_eq_false, Bool.false_eq_true, eq_self, if_true, if_false]
      · simp only [f_X12_wrongRow, f_X12_wrongRow_27, C.v133, M1.isPerson, h1, h2, h3, f_isTrayM, j_lit, j_of (show M < 2147483648 by omega), f_isFrom (show M < 2147483647 by omega), Bool.and_false, o_bind, o_call, z_lit, b0, o_ret0', o_ret1', o_bI, Bool.true_eq_false, Bool.false_eq_true, eq_self, if_true, if_false]
    · obtain ⟨n, hn, rfl⟩ := inR_t (by omega) h2
      rw [z_cl (by omega), if_neg (by decide)]
      cases h3 : inR t 4
      · have r1 : rSt (zT z) t n = 1 := if_pos h3
        rw [r1, if_pos (by decide)]
        simp only [f_X12_wrongRow, f_X12_wrongRow_27, C.v133, M1.isPerson, h1, h3, f_isTrayM, o_bind, o_call, z_lit, b0, o_ret0', o_ret1', o_bI, Bool.true_eq_false, Bool.false_eq_true, eq_self, if_true, if_false]
      · obtain ⟨i, hi, rfl⟩ := inR_t (by decide) h3
        have h61 := (T i hi).1.2
        rw [z_cl (by omega)]
        have er : rSt (zT z) (Int32.ofNat i) n = if taN (zT z) i = 0 then 2 else if n < taN (zT z) i then 0 else 3 := by
          unfold rSt
          rw [if_neg (by rw [h3]; decide), z_cl (by omega)]
        rw [er]
        by_cases h4 : taN (zT z) i = 0
        · rw [if_pos h4, if_pos (by decide)]
          simp only [f_X12_wrongRow, C.v133, M1.isPerson, h1, h2, h3, f_isTrayM, j_lit, j_of (show M < 2147483648 by omega), f_isFrom (show M < 2147483647 by omega), C.g133_6, T.no C hi h4, o_bind, o_call, z_lit, b0, o_ret0', o_ret1', o_bI, Bool.true_eq_false, Bool.false_eq_true, eq_self, if_true, if_false]
        · rw [if_neg h4]
          simp only [f_X12_wrongRow, C.v133, M1.isPerson, h1, h2, h3, f_isTrayM, j_lit, j_of (show M < 2147483648 by omega), f_isFrom (show M < 2147483647 by omega), C.g133_6, T.ma C hi (by omega), z_neg (show taN (zT z) i - 1 < 2147483648 by omega), z_le (show n < 2147483648 by omega) (show taN (zT z) i - 1 < 2147483648 by omega), o_bind, o_call, z_lit, b0, o_ret0', o_ret1', o_bI, Bool.true_eq_false, Bool.false_eq_true, eq_self, if_true, if_false]
          by_cases h5 : n < taN (zT z) i
          · rw [if_pos (by omega), if_pos h5, if_neg (by decide)]
            exact wr56 T C hi h5 hl n dtFuel 0 (by omega) (dtFuel_gt (by omega))
          · rw [if_neg (by omega), if_neg h5, if_pos (by decide)]
def kkT (T : aT) (i j : Nat) : Nat := (taV T i j).toNatClampNeg
theorem sJ_k {v : Int64} {lim : Nat} (hl : lim < 2147483648) (h : sJ v lim = true) : v = Int64.ofNat v.toNatClampNeg ∧ v.toNatClampNeg < lim := by
  obtain ⟨k, hk, rfl⟩ := sJ_t (by omega) h
  rw [Int64.toNatClampNeg_ofNat_of_lt (show k < 2 ^ 63 by omega)]
  exact ⟨rfl, hk⟩
theorem kkT_ok {T : aT} {i lim N : Nat} (hl : lim < 2147483648) (h : abB (taV T i) lim N 0 = true) : ∀ j, j < N → taV T i j = Int64.ofNat (kkT T i j) ∧ kkT T i j < lim := fun j hj => sJ_k hl (abB_t N 0 h j (Nat.zero_le _) (by omega))
theorem RP.scF {w : aW} {f : aF} {A : aH} {z : aZ} {μ μ' : dtM} (H : RP μ w f A z) (F : Fr (ScP w) μ μ') : RP μ' w (dtI μ' 0 0, f.2) A z := H.sc F rfl
theorem RM.scF {f : aF} {A : aH} {z : aZ} {μ μ' : dtM} (H : RM μ f A z) (W : dWF A (zD z)) (F : Fr ScM μ μ') : RM μ' (dtI μ' 133 2, f.2) A z := H.sc W F rfl
theorem me87 {w : aW} {A : aH} {z : aZ} {p i N : Nat} (hp : p < hs A 3) (hi : i < 4) (hN : N < taN (zT z) i) (h20 : N ≤ 20) (hk : ∀ j, j < N → taV (zT z) i j = Int64.ofNat (kkT (zT z) i j) ∧ kkT (zT z) i j < 4) : ∀ (n f j : Nat) (μ : dtM) (fr : aF), j + n = N → n < f → RP μ w fr A z → pRw μ j (kkT (zT z) i) → ∃ μ', f_X11_means_87 f 0 (Int32.ofNat p) (Int32.ofNat i) (Int32.ofNat N) (Int32.ofNat j) μ = some (Int32.ofNat (rc A (ht A 10 p) (kkT (zT z) i) N 0), dtSI μ' 0 0 (Int32.ofNat 0)) ∧ Fr (ScP w) μ μ' := by
  intro n
  induction n with
  | zero =>
    intro f j μ fr e hf HP R
    have C := HP.c
    have HH := HP.ph
    have g5 := HP.g5
    have hnw := HH.nw
    have h10 := (HH.pers hp).2.2.1
    have h2 : 2 ^ hs A 2 ≤ 128 := Nat.pow_le_pow_right (n := 2) (by decide) hnw
    have : j = N := by omega
    subst this
    obtain ⟨μ3, e3, F3, _⟩ := HH.countReadings HP.hh C (kn := ht A 10 p) (by omega) R
    have C3 := C.kept F3
    cases f with
    | zero => omega
    | succ f =>
      refine ⟨μ3, ?_, F3.wide (fun k j x => P126.s x)⟩
      simp (disch := omega) only [f_X11_means_87, z_le, C.g0_15, g5, HH.r16, HH.l10 hp, o_Rv C.s124, e3, C3.v0, p_ans C3, o_bind, o_call]
      rw [if_pos (Nat.le_refl _)]
  | succ n ih =>
    intro f j μ fr e hf HP R
    have C := HP.c
    have T := HP.pt
    have h61 := (T i hi).1.2
    cases f with
    | zero => omega
    | succ f =>
      obtain ⟨ev, hk4⟩ := hk j (by omega)
      obtain ⟨μ1, e1, F1, R1⟩ := p_addSound C R (s := kkT (zT z) i j) (by omega) hk4
      have F1' : Fr (ScP w) μ μ1 := F1.wide (fun k j x => P5w.s x)
      obtain ⟨μ2, e2, F2⟩ := ih f (j + 1) μ1 _ (by omega) (by omega) (HP.scF F1') (R1.cg (fun q hq => by
        show (if q = j then _ else _) = _
        by_cases y : q = j
        · rw [if_pos y, y]
        · rw [if_neg y]))
      refine ⟨μ2, ?_, F1'.tr F2⟩
      rw [← e2]
      have ps := p_small T C hi (show j + 1 < taN (zT z) i by omega) (show kkT (zT z) i j < 2147483648 by omega) ev
      simp (disch := omega) only [f_X11_means_87, z_le, C.g0_15, C.g0_3, C.t1 hi, C.t2 hi, ps, o_Rv C.s124, e1, o_bind, o_call, z_lit, z_add]
      rw [if_neg (by omega)]
theorem me32 {A : aH} {z : aZ} (W : dWF A (zD z)) {p i N : Nat} (hp : p < hs A 3) (hi : i < 4) (hN : N < taN (zT z) i) (h20 : N ≤ 20) (hk : ∀ j, j < N → taV (zT z) i j = Int64.ofNat (kkT (zT z) i j) ∧ kkT (zT z) i j < 4) : ∀ (n f j : Nat) (μ : dtM) (fr : aF), j + n = N → n < f → RM μ fr A z → dtI μ 133 27 = Int32.ofNat N → LV μ 143 j (kkT (zT z) i) → ∃ μ', f_X12_means_32 f 133 (Int32.ofNat p) (Int32.ofNat i) (Int32.ofNat N) (Int32.ofNat j) μ = some (Int32.ofNat (rc A (ht A 10 p) (kkT (zT z) i) N 0), dtSI μ' 133 2 (Int32.ofNat 0)) ∧ Fr ScM μ μ' := by
  intro n
  induction n with
  | zero =>
    intro f j μ fr e hf HM h27 L
    have C := HM.c
    have M1 := HM.mh
    have hnw := M1.nw
    have h10 := (M1.pers hp).2.2.1
    have h2 : 2 ^ hs A 2 ≤ 128 := Nat.pow_le_pow_right (n := 2) (by decide) hnw
    have : j = N := by omega
    subst this
    have R : mRw μ j (kkT (zT z) i) := ⟨by omega, fun q hq => (hk q hq).2, h27, L⟩
    obtain ⟨μ3, e3, F3, _⟩ := M1.laysReadings C (kn := ht A 10 p) (by omega) R
    have C3 := C.kept F3
    have p2 : f_X12_personOf 133 (Int32.ofNat p) (Int32.ofNat 2) μ = some (Int32.ofNat (ht A 10 p), μ) := M1.personOf (k := 2) (by decide) hp
    cases f with
    | zero => omega
    | succ f =>
      refine ⟨μ3, ?_, F3.wide (fun k j x => P144.s x)⟩
      simp (disch := omega) only [f_X12_means_32, z_le, C.v133, z_lit, p2, e3, C3.v133, n_gives C3, o_bind, o_call]
      rw [if_pos (Nat.le_refl _)]
  | succ n ih =>
    intro f j μ fr e hf HM h27 L
    have C := HM.c
    have T := HM.mt
    have h61 := (T i hi).1.2
    cases f with
    | zero => omega
    | succ f =>
      obtain ⟨ev, hk4⟩ := hk j (by omega)
      have F1 : Fr ScM μ (dtSI μ 143 j (Int32.ofNat (kkT (zT z) i j))) := Fr.SI (Pmw.s (Or.inr rfl))
      obtain ⟨μ2, e2, F2⟩ := ih f (j + 1) _ _ (by omega) (by omega) (HM.scF W F1) (by rw [m_I_SI, if_neg (by omega)]; exact h27) (lv_put L rfl)
      refine ⟨μ2, ?_, F1.tr F2⟩
      rw [← e2]
      simp (disch := omega) only [f_X12_means_32, z_le, C.g133_25, C.g133_7, z_lit, z_mul, z_add, T.nu C hi (show j + 1 < taN (zT z) i by omega), ev, j_to, o_SI C.s143 (show j < 24 by omega) (by decide), o_bind]
      rw [if_neg (by omega)]
def usF (A : aH) (kk : Nat → Nat) (i : Nat) (st : Nat × (Nat → Nat)) : Nat × (Nat → Nat) := (st.1 + ht A 3 (kk i), apw A st.2 st.1 (kk i))
theorem us93 {w : aW} {A : aH} {z : aZ} {p i N : Nat} (hp : p < hs A 3) (hi : i < 4) (hN : N < taN (zT z) i) (h6 : N ≤ 6) (hk : ∀ j, j < N → taV (zT z) i j = Int64.ofNat (kkT (zT z) i j) ∧ kkT (zT z) i j < hs A 2) : ∀ (n f j : Nat) (st : Nat × (Nat → Nat)) (μ : dtM) (fr : aF), j + n = N → n < f → RP μ w fr A z → st.1 ≤ 4 * j → pRw μ st.1 st.2 → ∃ μ', f_X11_unsaid_93 f 0 (Int32.ofNat p) (Int32.ofNat i) (Int32.ofNat N) (Int32.ofNat j) μ = some (Int32.ofNat (rc A (ht A 10 p) (fo (usF A (kkT (zT z) i)) n j st).2 (fo (usF A (kkT (zT z) i)) n j st).1 0), dtSI μ' 0 0 (Int32.ofNat 0)) ∧ Fr (ScP w) μ μ' := by
  intro n
  induction n with
  | zero =>
    intro f j st μ fr e hf HP hs4 R
    have C := HP.c
    have HH := HP.ph
    have g5 := HP.g5
    have hnw := HH.nw
    have h10 := (HH.pers hp).2.2.1
    have h2 : 2 ^ hs A 2 ≤ 128 := Nat.pow_le_pow_right (n := 2) (by decide) hnw
    obtain ⟨μ3, e3, F3, _⟩ := HH.countReadings HP.hh C (kn := ht A 10 p) (by omega) R
    have C3 := C.kept F3
    cases f with
    | zero => omega
    | succ f =>
      refine ⟨μ3, ?_, F3.wide (fun k j x => P126.s x)⟩
      simp (disch := omega) only [f_X11_unsaid_93, z_le, C.g0_15, g5, HH.r16, HH.l10 hp, o_Rv C.s124, e3, C3.v0, p_ans C3, o_bind, o_call]
      rw [if_pos (by omega)]; rfl
  | succ n ih =>
    intro f j st μ fr e hf HP hs4 R
    have C := HP.c
    have HH := HP.ph
    have T := HP.pt
    have g5 := HP.g5
    have hnw := HH.nw
    have h61 := (T i hi).1.2
    cases f with
    | zero => omega
    | succ f =>
      obtain ⟨ev, hkw⟩ := hk j (by omega)
      have hl4 := (HH.word hkw).2.1
      obtain ⟨μ1, e1, F1, R1⟩ := HH.addWord HP.hh C R hkw (by omega)
      have F1' : Fr (ScP w) μ μ1 := F1.wide (fun k j x => P5w.s x)
      obtain ⟨μ2, e2, F2⟩ := ih f (j + 1) (usF A (kkT (zT z) i) j st) μ1 _ (by omega) (by omega) (HP.scF F1') (by show st.1 + _ ≤ _; omega) R1
      refine ⟨μ2, ?_, F1'.tr F2⟩
      rw [fo, ← e2]
      have ps := p_small T C hi (show j + 1 < taN (zT z) i by omega) (show kkT (zT z) i j < 2147483648 by omega) ev
      simp (disch := omega) only [f_X11_unsaid_93, z_le, C.g0_15, C.g0_3, g5, C.t1 hi, C.t2 hi, ps, o_Rv C.s124, e1, o_bind, o_call, z_lit, z_add]
      rw [if_neg (by omega)]
theorem us37 {A : aH} {z : aZ} (W : dWF A (zD z)) {p i N : Nat} (hp : p < hs A 3) (hi : i < 4) (hN : N < taN (zT z) i) (h6 : N ≤ 6) (hk : ∀ j, j < N → taV (zT z) i j = Int64.ofNat (kkT (zT z) i j) ∧ kkT (zT z) i j < hs A 2) : ∀ (n f j : Nat) (st : Nat × (Nat → Nat)) (μ : dtM) (fr : aF), j + n = N → n < f → RM μ fr A z → st.1 ≤ 4 * j → mRw μ st.1 st.2 → ∃ μ', f_X12_unsaid_37 f 133 (Int32.ofNat p) (Int32.ofNat i) (Int32.ofNat N) (Int32.ofNat j) μ = some (Int32.ofNat (rc A (ht A 10 p) (fo (usF A (kkT (zT z) i)) n j st).2 (fo (usF A (kkT (zT z) i)) n j st).1 0), dtSI μ' 133 2 (Int32.ofNat 0)) ∧ Fr ScM μ μ' := by
  intro n
  induction n with
  | zero =>
    intro f j st μ fr e hf HM hs4 R
    have C := HM.c
    have M1 := HM.mh
    have hnw := M1.nw
    have h10 := (M1.pers hp).2.2.1
    have h2 : 2 ^ hs A 2 ≤ 128 := Nat.pow_le_pow_right (n := 2) (by decide) hnw
    obtain ⟨μ3, e3, F3, _⟩ := M1.laysReadings C (kn := ht A 10 p) (by omega) R
    have C3 := C.kept F3
    have p2 : f_X12_personOf 133 (Int32.ofNat p) (Int32.ofNat 2) μ = some (Int32.ofNat (ht A 10 p), μ) := M1.personOf (k := 2) (by decide) hp
    cases f with
    | zero => omega
    | succ f =>
      refine ⟨μ3, ?_, F3.wide (fun k j x => P144.s x)⟩
      simp (disch := omega) only [f_X12_unsaid_37, z_le, C.v133, z_lit, p2, e3, C3.v133, n_gives C3, o_bind, o_call]
      rw [if_pos (by omega)]; rfl
  | succ n ih =>
    intro f j st μ fr e hf HM hs4 R
    have C := HM.c
    have M1 := HM.mh
    have T := HM.mt
    have hnw := M1.nw
    have h61 := (T i hi).1.2
    cases f with
    | zero => omega
    | succ f =>
      obtain ⟨ev, hkw⟩ := hk j (by omega)
      have hl4 := (M1.word hkw).2.1
      obtain ⟨μ1, e1, F1, R1⟩ := M1.utters C R hkw (by omega)
      have F1' : Fr ScM μ μ1 := F1.wide (fun k j x => Pmw.s x)
      obtain ⟨μ2, e2, F2⟩ := ih f (j + 1) (usF A (kkT (zT z) i) j st) μ1 _ (by omega) (by omega) (HM.scF W F1') (by show st.1 + _ ≤ _; omega) R1
      refine ⟨μ2, ?_, F1'.tr F2⟩
      rw [fo, ← e2]
      simp (disch := omega) only [f_X12_unsaid_37, z_le, C.g133_7, C.v133, z_lit, z_mul, z_add, T.nu C hi (show j + 1 < taN (zT z) i by omega), ev, j_to, e1, o_bind]
      rw [if_neg (by omega)]
theorem cs35 {μ : dtM} {w : aW} {f : aF} {A : aH} {z : aZ} (HP : RP μ w f A z) (HM : RM μ f A z) (W : dWF A (zD z)) (x t y : Int32) : both (f_X11_means 0 x t y) (f_X12_means 133 x t y) μ := by
  have C := HP.c
  have HH := HP.ph
  have g5 := HP.g5
  have hnr := HH.nr
  have hnd := HH.nd
  have hnw := HH.nw
  have hnp := HH.np
  have T := HP.pt
  have w5 := wrC_le (A := A) (T := zT z) (x := x) (t := t) (y := y) (M := 20) (lim := 4)
  by_cases h0 : wrC A (zT z) x t y 20 4 = 0
  · obtain ⟨p, i, n, hp, hi, hn, hin, rfl, rfl, rfl, hab⟩ := wrC_0 hnp (by decide) h0
    have kk := kkT_ok (by omega) hab
    have h61 := (T i hi).1.2
    have qp : inR (Int32.ofNat p) (hs A 3) = true := by rw [inR_n (by omega) (by omega), decide_eq_true hp]
    have qn : inR (Int32.ofNat n) 21 = true := by rw [inR_n (by decide) (by omega), decide_eq_true (by omega)]
    have r0 : rSt (zT z) (Int32.ofNat i) n = 0 := by
      unfold rSt
      rw [if_neg (by rw [inR_n (by decide) (by omega), decide_eq_true hi]; decide), z_cl (by omega), if_neg (by omega), if_pos hin]
    have pr := p_run HP (Int32.ofNat i) (n := n) (by omega)
    rw [r0] at pr
    have al := p_allBelow T C (lim := 4) hi hin (by omega)
    rw [hab] at al
    refine both.out HP HM W (v := Int32.ofNat (rc A (ht A 10 p) (kkT (zT z) i) n 0)) (st := Int32.ofNat 0) ?_ (fun μ1 R1 => ?_)
    · obtain ⟨b1, b2⟩ := p_beginRow C (kkT (zT z) i)
      have F1 : Fr (ScP w) μ (dtSI μ 124 1 (Int32.ofNat 0)) := Fr.SI (P5w.s (Or.inl ⟨rfl, rfl⟩))
      obtain ⟨μ2, e2, F2⟩ := me87 hp hi hin (by omega) kk n dtFuel 0 _ _ (by omega) (dtFuel_gt (by omega)) (HP.scF F1) b2
      refine ⟨μ2, ?_, F1.tr F2⟩
      rw [← e2]
      simp only [f_X11_means, f_X11_means_26, f_X11_means_43, g5, C.v0, HH.rv, HH.hasPerson, qp, f_within0 (show 20 < 2147483647 by decide), qn, Nat.reduceAdd, pr, C.g0_3, C.t1 hi, C.t2 hi, al, C.g0_15, o_Rv C.s124, b1, z_eq (show 1 < 2147483648 by decide) (show 0 < 2147483648 by decide), Nat.one_ne_zero, o_bind, o_call, z_lit, b0, o_ret0', o_ret1', o_bI, Bool.true_eq_false, Bool.false_eq_true, eq_self, if_true, if_false]
    · have C1 := R1.c
      have M1 := R1.mh
      have nw := n_wrong R1 (Int32.ofNat p) (Int32.ofNat i) (Int32.ofNat n) (M := 20) (lim := 4) (by decide) (by omega)
      rw [h0] at nw
      have F1 : Fr ScM μ1 (dtSI μ1 133 27 (Int32.ofNat n)) := Fr.SI (Pmw.s (Or.inl ⟨rfl, rfl⟩))
      obtain ⟨μ2, e2, F2⟩ := me32 W hp hi hin (by omega) kk n dtFuel 0 _ _ (by omega) (dtFuel_gt (by omega)) (R1.scF W F1) (by rw [m_I_SI, if_pos ⟨rfl, rfl⟩]) (fun j hj => absurd hj (Nat.not_lt_zero j))
      refine ⟨μ2, ?_, F1.tr F2⟩
      rw [← e2]
      simp only [f_X12_means, C1.v133, nw, o_PI C1.s133, z_le (show 0 < 2147483648 by decide) (show 0 < 2147483648 by decide), Nat.le_refl, o_bind, o_call, z_lit, b0, o_ret0', o_ret1', o_bI, Bool.true_eq_false, Bool.false_eq_true, eq_self, if_true, if_false]
  · refine both.no HP HM W (-Int32.ofNat 1) (Int32.ofNat (wrC A (zT z) x t y 20 4)) ?_ (fun μ1 R1 => ?_)
    · unfold wrC at h0 ⊢
      cases hq : (inR x (hs A 3) && inR y (20 + 1))
      · rw [if_pos rfl]
        simp only [f_X11_means, f_X11_means_25, f_X11_means_26, f_X11_means_43, g5, C.v0, HH.rv, HH.hasPerson, f_within0 (show 20 < 2147483647 by decide), p_fail C, z_eq (show 1 < 2147483648 by decide) (show 0 < 2147483648 by decide), Nat.one_ne_zero, o_bind, o_call, z_lit, b0, o_ret0', o_ret1', o_bI, Bool.true_eq_false, Bool.false_eq_true, eq_self, if_true, if_false]
        cases h1 : inR x (hs A 3)
        · rw [if_pos rfl]
        · rw [if_neg (by decide)]
          cases h2 : inR y (20 + 1)
          · rw [if_pos rfl]
          · rw [h1, h2] at hq; exact absurd hq (by decide)
      · rw [hq, if_neg (by decide)] at h0
        rw [if_neg (by decide)]
        have hq' := hq
        rw [Bool.and_eq_true] at hq'
        obtain ⟨n, hn, rfl⟩ := inR_t (by decide) hq'.2
        rw [z_cl (by omega)] at h0 ⊢
        have rl := rSt_le (T := zT z) (x := t) (n := n)
        have pr := p_run HP t (n := n) (by omega)
        by_cases h2 : ¬ rSt (zT z) t n = 0
        · rw [if_pos h2]
          simp (disch := omega) only [f_X11_means, f_X11_means_26, f_X11_means_43, g5, C.v0, HH.rv, HH.hasPerson, hq'.1, hq'.2, f_within0 (show 20 < 2147483647 by decide), pr, z_eq, h2, Nat.one_ne_zero, p_fail C, o_bind, o_call, z_lit, b0, o_ret0', o_ret1', o_bI, Bool.true_eq_false, Bool.false_eq_true, eq_self, if_true, if_false]
        · rw [if_neg h2] at h0 ⊢
          have h2' : rSt (zT z) t n = 0 := Classical.byContradiction h2
          obtain ⟨i, hi, rfl, hin⟩ := rSt_0 h2'
          have h61 := (T i hi).1.2
          rw [z_cl (by omega)] at h0 ⊢
          have al := p_allBelow T C (lim := 4) hi hin (by omega)
          cases h3 : abB (taV (zT z) i) 4 n 0
          · rw [h3] at al
            rw [if_neg (by decide)]
            rw [h2'] at pr
            simp (disch := omega) only [f_X11_means, f_X11_means_26, f_X11_means_43, g5, C.v0, HH.rv, HH.hasPerson, hq'.1, hq'.2, f_within0 (show 20 < 2147483647 by decide), pr, C.g0_3, C.t1 hi, C.t2 hi, al, z_eq, Nat.one_ne_zero, p_fail C, o_bind, o_call, z_lit, b0, o_ret0', o_ret1', o_bI, Bool.true_eq_false, Bool.false_eq_true, eq_self, if_true, if_false]
          · rw [h3, if_pos rfl] at h0; exact absurd rfl h0
    · have C1 := R1.c
      have M1 := R1.mh
      have nw := n_wrong R1 x t y (M := 20) (lim := 4) (by decide) (by omega)
      simp only [f_X12_means, C1.v133, nw, n_refuse C1, z_le (show wrC A (zT z) x t y 20 4 < 2147483648 by omega) (show 0 < 2147483648 by decide), o_bind, o_call, z_lit, b0, o_ret0', o_ret1', o_bI, Bool.true_eq_false, Bool.false_eq_true, eq_self, if_true, if_false]
      rw [if_neg (by omega)]
theorem cs36 {μ : dtM} {w : aW} {f : aF} {A : aH} {z : aZ} (HP : RP μ w f A z) (HM : RM μ f A z) (W : dWF A (zD z)) (x t y : Int32) : both (f_X11_unsaid 0 x t y) (f_X12_unsaid 133 x t y) μ := by
  have C := HP.c
  have HH := HP.ph
  have g5 := HP.g5
  have hnr := HH.nr
  have hnd := HH.nd
  have hnw := HH.nw
  have hnp := HH.np
  have T := HP.pt
  have w5 := wrC_le (A := A) (T := zT z) (x := x) (t := t) (y := y) (M := 6) (lim := (hs A 2))
  by_cases h0 : wrC A (zT z) x t y 6 (hs A 2) = 0
  · obtain ⟨p, i, n, hp, hi, hn, hin, rfl, rfl, rfl, hab⟩ := wrC_0 hnp (by decide) h0
    have kk := kkT_ok (by omega) hab
    have h61 := (T i hi).1.2
    have qp : inR (Int32.ofNat p) (hs A 3) = true := by rw [inR_n (by omega) (by omega), decide_eq_true hp]
    have qn : inR (Int32.ofNat n) 7 = true := by rw [inR_n (by decide) (by omega), decide_eq_true (by omega)]
    have r0 : rSt (zT z) (Int32.ofNat i) n = 0 := by
      unfold rSt
      rw [if_neg (by rw [inR_n (by decide) (by omega), decide_eq_true hi]; decide), z_cl (by omega), if_neg (by omega), if_pos hin]
    have pr := p_run HP (Int32.ofNat i) (n := n) (by omega)
    rw [r0] at pr
    have al := p_allBelow T C (lim := (hs A 2)) hi hin (by omega)
    rw [hab] at al
    refine both.out HP HM W (v := Int32.ofNat (rc A (ht A 10 p) (fo (usF A (kkT (zT z) i)) n 0 (0, fun _ => 0)).2 (fo (usF A (kkT (zT z) i)) n 0 (0, fun _ => 0)).1 0)) (st := Int32.ofNat 0) ?_ (fun μ1 R1 => ?_)
    · obtain ⟨b1, b2⟩ := p_beginRow C (fun _ => 0)
      have F1 : Fr (ScP w) μ (dtSI μ 124 1 (Int32.ofNat 0)) := Fr.SI (P5w.s (Or.inl ⟨rfl, rfl⟩))
      obtain ⟨μ2, e2, F2⟩ := us93 hp hi hin (by omega) kk n dtFuel 0 (0, fun _ => 0) _ _ (by omega) (dtFuel_gt (by omega)) (HP.scF F1) (Nat.zero_le _) b2
      refine ⟨μ2, ?_, F1.tr F2⟩
      rw [← e2]
      simp only [f_X11_unsaid, f_X11_unsaid_26, f_X11_unsaid_43, g5, C.v0, HH.rv, HH.hasPerson, qp, f_within0 (show 6 < 2147483647 by decide), qn, Nat.reduceAdd, pr, C.g0_3, C.t1 hi, C.t2 hi, HH.g2, al, C.g0_15, o_Rv C.s124, b1, z_eq (show 1 < 2147483648 by decide) (show 0 < 2147483648 by decide), Nat.one_ne_zero, o_bind, o_call, z_lit, b0, o_ret0', o_ret1', o_bI, Bool.true_eq_false, Bool.false_eq_true, eq_self, if_true, if_false]
    · have C1 := R1.c
      have M1 := R1.mh
      have nw := n_wrong R1 (Int32.ofNat p) (Int32.ofNat i) (Int32.ofNat n) (M := 6) (lim := (hs A 2)) (by decide) (by omega)
      rw [h0] at nw
      have F1 : Fr ScM μ1 (dtSI μ1 133 27 (Int32.ofNat 0)) := Fr.SI (Pmw.s (Or.inl ⟨rfl, rfl⟩))
      obtain ⟨μ2, e2, F2⟩ := us37 W hp hi hin (by omega) kk n dtFuel 0 (0, fun _ => 0) _ _ (by omega) (dtFuel_gt (by omega)) (R1.scF W F1) (Nat.zero_le _) ⟨by decide, fun j hj => absurd hj (Nat.not_lt_zero j), by rw [m_I_SI, if_pos ⟨rfl, rfl⟩], fun j hj => absurd hj (Nat.not_lt_zero j)⟩
      refine ⟨μ2, ?_, F1.tr F2⟩
      rw [← e2]
      have mg := M1.gj (j := 2) (by decide)
      simp only [f_X12_unsaid, C1.v133, C1.g133_0, mg, nw, o_PI C1.s133, z_le (show 0 < 2147483648 by decide) (show 0 < 2147483648 by decide), Nat.le_refl, o_bind, o_call, z_lit, b0, o_ret0', o_ret1', o_bI, Bool.true_eq_false, Bool.false_eq_true, eq_self, if_true, if_false]
  · refine both.no HP HM W (-Int32.ofNat 1) (Int32.ofNat (wrC A (zT z) x t y 6 (hs A 2))) ?_ (fun μ1 R1 => ?_)
    · unfold wrC at h0 ⊢
      cases hq : (inR x (hs A 3) && inR y (6 + 1))
      · rw [if_pos rfl]
        simp only [f_X11_unsaid, f_X11_unsaid_25, f_X11_unsaid_26, f_X11_unsaid_43, g5, C.v0, HH.rv, HH.hasPerson, f_within0 (show 6 < 2147483647 by decide), p_fail C, z_eq (show 1 < 2147483648 by decide) (show 0 < 2147483648 by decide), Nat.one_ne_zero, o_bind, o_call, z_lit, b0, o_ret0', o_ret1', o_bI, Bool.true_eq_false, Bool.false_eq_true, eq_self, if_true, if_false]
        cases h1 : inR x (hs A 3)
        · rw [if_pos rfl]
        · rw [if_neg (by decide)]
          cases h2 : inR y (6 + 1)
          · rw [if_pos rfl]
          · rw [h1, h2] at hq; exact absurd hq (by decide)
      · rw [hq, if_neg (by decide)] at h0
        rw [if_neg (by decide)]
        have hq' := hq
        rw [Bool.and_eq_true] at hq'
        obtain ⟨n, hn, rfl⟩ := inR_t (by decide) hq'.2
        rw [z_cl (by omega)] at h0 ⊢
        have rl := rSt_le (T := zT z) (x := t) (n := n)
        have pr := p_run HP t (n := n) (by omega)
        by_cases h2 : ¬ rSt (zT z) t n = 0
        · rw [if_pos h2]
          simp (disch := omega) only [f_X11_unsaid, f_X11_unsaid_26, f_X11_unsaid_43, g5, C.v0, HH.rv, HH.hasPerson, hq'.1, hq'.2, f_within0 (show 6 < 2147483647 by decide), pr, z_eq, h2, Nat.one_ne_zero, p_fail C, o_bind, o_call, z_lit, b0, o_ret0', o_ret1', o_bI, Bool.true_eq_false, Bool.false_eq_true, eq_self, if_true, if_false]
        · rw [if_neg h2] at h0 ⊢
          have h2' : rSt (zT z) t n = 0 := Classical.byContradiction h2
          obtain ⟨i, hi, rfl, hin⟩ := rSt_0 h2'
          have h61 := (T i hi).1.2
          rw [z_cl (by omega)] at h0 ⊢
          have al := p_allBelow T C (lim := (hs A 2)) hi hin (by omega)
          cases h3 : abB (taV (zT z) i) (hs A 2) n 0
          · rw [h3] at al
            rw [if_neg (by decide)]
            rw [h2'] at pr
            simp (disch := omega) only [f_X11_unsaid, f_X11_unsaid_26, f_X11_unsaid_43, g5, C.v0, HH.rv, HH.hasPerson, hq'.1, hq'.2, f_within0 (show 6 < 2147483647 by decide), pr, C.g0_3, C.t1 hi, C.t2 hi, HH.g2, al, z_eq, Nat.one_ne_zero, p_fail C, o_bind, o_call, z_lit, b0, o_ret0', o_ret1', o_bI, Bool.true_eq_false, Bool.false_eq_true, eq_self, if_true, if_false]
          · rw [h3, if_pos rfl] at h0; exact absurd rfl h0
    · have C1 := R1.c
      have M1 := R1.mh
      have nw := n_wrong R1 x t y (M := 6) (lim := (hs A 2)) (by decide) (by omega)
      have mg := M1.gj (j := 2) (by decide)
      simp only [f_X12_unsaid, C1.v133, C1.g133_0, mg, nw, n_refuse C1, z_le (show wrC A (zT z) x t y 6 (hs A 2) < 2147483648 by omega) (show 0 < 2147483648 by decide), o_bind, o_call, z_lit, b0, o_ret0', o_ret1', o_bI, Bool.true_eq_false, Bool.false_eq_true, eq_self, if_true, if_false]
      rw [if_neg (by omega)]
