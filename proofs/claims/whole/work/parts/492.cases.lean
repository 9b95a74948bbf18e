/-! PURE 32: the first cases -/
theorem RP.c {μ : dtM} {w : aW} {f : aF} {A : aH} {z : aZ} (H : RP μ w f A z) : CX μ := H.1
theorem RP.ph {μ : dtM} {w : aW} {f : aF} {A : aH} {z : aZ} (H : RP μ w f A z) : PH μ w.1 A := H.2.2.2.1
theorem RP.g5 {μ : dtM} {w : aW} {f : aF} {A : aH} {z : aZ} (H : RP μ w f A z) : opGR 11 5 μ 0 = some w.1 := o_GR H.1.s0 H.2.1.2.1
theorem RP.g6 {μ : dtM} {w : aW} {f : aF} {A : aH} {z : aZ} (H : RP μ w f A z) : opGR 11 6 μ 0 = some w.2.1 := o_GR H.1.s0 H.2.1.2.2.1
theorem RP.g7 {μ : dtM} {w : aW} {f : aF} {A : aH} {z : aZ} (H : RP μ w f A z) : opGR 11 7 μ 0 = some w.2.2.1 := o_GR H.1.s0 H.2.1.2.2.2.1
theorem RP.g8 {μ : dtM} {w : aW} {f : aF} {A : aH} {z : aZ} (H : RP μ w f A z) : opGR 11 8 μ 0 = some w.2.2.2 := o_GR H.1.s0 H.2.1.2.2.2.2
theorem RP.hh {μ : dtM} {w : aW} {f : aF} {A : aH} {z : aZ} (H : RP μ w f A z) : w.1 + 12 < 123 := by
  have := H.2.1.1.1
  omega
theorem RM.c {μ : dtM} {f : aF} {A : aH} {z : aZ} (H : RM μ f A z) : CX μ := H.1
theorem RM.mh {μ : dtM} {f : aF} {A : aH} {z : aZ} (H : RM μ f A z) : MH μ 0 0 A := H.2.2.1
theorem CX.v0 {μ : dtM} (C : CX μ) : opRv 11 μ 0 = some () := o_Rv C.s0
theorem CX.v133 {μ : dtM} (C : CX μ) : opRv 12 μ 133 = some () := o_Rv C.s133
theorem CX.SI {μ : dtM} {k j : Nat} {v : Int32} (C : CX μ) : CX (dtSI μ k j v) := C.kept (P := fun _ _ => True) (Fr.SI trivial)
theorem CX.SJ {μ : dtM} {k j : Nat} {v : Int64} (C : CX μ) : CX (dtSJ μ k j v) := C.kept (P := fun _ _ => True) (Fr.SJ trivial)
theorem p_ans {μ : dtM} {v : Int32} (C : CX μ) : f_X11_answer 0 v μ = some (v, dtSI μ 0 0 (Int32.ofNat 0)) := by
  simp only [f_X11_answer, o_PI C.s0, o_bind, z_lit]
theorem p_fail {μ : dtM} {v : Int32} (C : CX μ) : f_X11_fail 0 v μ = some (-Int32.ofNat 1, dtSI μ 0 0 v) := by
  simp only [f_X11_fail, o_PI C.s0, o_bind, z_lit]
theorem p_agree {μ : dtM} (C : CX μ) : f_X11_agree 0 μ = some (bI true, dtSI μ 0 0 (Int32.ofNat 0)) := by
  simp only [f_X11_agree, o_PI C.s0, o_bind, z_lit, o_ret1']
theorem p_refuse {μ : dtM} {v : Int32} (C : CX μ) : f_X11_refuse 0 v μ = some (bI false, dtSI μ 0 0 v) := by
  simp only [f_X11_refuse, o_PI C.s0, o_bind, z_lit, o_ret0']
theorem p_found {μ : dtM} {o : Option Nat} (C : CX μ) (h : ∀ v, o = some v → v < 2147483648) : f_X11_found 0 (oN o) μ = some (oN o, dtSI μ 0 0 (oS o)) := by
  cases o with
  | none => simp only [f_X11_found, f_X11_found_19, oN, oS, z_lit, if_true, p_fail C, C.v0, o_bind, o_call]
  | some v =>
    have := h v rfl
    simp only [f_X11_found, f_X11_found_19, oN, oS, z_lit, z_neg this, if_false, p_ans C, C.v0, o_bind, o_call]
theorem n_gives {μ : dtM} {v : Int32} (C : CX μ) : f_X12_gives 133 v μ = some (v, dtSI μ 133 2 (Int32.ofNat 0)) := m_gives C.s133 v
theorem n_refuse {μ : dtM} {v : Int32} (C : CX μ) : f_X12_refuse 133 v μ = some (-Int32.ofNat 1, dtSI μ 133 2 v) := m_refuse C.s133 v
theorem n_is0 {μ : dtM} (C : CX μ) : f_X12_is 133 (Int32.ofNat 0) μ = some (bI true, dtSI μ 133 2 (Int32.ofNat 0)) := m_is0 C.s133
theorem n_isW {μ : dtM} {w : Nat} (C : CX μ) (hw : 0 < w ∧ w < 2147483648) : f_X12_is 133 (Int32.ofNat w) μ = some (bI false, dtSI μ 133 2 (Int32.ofNat w)) := m_isW C.s133 hw
def ScP0 (w : aW) (k j : Nat) : Prop := ScP w k j ∧ ¬ k = 0
def ScM0 (k j : Nat) : Prop := ScM k j ∧ ¬ (k = 133 ∧ j = 2)
theorem both.out {α : Type} {a b : dtM → Option (α × dtM)} {μ : dtM} {w : aW} {f : aF} {A : aH} {z : aZ} (HP : RP μ w f A z) (HM : RM μ f A z) (W : dWF A (zD z)) {v : α} {st : Int32}
    (hP : ∃ μ1, a μ = some (v, dtSI μ1 0 0 st) ∧ Fr (ScP w) μ μ1) (hM : ∀ μ1, RM μ1 f A z → ∃ μ2, b μ1 = some (v, dtSI μ2 133 2 st) ∧ Fr ScM μ1 μ2) : both a b μ := by
  obtain ⟨μ1, e1, F1⟩ := hP
  refine both.sc HP HM W (v := v) (st := st) ⟨_, e1, F1.tr (Fr.SI (Or.inl ⟨rfl, rfl⟩)), by rw [m_I_SI, if_pos ⟨rfl, rfl⟩]⟩ (fun μ1 R1 => ?_)
  obtain ⟨μ2, e2, F2⟩ := hM μ1 R1
  exact ⟨_, e2, F2.tr (Fr.SI (Or.inl (by decide))), by rw [m_I_SI, if_pos ⟨rfl, rfl⟩]⟩
theorem both.no {α : Type} {a b : dtM → Option (α × dtM)} {μ : dtM} {w : aW} {f : aF} {A : aH} {z : aZ} (HP : RP μ w f A z) (HM : RM μ f A z) (W : dWF A (zD z)) (v : α) (st : Int32)
    (hP : a μ = some (v, dtSI μ 0 0 st)) (hM : ∀ μ1, RM μ1 f A z → b μ1 = some (v, dtSI μ1 133 2 st)) : both a b μ :=
  both.out HP HM W ⟨μ, hP, Fr.rf⟩ (fun μ1 R1 => ⟨μ1, hM μ1 R1, Fr.rf⟩)
/-- a house that becomes another one, and an answer -/
theorem both.hou {α : Type} {a b : dtM → Option (α × dtM)} {μ : dtM} {w : aW} {f : aF} {A : aH} {z : aZ} (HP : RP μ w f A z) (HM : RM μ f A z) (W : dWF A (zD z)) (v : α) (st : Int32) (A' : aH)
    (hP : ∃ μ1, a μ = some (v, dtSI μ1 0 0 st) ∧ Fr (ScHP w) μ μ1 ∧ PH μ1 w.1 A') (hM : ∀ μ1, RM μ1 f A z → ∃ μ2, b μ1 = some (v, dtSI μ2 133 2 st) ∧ Fr ScHM μ1 μ2 ∧ MH μ2 0 0 A') (W' : dWF A' (zD z)) : both a b μ := by
  obtain ⟨μ1, e1, F1, h1⟩ := hP
  have hh := HP.2.1.1.1
  refine both.ho HP HM W (v := v) (st := st) ⟨_, e1, F1.tr (Fr.SI (Or.inl (Or.inl ⟨rfl, rfl⟩))), h1.kept (P := fun k j => k = 0) (Fr.SI rfl) (fun k _ _ j => by omega), by rw [m_I_SI, if_pos ⟨rfl, rfl⟩]⟩ (fun μ1 R1 => ?_) W'
  obtain ⟨μ2, e2, F2, h2⟩ := hM μ1 R1
  exact ⟨_, e2, F2.tr (Fr.SI (Or.inl (Or.inl (by decide)))), h2.keptAt (P := fun k j => k = 133) (Fr.SI rfl) (fun j _ _ _ => show ¬ 134 = 133 by decide) (fun j _ _ => show ¬ 135 = 133 by decide), by rw [m_I_SI, if_pos ⟨rfl, rfl⟩]⟩
theorem inR_ne {x : Int32} {n k : Nat} (h : inR x n = false) (hk : k < n) (hn : n < 2147483648) : ¬ x = Int32.ofNat k := by
  intro e
  rw [e, inR_n hn (by omega), decide_eq_true hk] at h
  cases h
theorem z_lt0 {a : Nat} (ha : a < 2147483648) : (Int32.ofNat a < Int32.ofNat 0) = False := by rw [z_lt ha (by decide)]; exact propext ⟨fun q => absurd q (Nat.not_lt_zero a), False.elim⟩
theorem z_le0 {a : Nat} (ha : a < 2147483648) : (Int32.ofNat 0 ≤ Int32.ofNat a) = True := by rw [z_le (by decide) ha]; exact propext ⟨fun _ => trivial, fun _ => Nat.zero_le _⟩
theorem z_le0n {x : Int32} (h : x < Int32.ofNat 0) : (Int32.ofNat 0 ≤ x) = False := propext ⟨fun q => absurd h (Int32.not_lt.mpr q), False.elim⟩
theorem z_ltT {x y : Int32} (h : x < y) : (x < y) = True := eq_true h
theorem MH.gj {μ : dtM} {A : aH} (H : MH μ 0 0 A) {j : Nat} (hj : j < 6) : opLI 1 μ 134 (Int32.ofNat j) = some (Int32.ofNat (hs A j)) := by
  have e := H.2.1.1 j hj
  rw [Nat.zero_add] at e
  rw [o_LI H.s (by omega) (by decide), e]
theorem MH.w3 {μ : dtM} {A : aH} (H : MH μ 0 0 A) {w : Nat} (q : w < hs A 2) : opLI 1 μ 134 (Int32.ofNat (40 + 5 * w)) = some (Int32.ofNat (ht A 3 w)) := H.wl (t := 3) ⟨by decide, by decide⟩ q (Or.inr (Or.inl ⟨rfl, q⟩))
theorem MH.w4 {μ : dtM} {A : aH} (H : MH μ 0 0 A) {w k : Nat} (q : w < hs A 2) (hk : k < ht A 3 w) : opLI 1 μ 134 (Int32.ofNat (40 + 5 * w + 1 + k)) = some (Int32.ofNat (ht A (4 + k) w)) := by
  have h4 := (H.word q).2.1
  have e := H.wl (t := 4 + k) (w := w) ⟨by omega, by omega⟩ q (Or.inr (Or.inr (Or.inl ⟨by omega, q, by omega⟩)))
  rw [show 40 + 5 * w + (4 + k - 3) = 40 + 5 * w + 1 + k by omega] at e
  exact e
theorem cs0 {μ : dtM} {w : aW} {f : aF} {A : aH} {z : aZ} (HP : RP μ w f A z) (HM : RM μ f A z) (W : dWF A (zD z)) : both (f_X11_status 0) (f_X12_status 133) μ := by
  refine both.mk HP HM W (v := f.1) ⟨μ, ?_, Fr.rf, HP⟩ (fun μ1 R1 => ⟨μ1, ?_, Fr.rf, R1⟩) W
  · simp only [f_X11_status, o_GI HP.c.s0, o_bind, HP.2.2.1.1]
  · simp only [f_X12_status, o_GI R1.c.s133, o_bind, R1.2.1.1]
theorem cs1 {μ : dtM} {w : aW} {f : aF} {A : aH} {z : aZ} (HP : RP μ w f A z) (HM : RM μ f A z) (W : dWF A (zD z)) : both (f_X11_top 0) (f_X12_top 133) μ := by
  refine both.mk HP HM W (v := f.2.1) ⟨μ, ?_, Fr.rf, HP⟩ (fun μ1 R1 => ⟨μ1, ?_, Fr.rf, R1⟩) W
  · simp only [f_X11_top, o_GJ HP.c.s0, o_bind, HP.2.2.1.2.1]
  · simp only [f_X12_top, o_GJ R1.c.s133, o_bind, R1.2.1.2.1]
theorem cs2 {μ : dtM} {w : aW} {f : aF} {A : aH} {z : aZ} (HP : RP μ w f A z) (HM : RM μ f A z) (W : dWF A (zD z)) : both (f_X11_bottom 0) (f_X12_bottom 133) μ := by
  refine both.mk HP HM W (v := f.2.2) ⟨μ, ?_, Fr.rf, HP⟩ (fun μ1 R1 => ⟨μ1, ?_, Fr.rf, R1⟩) W
  · simp only [f_X11_bottom, o_GJ HP.c.s0, o_bind, HP.2.2.1.2.2]
  · simp only [f_X12_bottom, o_GJ R1.c.s133, o_bind, R1.2.1.2.2]
theorem cs13 {μ : dtM} {w : aW} {f : aF} {A : aH} {z : aZ} (HP : RP μ w f A z) (HM : RM μ f A z) (W : dWF A (zD z)) (x : Int32) : both (f_X11_says 0 x) (f_X12_says 133 x) μ := by
  have C := HP.c
  have HH := HP.ph
  have g5 := HP.g5
  have hnr := HH.nr
  have hnd := HH.nd
  have hnw := HH.nw
  have hnp := HH.np
  cases hq : inR x (hs A 2)
  · refine both.no HP HM W (-Int32.ofNat 1) (Int32.ofNat 1) ?_ (fun μ1 R1 => ?_)
    · simp only [f_X11_says, g5, C.v0, HH.rv, HH.hasWord, hq, p_fail C, o_bind, o_call, z_lit, b0, o_ret0', o_ret1', o_bI, Bool.true_eq_false, Bool.false_eq_true, eq_self, if_true, if_false]
    · have C1 := R1.c
      have M1 := R1.mh
      simp only [f_X12_says, f_X12_says_29, C1.v133, M1.r0, M1.isWord, hq, n_refuse C1, o_bind, o_call, z_lit, b0, o_ret0', o_ret1', o_bI, Bool.true_eq_false, Bool.false_eq_true, eq_self, if_true, if_false]
  · obtain ⟨k, hk, rfl⟩ := inR_t (by omega) hq
    refine both.no HP HM W (Int32.ofNat (ht A 3 k)) (Int32.ofNat 0) ?_ (fun μ1 R1 => ?_)
    · simp only [f_X11_says, g5, C.v0, HH.rv, HH.hasWord, hq, HH.r12, HH.l3 hk, p_ans C, o_bind, o_call, z_lit, b0, o_ret0', o_ret1', o_bI, Bool.true_eq_false, Bool.false_eq_true, eq_self, if_true, if_false]
    · have C1 := R1.c
      have M1 := R1.mh
      simp only [f_X12_says, f_X12_says_29, f_X12_wordRow, C1.v133, M1.r0, M1.isWord, hq, z_mul, z_add, M1.w3 hk, n_gives C1, o_bind, o_call, z_lit, b0, o_ret0', o_ret1', o_bI, Bool.true_eq_false, Bool.false_eq_true, eq_self, if_true, if_false]
theorem cs14 {μ : dtM} {w : aW} {f : aF} {A : aH} {z : aZ} (HP : RP μ w f A z) (HM : RM μ f A z) (W : dWF A (zD z)) (x y : Int32) : both (f_X11_saysAt 0 x y) (f_X12_saysAt 133 x y) μ := by
  have C := HP.c
  have HH := HP.ph
  have g5 := HP.g5
  have hnr := HH.nr
  have hnd := HH.nd
  have hnw := HH.nw
  have hnp := HH.np
  cases hq : inR x (hs A 2)
  · refine both.no HP HM W (-Int32.ofNat 1) (Int32.ofNat 1) ?_ (fun μ1 R1 => ?_)
    · simp only [f_X11_saysAt, f_X11_saysAt_15, g5, C.v0, HH.rv, HH.hasWord, hq, p_fail C, o_bind, o_call, z_lit, b0, o_ret0', o_ret1', o_bI, Bool.true_eq_false, Bool.false_eq_true, eq_self, if_true, if_false]
    · have C1 := R1.c
      have M1 := R1.mh
      simp only [f_X12_saysAt, f_X12_saysAt_12, C1.v133, M1.r0, M1.isWord, hq, n_refuse C1, o_bind, o_call, z_lit, b0, o_ret0', o_ret1', o_bI, Bool.true_eq_false, Bool.false_eq_true, eq_self, if_true, if_false]
  · obtain ⟨k, hk, rfl⟩ := inR_t (by omega) hq
    have h4 := (HH.word hk).2.1
    rcases z_cases y with hy | ⟨j, hj, rfl⟩
    · refine both.no HP HM W (-Int32.ofNat 1) (Int32.ofNat 1) ?_ (fun μ1 R1 => ?_)
      · simp only [f_X11_saysAt, f_X11_saysAt_15, g5, C.v0, HH.rv, HH.hasWord, hq, z_le0n hy, p_fail C, o_bind, o_call, z_lit, b0, o_ret0', o_ret1', o_bI, Bool.true_eq_false, Bool.false_eq_true, eq_self, if_true, if_false]
      · have C1 := R1.c
        have M1 := R1.mh
        simp only [f_X12_saysAt, f_X12_saysAt_12, C1.v133, M1.r0, M1.isWord, hq, z_le0n hy, n_refuse C1, o_bind, o_call, z_lit, b0, o_ret0', o_ret1', o_bI, Bool.true_eq_false, Bool.false_eq_true, eq_self, if_true, if_false]
    · by_cases h : j < ht A 3 k
      · refine both.no HP HM W (Int32.ofNat (ht A (4 + j) k)) (Int32.ofNat 0) ?_ (fun μ1 R1 => ?_)
        · simp only [f_X11_saysAt, g5, C.v0, HH.rv, HH.hasWord, hq, z_le0 hj, HH.r12, HH.l3 hk, z_lt hj (show ht A 3 k < 2147483648 by omega), h, HH.soundOfWord hk h, p_ans C, o_bind, o_call, z_lit, b0, o_ret0', o_ret1', o_bI, Bool.true_eq_false, Bool.false_eq_true, eq_self, if_true, if_false]
        · have C1 := R1.c
          have M1 := R1.mh
          simp only [f_X12_saysAt, f_X12_saysAt_57, f_X12_wordRow, C1.v133, M1.r0, M1.isWord, hq, z_le0 hj, z_mul, z_add, M1.w3 hk, z_lt hj (show ht A 3 k < 2147483648 by omega), h, M1.w4 hk h, n_gives C1, o_bind, o_call, z_lit, b0, o_ret0', o_ret1', o_bI, Bool.true_eq_false, Bool.false_eq_true, eq_self, if_true, if_false]
      · refine both.no HP HM W (-Int32.ofNat 1) (Int32.ofNat 6) ?_ (fun μ1 R1 => ?_)
        · simp only [f_X11_saysAt, g5, C.v0, HH.rv, HH.hasWord, hq, z_le0 hj, HH.r12, HH.l3 hk, z_lt hj (show ht A 3 k < 2147483648 by omega), h, p_fail C, o_bind, o_call, z_lit, b0, o_ret0', o_ret1', o_bI, Bool.true_eq_false, Bool.false_eq_true, eq_self, if_true, if_false]
        · have C1 := R1.c
          have M1 := R1.mh
          simp only [f_X12_saysAt, f_X12_saysAt_57, f_X12_wordRow, C1.v133, M1.r0, M1.isWord, hq, z_le0 hj, z_mul, z_add, M1.w3 hk, z_lt hj (show ht A 3 k < 2147483648 by omega), h, n_refuse C1, o_bind, o_call, z_lit, b0, o_ret0', o_ret1', o_bI, Bool.true_eq_false, Bool.false_eq_true, eq_self, if_true, if_false]
theorem cs16 {μ : dtM} {w : aW} {f : aF} {A : aH} {z : aZ} (HP : RP μ w f A z) (HM : RM μ f A z) (W : dWF A (zD z)) (x y : Int32) : both (f_X11_heardAt 0 x y) (f_X12_heardAt 133 x y) μ := by
  have C := HP.c
  have HH := HP.ph
  have g5 := HP.g5
  have hnr := HH.nr
  have hnd := HH.nd
  have hnw := HH.nw
  have hnp := HH.np
  cases hq : inR x (hs A 3)
  · refine both.no HP HM W (-Int32.ofNat 1) (Int32.ofNat 1) ?_ (fun μ1 R1 => ?_)
    · simp only [f_X11_heardAt, f_X11_heardAt_15, g5, C.v0, HH.rv, HH.hasPerson, hq, p_fail C, o_bind, o_call, z_lit, b0, o_ret0', o_ret1', o_bI, Bool.true_eq_false, Bool.false_eq_true, eq_self, if_true, if_false]
    · have C1 := R1.c
      have M1 := R1.mh
      simp only [f_X12_heardAt, f_X12_heardAt_12, C1.v133, M1.r0, M1.isPerson, hq, n_refuse C1, o_bind, o_call, z_lit, b0, o_ret0', o_ret1', o_bI, Bool.true_eq_false, Bool.false_eq_true, eq_self, if_true, if_false]
  · obtain ⟨k, hk, rfl⟩ := inR_t (by omega) hq
    have h4 := (HH.pers hk).2.2.2.1
    rcases z_cases y with hy | ⟨j, hj, rfl⟩
    · refine both.no HP HM W (-Int32.ofNat 1) (Int32.ofNat 1) ?_ (fun μ1 R1 => ?_)
      · simp only [f_X11_heardAt, f_X11_heardAt_15, g5, C.v0, HH.rv, HH.hasPerson, hq, z_le0n hy, p_fail C, o_bind, o_call, z_lit, b0, o_ret0', o_ret1', o_bI, Bool.true_eq_false, Bool.false_eq_true, eq_self, if_true, if_false]
      · have C1 := R1.c
        have M1 := R1.mh
        simp only [f_X12_heardAt, f_X12_heardAt_12, C1.v133, M1.r0, M1.isPerson, hq, z_le0n hy, n_refuse C1, o_bind, o_call, z_lit, b0, o_ret0', o_ret1', o_bI, Bool.true_eq_false, Bool.false_eq_true, eq_self, if_true, if_false]
    · have p3 := fun (m : dtM) (X : MH m 0 0 A) => X.personOf (k := 3) (by decide) hk
      by_cases h : j < ht A 11 k
      · refine both.no HP HM W (Int32.ofNat (ht A (12 + j) k)) (Int32.ofNat 0) ?_ (fun μ1 R1 => ?_)
        · simp only [f_X11_heardAt, g5, C.v0, HH.rv, HH.hasPerson, hq, z_le0 hj, HH.r17, HH.r18, HH.l11 hk, z_mul, z_add, z_lt hj (show ht A 11 k < 2147483648 by omega), h, HH.l12 hk h, p_ans C, o_bind, o_call, z_lit, b0, o_ret0', o_ret1', o_bI, Bool.true_eq_false, Bool.false_eq_true, eq_self, if_true, if_false]
        · have C1 := R1.c
          have M1 := R1.mh
          simp only [f_X12_heardAt, f_X12_heardAt_49, C1.v133, M1.r0, M1.isPerson, hq, z_le0 hj, z_add, p3 _ M1, Nat.reduceAdd, z_lt hj (show ht A 11 k < 2147483648 by omega), h, M1.heardOf hk h, n_gives C1, o_bind, o_call, z_lit, b0, o_ret0', o_ret1', o_bI, Bool.true_eq_false, Bool.false_eq_true, eq_self, if_true, if_false]
      · refine both.no HP HM W (-Int32.ofNat 1) (Int32.ofNat 6) ?_ (fun μ1 R1 => ?_)
        · simp only [f_X11_heardAt, g5, C.v0, HH.rv, HH.hasPerson, hq, z_le0 hj, HH.r17, HH.l11 hk, z_lt hj (show ht A 11 k < 2147483648 by omega), h, p_fail C, o_bind, o_call, z_lit, b0, o_ret0', o_ret1', o_bI, Bool.true_eq_false, Bool.false_eq_true, eq_self, if_true, if_false]
        · have C1 := R1.c
          have M1 := R1.mh
          simp only [f_X12_heardAt, f_X12_heardAt_49, C1.v133, M1.r0, M1.isPerson, hq, z_le0 hj, p3 _ M1, Nat.reduceAdd, z_lt hj (show ht A 11 k < 2147483648 by omega), h, n_refuse C1, o_bind, o_call, z_lit, b0, o_ret0', o_ret1', o_bI, Bool.true_eq_false, Bool.false_eq_true, eq_self, if_true, if_false]
