/-! PURE 55: shared -/
def shB (A : aH) (k1 k2 w acc : Nat) : Nat := if k1.testBit w = true ∧ ¬ rc A k2 (apw A (fun _ => 0) 0 w) (0 + ht A 3 w) 0 = 0 then acc ||| 2 ^ w else acc
theorem ws6 {w : aW} {A : aH} {z : aZ} {k1 k2 : Nat} (h1 : k1 < 128) (h2 : k2 < 128) : ∀ (n f i acc : Nat) (μ : dtM) (fr : aF), i + n = hs A 2 → n < f → RP μ w fr A z → ∃ μ', f_X5_wordsShared_6 f 124 w.1 (Int32.ofNat k1) (Int32.ofNat k2) (Int32.ofNat acc) (Int32.ofNat i) μ = some (Int32.ofNat (fo (shB A k1 k2) n i acc), μ') ∧ Fr (ScP w) μ μ' := by
  intro n
  induction n with
  | zero =>
    intro f i acc μ fr e hf HP
    have HH := HP.ph
    have hnw := HH.nw
    cases f with
    | zero => omega
    | succ f =>
      refine ⟨μ, ?_, Fr.rf⟩
      simp (disch := omega) only [f_X5_wordsShared_6, HH.g2, z_le, o_bind]
      rw [if_pos (by omega)]; rfl
  | succ n ih =>
    intro f i acc μ fr e hf HP
    have C := HP.c
    have HH := HP.ph
    have hnw := HH.nw
    have hl := (HH.word (w := i) (by omega)).2.1
    cases f with
    | zero => omega
    | succ f =>
      cases q : k1.testBit i
      · obtain ⟨μ2, e2, F2⟩ := ih f (i + 1) acc μ fr (by omega) (by omega) HP
        refine ⟨μ2, ?_, F2⟩
        rw [fo, shB, if_neg (fun x => absurd (q.symm.trans x.1) (by decide)), ← e2]
        simp (disch := omega) only [f_X5_wordsShared_6, f_X5_wordsShared_53, HH.g2, z_le, o_bind, o_call, f_contains, q, b0, if_true, z_lit, z_add]
        rw [if_neg (by omega)]
      · obtain ⟨b1, b2⟩ := p_beginRow C (fun _ => 0)
        have F0 : Fr (ScP w) μ (dtSI μ 124 1 (Int32.ofNat 0)) := Fr.SI (P5w.s (Or.inl ⟨rfl, rfl⟩))
        have HP0 := HP.scF F0
        obtain ⟨μ1, e1, F1, R1⟩ := HP0.ph.addWord HP.hh HP0.c b2 (w := i) (by omega) (by omega)
        have F1' : Fr (ScP w) _ μ1 := F1.wide (fun k j x => P5w.s x)
        have HP1 := HP0.scF F1'
        obtain ⟨μ3, e3, F3, _⟩ := HP1.ph.countReadings HP.hh HP1.c (kn := k2) h2 R1
        have F3' : Fr (ScP w) μ1 μ3 := F3.wide (fun k j x => P126.s x)
        have HP3 := HP1.scF F3'
        have r8 := rc_8 HH.2.2 (kn := k2) (row := apw A (fun _ => 0) 0 i) (m := 0 + ht A 3 i) (j := 0) (by omega) (Nat.zero_le _)
        by_cases q2 : rc A k2 (apw A (fun _ => 0) 0 i) (0 + ht A 3 i) 0 = 0
        · obtain ⟨μ2, e2, F2⟩ := ih f (i + 1) acc μ3 _ (by omega) (by omega) HP3
          refine ⟨μ2, ?_, ((F0.tr F1').tr F3').tr F2⟩
          rw [fo, shB, if_neg (fun x => x.2 q2), ← e2]
          simp (disch := omega) only [f_X5_wordsShared_6, f_X5_wordsShared_53, HH.g2, z_le, o_bind, o_call, f_contains, q, b0, Bool.true_eq_false, if_false, o_Rv C.s124, o_Rv HP0.c.s124, o_Rv HP1.c.s124, b1, e1, e3, z_lit, z_add]
          rw [if_neg (by omega), if_pos (by omega)]
        · obtain ⟨μ2, e2, F2⟩ := ih f (i + 1) (acc ||| 2 ^ i) μ3 _ (by omega) (by omega) HP3
          refine ⟨μ2, ?_, ((F0.tr F1').tr F3').tr F2⟩
          rw [fo, shB, if_pos ⟨q, q2⟩, ← e2]
          have zb := z_bit (d := i) (by omega)
          simp (disch := omega) only [f_X5_wordsShared_6, f_X5_wordsShared_53, HH.g2, z_le, o_bind, o_call, f_contains, q, b0, Bool.true_eq_false, if_false, o_Rv C.s124, o_Rv HP0.c.s124, o_Rv HP1.c.s124, b1, e1, e3, z_lit, zb, z_or, z_add]
          rw [if_neg (by omega), if_neg (by omega)]
theorem sh32 {A : aH} {z : aZ} (W : dWF A (zD z)) {p s : Nat} (hp : p < hs A 3) (hq : s < hs A 3) : ∀ (n f i acc : Nat) (μ : dtM) (fr : aF), i + n = hs A 2 → n < f → RM μ fr A z → ∃ μ', f_X12_shared_32 f 133 (Int32.ofNat p) (Int32.ofNat s) (Int32.ofNat acc) (Int32.ofNat i) μ = some (Int32.ofNat (fo (shB A (ht A 10 p) (ht A 10 s)) n i acc), dtSI μ' 133 2 (Int32.ofNat 0)) ∧ Fr ScM μ μ' := by
  intro n
  induction n with
  | zero =>
    intro f i acc μ fr e hf HM
    have C := HM.c
    have M1 := HM.mh
    have hnw := M1.nw
    have g2 := M1.gj (j := 2) (by decide)
    cases f with
    | zero => omega
    | succ f =>
      refine ⟨μ, ?_, Fr.rf⟩
      simp (disch := omega) only [f_X12_shared_32, C.g133_0, C.v133, z_lit, g2, n_gives C, z_le, o_bind, o_call]
      rw [if_pos (by omega)]; rfl
  | succ n ih =>
    intro f i acc μ fr e hf HM
    have C := HM.c
    have M1 := HM.mh
    have hnw := M1.nw
    have g2 := M1.gj (j := 2) (by decide)
    have hl := (M1.word (w := i) (by omega)).2.1
    have h10 := (M1.pers hp).2.2.1
    have h10' := (M1.pers hq).2.2.1
    have h2 : 2 ^ hs A 2 ≤ 128 := Nat.pow_le_pow_right (n := 2) (by decide) hnw
    have p2 : f_X12_personOf 133 (Int32.ofNat p) (Int32.ofNat 2) μ = some (Int32.ofNat (ht A 10 p), μ) := M1.personOf (k := 2) (by decide) hp
    cases f with
    | zero => omega
    | succ f =>
      cases q : (ht A 10 p).testBit i
      · obtain ⟨μ2, e2, F2⟩ := ih f (i + 1) acc μ fr (by omega) (by omega) HM
        refine ⟨μ2, ?_, F2⟩
        rw [fo, shB, if_neg (fun x => absurd (q.symm.trans x.1) (by decide)), ← e2]
        simp (disch := omega) only [f_X12_shared_32, f_X12_shared_96, C.g133_0, C.v133, z_lit, g2, p2, z_le, o_bind, o_call, f_isIn, q, b0, if_true, z_add]
        rw [if_neg (by omega)]
      · have F0 : Fr ScM μ (dtSI μ 133 27 (Int32.ofNat 0)) := Fr.SI (Pmw.s (Or.inl ⟨rfl, rfl⟩))
        have HM0 := HM.scF W F0
        have R0 : mRw (dtSI μ 133 27 (Int32.ofNat 0)) 0 (fun _ => 0) := ⟨by decide, fun j hj => absurd hj (Nat.not_lt_zero j), by rw [m_I_SI, if_pos ⟨rfl, rfl⟩], fun j hj => absurd hj (Nat.not_lt_zero j)⟩
        obtain ⟨μ1, e1, F1, R1⟩ := HM0.mh.utters HM0.c R0 (w := i) (by omega) (by omega)
        have F1' : Fr ScM _ μ1 := F1.wide (fun k j x => Pmw.s x)
        have HM1 := HM0.scF W F1'
        have p3 : f_X12_personOf 133 (Int32.ofNat s) (Int32.ofNat 2) μ1 = some (Int32.ofNat (ht A 10 s), μ1) := HM1.mh.personOf (k := 2) (by decide) hq
        obtain ⟨μ3, e3, F3, _⟩ := HM1.mh.laysReadings HM1.c (kn := ht A 10 s) (by omega) R1
        have F3' : Fr ScM μ1 μ3 := F3.wide (fun k j x => P144.s x)
        have HM3 := HM1.scF W F3'
        have r8 := rc_8 M1.2.2 (kn := ht A 10 s) (row := apw A (fun _ => 0) 0 i) (m := 0 + ht A 3 i) (j := 0) (by omega) (Nat.zero_le _)
        by_cases q2 : rc A (ht A 10 s) (apw A (fun _ => 0) 0 i) (0 + ht A 3 i) 0 = 0
        · obtain ⟨μ2, e2, F2⟩ := ih f (i + 1) acc μ3 _ (by omega) (by omega) HM3
          refine ⟨μ2, ?_, ((F0.tr F1').tr F3').tr F2⟩
          rw [fo, shB, if_neg (fun x => x.2 q2), ← e2]
          simp (disch := omega) only [f_X12_shared_32, f_X12_shared_94, f_X12_shared_96, C.g133_0, C.v133, HM0.c.v133, HM1.c.v133, z_lit, g2, p2, p3, o_PI C.s133, e1, e3, z_le, o_bind, o_call, f_isIn, q, b0, Bool.true_eq_false, if_false, z_or, Nat.or_zero, z_add]
          rw [if_neg (by omega), if_pos (by omega)]
        · obtain ⟨μ2, e2, F2⟩ := ih f (i + 1) (acc ||| 2 ^ i) μ3 _ (by omega) (by omega) HM3
          refine ⟨μ2, ?_, ((F0.tr F1').tr F3').tr F2⟩
          rw [fo, shB, if_pos ⟨q, q2⟩, ← e2]
          have zb := z_bit (d := i) (by omega)
          simp (disch := omega) only [f_X12_shared_32, f_X12_shared_94, f_X12_shared_96, C.g133_0, C.v133, HM0.c.v133, HM1.c.v133, z_lit, g2, p2, p3, o_PI C.s133, e1, e3, z_le, o_bind, o_call, f_isIn, q, b0, Bool.true_eq_false, if_false, zb, z_or, z_add]
          rw [if_neg (by omega), if_neg (by omega)]
theorem cs39 {μ : dtM} {w : aW} {f : aF} {A : aH} {z : aZ} (HP : RP μ w f A z) (HM : RM μ f A z) (W : dWF A (zD z)) (x y : Int32) : both (f_X11_shared 0 x y) (f_X12_shared 133 x y) μ := by
  have C := HP.c
  have HH := HP.ph
  have g5 := HP.g5
  have hnr := HH.nr
  have hnd := HH.nd
  have hnw := HH.nw
  have hnp := HH.np
  cases hq : (inR x (hs A 3) && inR y (hs A 3) && !decide (x = y))
  · refine both.no HP HM W (-Int32.ofNat 1) (Int32.ofNat 1) ?_ (fun μ1 R1 => ?_)
    · simp only [f_X11_shared, p_areTwo HP, hq, p_fail C, C.v0, o_bind, o_call, z_lit, b0, o_ret0', o_ret1', o_bI, Bool.true_eq_false, Bool.false_eq_true, eq_self, if_true, if_false]
    · simp only [f_X12_shared, f_X12_shared_21, R1.mh.isPerson, n_refuse R1.c, R1.c.v133, o_bind, o_call, z_lit, b0, o_ret0', o_ret1', o_bI, Bool.true_eq_false, Bool.false_eq_true, eq_self, if_true, if_false]
      cases h1 : inR x (hs A 3)
      · rw [if_pos rfl]
      · rw [if_neg (by decide)]
        cases h2 : inR y (hs A 3)
        · rw [if_pos rfl]
        · rw [if_neg (by decide)]
          rw [h1, h2] at hq
          by_cases h3 : x = y
          · rw [if_pos h3]
          · rw [decide_eq_false h3] at hq; exact absurd hq (by decide)
  · have hq' := hq
    simp only [Bool.and_eq_true, Bool.not_eq_true', decide_eq_false_iff_not] at hq'
    have i1 := hq'.1.1
    have i2 := hq'.1.2
    have i3 := hq'.2
    obtain ⟨p, hp, rfl⟩ := inR_t (by omega) i1
    obtain ⟨s, hs', rfl⟩ := inR_t (by omega) i2
    have h10 := (HH.pers hp).2.2.1
    have h10' := (HH.pers hs').2.2.1
    have h2 : 2 ^ hs A 2 ≤ 128 := Nat.pow_le_pow_right (n := 2) (by decide) hnw
    refine both.out HP HM W (v := Int32.ofNat (fo (shB A (ht A 10 p) (ht A 10 s)) (hs A 2) 0 0)) (st := Int32.ofNat 0) ?_ (fun μ1 R1 => ?_)
    · obtain ⟨μ3, e3, F3⟩ := ws6 (k1 := ht A 10 p) (k2 := ht A 10 s) (by omega) (by omega) (hs A 2) dtFuel 0 0 μ _ (by omega) (dtFuel_gt (by omega)) HP
      have C3 := C.kept F3
      refine ⟨μ3, ?_, F3⟩
      simp only [f_X11_shared, f_X5_wordsShared, p_areTwo HP, hq, g5, C.v0, C.g0_15, HH.r16, HH.l10 hp, HH.l10 hs', o_Rv C.s124, e3, C3.v0, p_ans C3, o_bind, o_call, z_lit, b0, o_ret0', o_ret1', o_bI, Bool.true_eq_false, Bool.false_eq_true, eq_self, if_true, if_false]
    · obtain ⟨μ3, e3, F3⟩ := sh32 W hp hs' (hs A 2) dtFuel 0 0 μ1 _ (by omega) (dtFuel_gt (by omega)) R1
      refine ⟨μ3, ?_, F3⟩
      rw [← e3]
      simp only [f_X12_shared, R1.mh.isPerson, i1, i2, R1.c.v133, o_bind, o_call, z_lit, b0, o_ret0', o_ret1', o_bI, Bool.true_eq_false, Bool.false_eq_true, eq_self, if_true, if_false]
      rw [if_neg i3]
