/-! PURE 52: what is done -/
theorem hs_same {A A' : aH} {D : aD} (W : dWF A D) (h : ∀ k, ¬ k = 5 → hs A' k = hs A k) : dWF A' D := W.kept (h 0 (by decide)) (h 1 (by decide)) (by rw [h 3 (by decide)]; exact Nat.le_refl _)
theorem pRow10 {h : Nat} : pRow h 10 = h + 10 := rfl
theorem cs17 {μ : dtM} {w : aW} {f : aF} {A : aH} {z : aZ} (HP : RP μ w f A z) (HM : RM μ f A z) (W : dWF A (zD z)) (x y v : Int32) : both (f_X11_close 0 x y v) (f_X12_close 133 x y v) μ := by
  have C := HP.c
  have HH := HP.ph
  have g5 := HP.g5
  have hnr := HH.nr
  have hnd := HH.nd
  have hnw := HH.nw
  have hnp := HH.np
  cases hq0 : inR x (hs A 3)
  · refine both.no HP HM W (-Int32.ofNat 1) (Int32.ofNat 1) ?_ (fun μ1 R1 => ?_)
    · simp only [f_X11_close, f_X11_close_29, g5, C.v0, HH.rv, HH.hasPerson, hq0, p_fail C, o_bind, o_call, z_lit, b0, o_ret0', o_ret1', o_bI, Bool.true_eq_false, Bool.false_eq_true, eq_self, if_true, if_false]
    · have C1 := R1.c
      have M1 := R1.mh
      simp only [f_X12_close, f_X12_close_23, C1.v133, M1.isPerson, hq0, n_refuse C1, o_bind, o_call, z_lit, b0, o_ret0', o_ret1', o_bI, Bool.true_eq_false, Bool.false_eq_true, eq_self, if_true, if_false]
  · obtain ⟨p, hp, rfl⟩ := inR_t (by omega) hq0
    cases hq1 : inR y (hs A 1)
    · refine both.no HP HM W (-Int32.ofNat 1) (Int32.ofNat 1) ?_ (fun μ1 R1 => ?_)
      · simp only [f_X11_close, f_X11_close_29, g5, C.v0, HH.rv, HH.hasPerson, hq0, HH.hasDoor, hq1, p_fail C, o_bind, o_call, z_lit, b0, o_ret0', o_ret1', o_bI, Bool.true_eq_false, Bool.false_eq_true, eq_self, if_true, if_false]
      · have C1 := R1.c
        have M1 := R1.mh
        simp only [f_X12_close, f_X12_close_23, C1.v133, M1.isPerson, hq0, M1.isDoor, hq1, n_refuse C1, o_bind, o_call, z_lit, b0, o_ret0', o_ret1', o_bI, Bool.true_eq_false, Bool.false_eq_true, eq_self, if_true, if_false]
    · obtain ⟨d, hd, rfl⟩ := inR_t (by omega) hq1
      cases hq2 : inR v 4
      · refine both.no HP HM W (-Int32.ofNat 1) (Int32.ofNat 1) ?_ (fun μ1 R1 => ?_)
        · simp only [f_X11_close, f_X11_close_29, g5, C.v0, HH.rv, HH.hasPerson, hq0, HH.hasDoor, hq1, f_isSound, hq2, p_fail C, o_bind, o_call, z_lit, b0, o_ret0', o_ret1', o_bI, Bool.true_eq_false, Bool.false_eq_true, eq_self, if_true, if_false]
        · have C1 := R1.c
          have M1 := R1.mh
          simp only [f_X12_close, f_X12_close_23, C1.v133, M1.isPerson, hq0, M1.isDoor, hq1, f_isNoise, hq2, n_refuse C1, o_bind, o_call, z_lit, b0, o_ret0', o_ret1', o_bI, Bool.true_eq_false, Bool.false_eq_true, eq_self, if_true, if_false]
      · obtain ⟨c, hc, rfl⟩ := inR_t (by omega) hq2
        cases ha : (hAt A p d && (hs A 5).testBit d)
        · refine both.no HP HM W (-Int32.ofNat 1) (Int32.ofNat 7) ?_ (fun μ1 R1 => ?_)
          · simp only [f_X11_close, f_X11_close_58, g5, C.v0, HH.rv, HH.hasPerson, hq0, HH.hasDoor, hq1, f_isSound, hq2, HH.isAt hp hd, HH.isOpen (show d < 32 by omega), p_fail C, o_bind, o_call, z_lit, b0, o_ret0', o_ret1', o_bI, Bool.true_eq_false, Bool.false_eq_true, eq_self, if_true, if_false]
            cases h1 : hAt A p d
            · rw [if_pos rfl]
            · rw [if_neg (by decide)]
              cases h2 : (hs A 5).testBit d
              · rw [if_pos rfl]
              · rw [h1, h2] at ha; exact absurd ha (by decide)
          · have C1 := R1.c
            have M1 := R1.mh
            have e2 : f_X12_closes 133 (Int32.ofNat p) (Int32.ofNat d) (Int32.ofNat c) μ1 = some (-Int32.ofNat 1, μ1) := by
              simp only [f_X12_closes, f_X12_closes_17, C1.v133, M1.isBy hp hd, M1.isOpen (show d < 32 by omega), o_bind, o_call, z_lit, b0]
              cases h1 : hAt A p d
              · rw [if_pos rfl]
              · rw [if_neg (by decide)]
                cases h2 : (hs A 5).testBit d
                · rw [if_pos rfl]
                · rw [h1, h2] at ha; exact absurd ha (by decide)
            simp only [f_X12_close, f_X12_close_59, C1.v133, M1.isPerson, hq0, M1.isDoor, hq1, f_isNoise, hq2, e2, n_refuse C1, o_bind, o_call, z_lit, b0, o_ret0', o_ret1', o_bI, Bool.true_eq_false, Bool.false_eq_true, eq_self, if_true, if_false]
        · have ha' := ha
          rw [Bool.and_eq_true] at ha'
          have hl := hSet_lt HH.2.2 (d := d) (s := c) (mk := Int32.ofNat p)
          refine both.hou HP HM W (Int32.ofNat (hSet A d c (Int32.ofNat p))) (Int32.ofNat 0) (hSn A d c (hSet A d c (Int32.ofNat p))) ?_ (fun μ1 R1 => ?_) (hs_same W (fun k hk => hSn_s hk))
          · obtain ⟨μ2, e2, F2, H2⟩ := HH.shutWith C.hHr HP.hh (mk := Int32.ofNat p) hc hd
            have C2 := C.kept F2
            refine ⟨μ2, ?_, F2.wide (fun k j x => x.elim (fun y => PHs.h y) (fun y => Or.inl (ScP.h y))), H2⟩
            simp only [f_X11_close, g5, C.v0, HH.rv, HH.hasPerson, hq0, HH.hasDoor, hq1, f_isSound, hq2, HH.isAt hp hd, HH.isOpen (show d < 32 by omega), ha'.1, ha'.2, C.g0_14, o_Rv C.s122, e2, C2.v0, p_ans C2, o_bind, o_call, z_lit, b0, o_ret0', o_ret1', o_bI, Bool.true_eq_false, Bool.false_eq_true, eq_self, if_true, if_false]
          · have C1 := R1.c
            have M1 := R1.mh
            obtain ⟨μ2, e2, F2, H2⟩ := M1.closes C1.mLs hp hc hd
            have C2 := C1.kept F2
            rw [if_pos ha] at e2
            unfold hCl1 at H2
            rw [if_pos ha] at H2
            refine ⟨μ2, ?_, F2.wide (fun k j x => x.elim (fun y => P134.h y) (fun y => Or.inl (ScM.h y))), H2⟩
            simp only [f_X12_close, f_X12_close_59, C1.v133, M1.isPerson, hq0, M1.isDoor, hq1, f_isNoise, hq2, e2, z_neg (show hSet A d c (Int32.ofNat p) < 2147483648 by omega), C2.v133, n_gives C2, o_bind, o_call, z_lit, b0, o_ret0', o_ret1', o_bI, Bool.true_eq_false, Bool.false_eq_true, eq_self, if_true, if_false]
theorem cs18 {μ : dtM} {w : aW} {f : aF} {A : aH} {z : aZ} (HP : RP μ w f A z) (HM : RM μ f A z) (W : dWF A (zD z)) (x y : Int32) : both (f_X11_open 0 x y) (f_X12_open 133 x y) μ := by
  have C := HP.c
  have HH := HP.ph
  have g5 := HP.g5
  have hnr := HH.nr
  have hnd := HH.nd
  have hnw := HH.nw
  have hnp := HH.np
  cases hq0 : inR x (hs A 3)
  · refine both.no HP HM W (-Int32.ofNat 1) (Int32.ofNat 1) ?_ (fun μ1 R1 => ?_)
    · simp only [f_X11_open, f_X11_open_22, g5, C.v0, HH.rv, HH.hasPerson, hq0, p_fail C, o_bind, o_call, z_lit, b0, o_ret0', o_ret1', o_bI, Bool.true_eq_false, Bool.false_eq_true, eq_self, if_true, if_false]
    · have C1 := R1.c
      have M1 := R1.mh
      simp only [f_X12_open, f_X12_open_16, C1.v133, M1.isPerson, hq0, n_refuse C1, o_bind, o_call, z_lit, b0, o_ret0', o_ret1', o_bI, Bool.true_eq_false, Bool.false_eq_true, eq_self, if_true, if_false]
  · obtain ⟨p, hp, rfl⟩ := inR_t (by omega) hq0
    cases hq1 : inR y (hs A 1)
    · refine both.no HP HM W (-Int32.ofNat 1) (Int32.ofNat 1) ?_ (fun μ1 R1 => ?_)
      · simp only [f_X11_open, f_X11_open_22, g5, C.v0, HH.rv, HH.hasPerson, hq0, HH.hasDoor, hq1, p_fail C, o_bind, o_call, z_lit, b0, o_ret0', o_ret1', o_bI, Bool.true_eq_false, Bool.false_eq_true, eq_self, if_true, if_false]
      · have C1 := R1.c
        have M1 := R1.mh
        simp only [f_X12_open, f_X12_open_16, C1.v133, M1.isPerson, hq0, M1.isDoor, hq1, n_refuse C1, o_bind, o_call, z_lit, b0, o_ret0', o_ret1', o_bI, Bool.true_eq_false, Bool.false_eq_true, eq_self, if_true, if_false]
    · obtain ⟨d, hd, rfl⟩ := inR_t (by omega) hq1
      have hop := HH.op1
      cases ha : (hAt A p d && !(hs A 5).testBit d)
      · refine both.no HP HM W (-Int32.ofNat 1) (Int32.ofNat 7) ?_ (fun μ1 R1 => ?_)
        · simp only [f_X11_open, f_X11_open_51, g5, C.v0, HH.rv, HH.hasPerson, hq0, HH.hasDoor, hq1, HH.isAt hp hd, HH.isOpen (show d < 32 by omega), p_fail C, o_bind, o_call, z_lit, b0, o_ret0', o_ret1', o_bI, Bool.true_eq_false, Bool.false_eq_true, eq_self, if_true, if_false]
          cases h1 : hAt A p d
          · rw [if_pos rfl]
          · rw [if_neg (by decide)]
            cases h2 : (hs A 5).testBit d
            · rw [h1, h2] at ha; exact absurd ha (by decide)
            · rw [if_neg (by decide)]
        · have C1 := R1.c
          have M1 := R1.mh
          have e2 : f_X12_opens 133 (Int32.ofNat p) (Int32.ofNat d) μ1 = some (bI false, μ1) := by
            simp only [f_X12_opens, f_X12_opens_17, C1.v133, M1.isBy hp hd, M1.isOpen (show d < 32 by omega), o_bind, o_call, z_lit, b0, o_ret0']
            cases h1 : hAt A p d
            · rw [if_pos rfl]
            · rw [if_neg (by decide)]
              cases h2 : (hs A 5).testBit d
              · rw [h1, h2] at ha; exact absurd ha (by decide)
              · rw [if_neg (by decide)]
          simp only [f_X12_open, f_X12_open_53, C1.v133, M1.isPerson, hq0, M1.isDoor, hq1, e2, n_refuse C1, o_bind, o_call, z_lit, b0, o_ret0', o_ret1', o_bI, Bool.true_eq_false, Bool.false_eq_true, eq_self, if_true, if_false]
      · have ha' := ha
        rw [Bool.and_eq_true, Bool.not_eq_true'] at ha'
        have hlt : hs A 5 ||| 2 ^ d < 1024 := or1024 hop (Nat.pow_lt_pow_right (n := 10) (by decide) (by omega))
        refine both.hou HP HM W (Int32.ofNat (pc (hs A 5 ||| 2 ^ d))) (Int32.ofNat 0) (hOp A d) ?_ (fun μ1 R1 => ?_) (hs_same W (fun k hk => if_neg hk))
        · obtain ⟨μ2, e2, F2, H2⟩ := HH.unshut hd
          have C2 := C.kept F2
          have g5' : opGR 11 5 μ2 0 = some w.1 := o_GR C2.s0 (by rw [F2.Ra]; exact HP.2.1.2.1)
          have q5 : opGI 3 5 μ2 w.1 = some (Int32.ofNat (hs A 5 ||| 2 ^ d)) := H2.g5
          refine ⟨μ2, ?_, F2.wide (fun k j x => PHs.h (by have : k = w.1 := x; omega)), H2⟩
          simp only [f_X11_open, g5, C.v0, HH.rv, HH.hasPerson, hq0, HH.hasDoor, hq1, HH.isAt hp hd, HH.isOpen (show d < 32 by omega), ha'.1, ha'.2, e2, g5', q5, f_bitCount hlt, C2.v0, p_ans C2, o_bind, o_call, z_lit, b0, o_ret0', o_ret1', o_bI, Bool.true_eq_false, Bool.false_eq_true, eq_self, if_true, if_false]
        · have C1 := R1.c
          have M1 := R1.mh
          obtain ⟨μ2, e2, F2, H2⟩ := M1.opens hp hd
          have C2 := C1.kept F2
          rw [ha] at e2
          rw [if_pos ha] at H2
          have q5 : opLI 1 μ2 134 (Int32.ofNat 5) = some (Int32.ofNat (hs A 5 ||| 2 ^ d)) := H2.gj (j := 5) (by decide)
          refine ⟨μ2, ?_, F2.wide (fun k j x => P134.h x), H2⟩
          simp only [f_X12_open, f_X12_open_53, C1.v133, M1.isPerson, hq0, M1.isDoor, hq1, e2, C2.g133_0, q5, f_bits hlt, C2.v133, n_gives C2, o_bind, o_call, z_lit, b0, o_ret0', o_ret1', o_bI, Bool.true_eq_false, Bool.false_eq_true, eq_self, if_true, if_false]
theorem csGo {μ : dtM} {w : aW} {f : aF} {A : aH} {z : aZ} (HP : RP μ w f A z) (HM : RM μ f A z) (W : dWF A (zD z)) (x y : Int32) : both (f_X11_go 0 x y) (f_X12_go 133 x y) μ := by
  have C := HP.c
  have HH := HP.ph
  have g5 := HP.g5
  have hnr := HH.nr
  have hnd := HH.nd
  have hnw := HH.nw
  have hnp := HH.np
  cases hq0 : inR x (hs A 3)
  · refine both.no HP HM W (-Int32.ofNat 1) (Int32.ofNat 1) ?_ (fun μ1 R1 => ?_)
    · simp only [f_X11_go, f_X11_go_22, g5, C.v0, HH.rv, HH.hasPerson, hq0, p_fail C, o_bind, o_call, z_lit, b0, o_ret0', o_ret1', o_bI, Bool.true_eq_false, Bool.false_eq_true, eq_self, if_true, if_false]
    · have C1 := R1.c
      have M1 := R1.mh
      simp only [f_X12_go, f_X12_go_16, C1.v133, M1.isPerson, hq0, n_refuse C1, o_bind, o_call, z_lit, b0, o_ret0', o_ret1', o_bI, Bool.true_eq_false, Bool.false_eq_true, eq_self, if_true, if_false]
  · obtain ⟨p, hp, rfl⟩ := inR_t (by omega) hq0
    cases hq1 : inR y (hs A 1)
    · refine both.no HP HM W (-Int32.ofNat 1) (Int32.ofNat 1) ?_ (fun μ1 R1 => ?_)
      · simp only [f_X11_go, f_X11_go_22, g5, C.v0, HH.rv, HH.hasPerson, hq0, HH.hasDoor, hq1, p_fail C, o_bind, o_call, z_lit, b0, o_ret0', o_ret1', o_bI, Bool.true_eq_false, Bool.false_eq_true, eq_self, if_true, if_false]
      · have C1 := R1.c
        have M1 := R1.mh
        simp only [f_X12_go, f_X12_go_16, C1.v133, M1.isPerson, hq0, M1.isDoor, hq1, n_refuse C1, o_bind, o_call, z_lit, b0, o_ret0', o_ret1', o_bI, Bool.true_eq_false, Bool.false_eq_true, eq_self, if_true, if_false]
    · obtain ⟨d, hd, rfl⟩ := inR_t (by omega) hq1
      cases ha : (hAt A p d && (hs A 5).testBit d)
      · refine both.no HP HM W (-Int32.ofNat 1) (Int32.ofNat 7) ?_ (fun μ1 R1 => ?_)
        · simp only [f_X11_go, f_X11_go_51, g5, C.v0, HH.rv, HH.hasPerson, hq0, HH.hasDoor, hq1, HH.isAt hp hd, HH.isOpen (show d < 32 by omega), p_fail C, o_bind, o_call, z_lit, b0, o_ret0', o_ret1', o_bI, Bool.true_eq_false, Bool.false_eq_true, eq_self, if_true, if_false]
          cases h1 : hAt A p d
          · rw [if_pos rfl]
          · rw [if_neg (by decide)]
            cases h2 : (hs A 5).testBit d
            · rw [if_pos rfl]
            · rw [h1, h2] at ha; exact absurd ha (by decide)
        · have C1 := R1.c
          have M1 := R1.mh
          have e2 : f_X12_goes 133 (Int32.ofNat p) (Int32.ofNat d) μ1 = some (bI false, μ1) := by
            simp only [f_X12_goes, f_X12_goes_17, C1.v133, M1.isBy hp hd, M1.isOpen (show d < 32 by omega), o_bind, o_call, z_lit, b0, o_ret0']
            cases h1 : hAt A p d
            · rw [if_pos rfl]
            · rw [if_neg (by decide)]
              cases h2 : (hs A 5).testBit d
              · rw [if_pos rfl]
              · rw [h1, h2] at ha; exact absurd ha (by decide)
          simp only [f_X12_go, f_X12_go_50, C1.v133, M1.isPerson, hq0, M1.isDoor, hq1, e2, n_refuse C1, o_bind, o_call, z_lit, b0, o_ret0', o_ret1', o_bI, Bool.true_eq_false, Bool.false_eq_true, eq_self, if_true, if_false]
      · have ha' := ha
        rw [Bool.and_eq_true] at ha'
        have e8 : ht (hPs A p d) 8 p = hGoR A p d := by unfold hPs; rw [hUt_t, if_pos ⟨rfl, rfl⟩]
        refine both.hou HP HM W (Int32.ofNat (hGoR A p d)) (Int32.ofNat 0) (hPs A p d) ?_ (fun μ1 R1 => ?_) (hs_same W (fun k hk => rfl))
        · obtain ⟨μ2, e2, F2, H2⟩ := HH.passThrough hp hd
          have C2 := C.kept F2
          have g5' : opGR 11 5 μ2 0 = some w.1 := o_GR C2.s0 (by rw [F2.Ra]; exact HP.2.1.2.1)
          have q8 := H2.l8 (p := p) hp
          rw [e8] at q8
          refine ⟨μ2, ?_, F2.wide (fun k j x => PHs.h (by have : k = w.1 + 8 := x; omega)), H2⟩
          simp only [f_X11_go, g5, C.v0, HH.rv, HH.hasPerson, hq0, HH.hasDoor, hq1, HH.isAt hp hd, HH.isOpen (show d < 32 by omega), ha'.1, ha'.2, e2, g5', H2.r14, q8, C2.v0, p_ans C2, o_bind, o_call, z_lit, b0, o_ret0', o_ret1', o_bI, Bool.true_eq_false, Bool.false_eq_true, eq_self, if_true, if_false]
        · have C1 := R1.c
          have M1 := R1.mh
          obtain ⟨μ2, e2, F2, H2⟩ := M1.goes hp hd
          have C2 := C1.kept F2
          rw [ha] at e2
          rw [if_pos ha] at H2
          have q8 := H2.personOf (k := 0) (p := p) (by decide) hp
          rw [Nat.add_zero, e8] at q8
          refine ⟨μ2, ?_, F2.wide (fun k j x => P134.h x), H2⟩
          simp only [f_X12_go, f_X12_go_50, C1.v133, M1.isPerson, hq0, M1.isDoor, hq1, e2, q8, C2.v133, n_gives C2, o_bind, o_call, z_lit, b0, o_ret0', o_ret1', o_bI, Bool.true_eq_false, Bool.false_eq_true, eq_self, if_true, if_false]
theorem cs20 {μ : dtM} {w : aW} {f : aF} {A : aH} {z : aZ} (HP : RP μ w f A z) (HM : RM μ f A z) (W : dWF A (zD z)) (x : Int32) : both (f_X11_forget 0 x) (f_X12_forget 133 x) μ := by
  have C := HP.c
  have HH := HP.ph
  have g5 := HP.g5
  have hnr := HH.nr
  have hnd := HH.nd
  have hnw := HH.nw
  have hnp := HH.np
  cases hq0 : inR x (hs A 3)
  · refine both.no HP HM W (-Int32.ofNat 1) (Int32.ofNat 1) ?_ (fun μ1 R1 => ?_)
    · simp only [f_X11_forget, f_X11_forget, g5, C.v0, HH.rv, HH.hasPerson, hq0, p_fail C, o_bind, o_call, z_lit, b0, o_ret0', o_ret1', o_bI, Bool.true_eq_false, Bool.false_eq_true, eq_self, if_true, if_false]
    · have C1 := R1.c
      have M1 := R1.mh
      simp only [f_X12_forget, f_X12_forget, C1.v133, M1.isPerson, hq0, n_refuse C1, o_bind, o_call, z_lit, b0, o_ret0', o_ret1', o_bI, Bool.true_eq_false, Bool.false_eq_true, eq_self, if_true, if_false]
  · obtain ⟨p, hp, rfl⟩ := inR_t (by omega) hq0
    have h8 := (HH.pers hp).2.2.2.1
    by_cases ha : ht A 11 p = 0
    · refine both.hou HP HM W (-Int32.ofNat 1) (Int32.ofNat 7) A ?_ (fun μ1 R1 => ?_) W
      · refine ⟨μ, ?_, Fr.rf, HH⟩
        simp only [f_X11_forget, g5, C.v0, HH.rv, HH.hasPerson, hq0, HH.r17, HH.l11 hp, ha, p_fail C, o_bind, o_call, z_lit, b0, o_ret0', o_ret1', o_bI, Bool.true_eq_false, Bool.false_eq_true, eq_self, if_true, if_false]
      · have C1 := R1.c
        have M1 := R1.mh
        obtain ⟨μ2, e2, F2, H2⟩ := M1.forgets hp
        have C2 := C1.kept F2
        rw [hUt_id ha] at H2
        rw [ha] at e2
        refine ⟨μ2, ?_, F2.wide (fun k j x => P134.h x), H2⟩
        simp only [f_X12_forget, f_X12_forget_38, C1.v133, M1.isPerson, hq0, e2, C2.v133, n_refuse C2, o_bind, o_call, z_lit, b0, o_ret0', o_ret1', o_bI, Bool.true_eq_false, Bool.false_eq_true, eq_self, if_true, if_false]
    · refine both.hou HP HM W (Int32.ofNat (ht A 11 p)) (Int32.ofNat 0) (hUt A 11 p 0) ?_ (fun μ1 R1 => ?_) (hs_same W (fun k hk => rfl))
      · have C2 : CX (dtSI μ (w.1 + 11) p (Int32.ofNat 0)) := C.SI
        refine ⟨dtSI μ (w.1 + 11) p (Int32.ofNat 0), ?_, Fr.SI (PHs.h (by omega)), HH.setH hp (Nat.zero_le _)⟩
        simp only [f_X11_forget, g5, C.v0, HH.rv, HH.hasPerson, hq0, HH.r17, HH.l11 hp, z_eq (show ht A 11 p < 2147483648 by omega) (show 0 < 2147483648 by decide), ha, o_SI HH.s11 (show p < 5 by omega) (by decide), C2.v0, p_ans C2, o_bind, o_call, z_lit, b0, o_ret0', o_ret1', o_bI, Bool.true_eq_false, Bool.false_eq_true, eq_self, if_true, if_false]
      · have C1 := R1.c
        have M1 := R1.mh
        obtain ⟨μ2, e2, F2, H2⟩ := M1.forgets hp
        have C2 := C1.kept F2
        refine ⟨μ2, ?_, F2.wide (fun k j x => P134.h x), H2⟩
        simp only [f_X12_forget, f_X12_forget_38, C1.v133, M1.isPerson, hq0, e2, z_eq (show ht A 11 p < 2147483648 by omega) (show 0 < 2147483648 by decide), ha, C2.v133, n_gives C2, o_bind, o_call, z_lit, b0, o_ret0', o_ret1', o_bI, Bool.true_eq_false, Bool.false_eq_true, eq_self, if_true, if_false]
theorem cs24 {μ : dtM} {w : aW} {f : aF} {A : aH} {z : aZ} (HP : RP μ w f A z) (HM : RM μ f A z) (W : dWF A (zD z)) (x y : Int32) : both (f_X11_line 0 x y) (f_X12_line 133 x y) μ := by
  have C := HP.c
  have HH := HP.ph
  have g5 := HP.g5
  have hnr := HH.nr
  have hnd := HH.nd
  have hnw := HH.nw
  have hnp := HH.np
  cases hq0 : inR x (hs A 1)
  · refine both.no HP HM W (-Int32.ofNat 1) (Int32.ofNat 1) ?_ (fun μ1 R1 => ?_)
    · simp only [f_X11_line, f_X11_line_21, g5, C.v0, HH.rv, HH.hasDoor, hq0, p_fail C, o_bind, o_call, z_lit, b0, o_ret0', o_ret1', o_bI, Bool.true_eq_false, Bool.false_eq_true, eq_self, if_true, if_false]
    · have C1 := R1.c
      have M1 := R1.mh
      simp only [f_X12_line, f_X12_line_20, C1.v133, M1.isDoor, hq0, n_refuse C1, o_bind, o_call, z_lit, b0, o_ret0', o_ret1', o_bI, Bool.true_eq_false, Bool.false_eq_true, eq_self, if_true, if_false]
  · obtain ⟨d, hd, rfl⟩ := inR_t (by omega) hq0
    cases hq1 : inR y 10
    · refine both.no HP HM W (-Int32.ofNat 1) (Int32.ofNat 1) ?_ (fun μ1 R1 => ?_)
      · simp only [f_X11_line, f_X11_line_21, g5, C.v0, HH.rv, HH.hasDoor, hq0, f_within0 (show 9 < 2147483647 by decide), hq1, p_fail C, o_bind, o_call, z_lit, b0, o_ret0', o_ret1', o_bI, Bool.true_eq_false, Bool.false_eq_true, eq_self, if_true, if_false]
      · have C1 := R1.c
        have M1 := R1.mh
        simp only [f_X12_line, f_X12_line_20, C1.v133, M1.isDoor, hq0, j_lit, f_isFrom (show 9 < 2147483647 by decide), hq1, n_refuse C1, o_bind, o_call, z_lit, b0, o_ret0', o_ret1', o_bI, Bool.true_eq_false, Bool.false_eq_true, eq_self, if_true, if_false]
    · obtain ⟨b, hb, rfl⟩ := inR_t (by omega) hq1
      have em : mIdx 2 d = 10 + 3 * d + 2 := by unfold mIdx; rw [if_pos (by decide)]
      have S := HH.setT (t := 2) (i := d) (v := b) (Or.inl ⟨by decide, hd⟩) (by decide) (hWF_U HH.2.2 (by omega))
      refine both.hou HP HM W (Int32.ofNat (ht A 2 d)) (Int32.ofNat 0) (hUt A 2 d b) ?_ (fun μ1 R1 => ?_) (hs_same W (fun k hk => rfl))
      · have C2 : CX (dtSI μ (w.1 + 5) d (Int32.ofNat b)) := C.SI
        refine ⟨dtSI μ (w.1 + 5) d (Int32.ofNat b), ?_, Fr.SI (PHs.h (by omega)), S⟩
        simp only [f_X11_line, g5, C.v0, HH.rv, HH.hasDoor, hq0, f_within0 (show 9 < 2147483647 by decide), hq1, HH.r11, HH.l2 hd, o_SI HH.s5 (show d < 10 by omega) (by decide), C2.v0, p_ans C2, o_bind, o_call, z_lit, b0, o_ret0', o_ret1', o_bI, Bool.true_eq_false, Bool.false_eq_true, eq_self, if_true, if_false]
      · have C1 := R1.c
        have M1 := R1.mh
        have SM := M1.setT (t := 2) (i := d) (v := b) (Or.inl ⟨by decide, hd⟩) (by decide) (hWF_U HH.2.2 (by omega))
        rw [em] at SM
        have C2 : CX (dtSI μ1 134 (10 + 3 * d + 2) (Int32.ofNat b)) := C1.SI
        have mv := M1.doorOf (t := 2) (by decide) hd
        refine ⟨dtSI μ1 134 (10 + 3 * d + 2) (Int32.ofNat b), ?_, Fr.SI (P134.h ⟨rfl, by omega⟩), SM⟩
        simp (disch := omega) only [f_X12_line, f_X12_doorRow, f_X12_personRow, C1.v133, C1.g133_0, M1.isDoor, hq0, j_lit, f_isFrom (show 9 < 2147483647 by decide), hq1, mv, z_mul, z_add, o_SI C1.s134 (show 10 + 3 * d + 2 < 2656 by omega) (by decide), C2.v133, n_gives C2, o_bind, o_call, z_lit, b0, o_ret0', o_ret1', o_bI, Bool.true_eq_false, Bool.false_eq_true, eq_self, if_true, if_false]
theorem cs25 {μ : dtM} {w : aW} {f : aF} {A : aH} {z : aZ} (HP : RP μ w f A z) (HM : RM μ f A z) (W : dWF A (zD z)) (x y : Int32) : both (f_X11_deafen 0 x y) (f_X12_deafen 133 x y) μ := by
  have C := HP.c
  have HH := HP.ph
  have g5 := HP.g5
  have hnr := HH.nr
  have hnd := HH.nd
  have hnw := HH.nw
  have hnp := HH.np
  cases hq0 : inR x (hs A 3)
  · refine both.no HP HM W (-Int32.ofNat 1) (Int32.ofNat 1) ?_ (fun μ1 R1 => ?_)
    · simp only [f_X11_deafen, f_X11_deafen_21, g5, C.v0, HH.rv, HH.hasPerson, hq0, p_fail C, o_bind, o_call, z_lit, b0, o_ret0', o_ret1', o_bI, Bool.true_eq_false, Bool.false_eq_true, eq_self, if_true, if_false]
    · have C1 := R1.c
      have M1 := R1.mh
      simp only [f_X12_deafen, f_X12_deafen_20, C1.v133, M1.isPerson, hq0, n_refuse C1, o_bind, o_call, z_lit, b0, o_ret0', o_ret1', o_bI, Bool.true_eq_false, Bool.false_eq_true, eq_self, if_true, if_false]
  · obtain ⟨p, hp, rfl⟩ := inR_t (by omega) hq0
    cases hq1 : inR y 10
    · refine both.no HP HM W (-Int32.ofNat 1) (Int32.ofNat 1) ?_ (fun μ1 R1 => ?_)
      · simp only [f_X11_deafen, f_X11_deafen_21, g5, C.v0, HH.rv, HH.hasPerson, hq0, f_within0 (show 9 < 2147483647 by decide), hq1, p_fail C, o_bind, o_call, z_lit, b0, o_ret0', o_ret1', o_bI, Bool.true_eq_false, Bool.false_eq_true, eq_self, if_true, if_false]
      · have C1 := R1.c
        have M1 := R1.mh
        simp only [f_X12_deafen, f_X12_deafen_20, C1.v133, M1.isPerson, hq0, j_lit, f_isFrom (show 9 < 2147483647 by decide), hq1, n_refuse C1, o_bind, o_call, z_lit, b0, o_ret0', o_ret1', o_bI, Bool.true_eq_false, Bool.false_eq_true, eq_self, if_true, if_false]
    · obtain ⟨b, hb, rfl⟩ := inR_t (by omega) hq1
      have em : mIdx 9 p = 75 + 12 * p + 1 := by unfold mIdx; rw [if_neg (by decide), if_neg (by decide)]
      have S := HH.setT (t := 9) (i := p) (v := b) (Or.inr (Or.inr (Or.inr (Or.inl ⟨by decide, hp⟩)))) (by decide) (hWF_U HH.2.2 (by omega))
      refine both.hou HP HM W (Int32.ofNat (ht A 9 p)) (Int32.ofNat 0) (hUt A 9 p b) ?_ (fun μ1 R1 => ?_) (hs_same W (fun k hk => rfl))
      · have C2 : CX (dtSI μ (w.1 + 9) p (Int32.ofNat b)) := C.SI
        refine ⟨dtSI μ (w.1 + 9) p (Int32.ofNat b), ?_, Fr.SI (PHs.h (by omega)), S⟩
        simp only [f_X11_deafen, g5, C.v0, HH.rv, HH.hasPerson, hq0, f_within0 (show 9 < 2147483647 by decide), hq1, HH.r15, HH.l9 hp, o_SI HH.s9 (show p < 5 by omega) (by decide), C2.v0, p_ans C2, o_bind, o_call, z_lit, b0, o_ret0', o_ret1', o_bI, Bool.true_eq_false, Bool.false_eq_true, eq_self, if_true, if_false]
      · have C1 := R1.c
        have M1 := R1.mh
        have SM := M1.setT (t := 9) (i := p) (v := b) (Or.inr (Or.inr (Or.inr (Or.inl ⟨by decide, hp⟩)))) (by decide) (hWF_U HH.2.2 (by omega))
        rw [em] at SM
        have C2 : CX (dtSI μ1 134 (75 + 12 * p + 1) (Int32.ofNat b)) := C1.SI
        have mv := M1.personOf (k := 1) (by decide) hp
        refine ⟨dtSI μ1 134 (75 + 12 * p + 1) (Int32.ofNat b), ?_, Fr.SI (P134.h ⟨rfl, by omega⟩), SM⟩
        simp (disch := omega) only [f_X12_deafen, f_X12_doorRow, f_X12_personRow, C1.v133, C1.g133_0, M1.isPerson, hq0, j_lit, f_isFrom (show 9 < 2147483647 by decide), hq1, mv, z_mul, z_add, o_SI C1.s134 (show 75 + 12 * p + 1 < 2656 by omega) (by decide), C2.v133, n_gives C2, o_bind, o_call, z_lit, b0, o_ret0', o_ret1', o_bI, Bool.true_eq_false, Bool.false_eq_true, eq_self, if_true, if_false]
theorem cs26 {μ : dtM} {w : aW} {f : aF} {A : aH} {z : aZ} (HP : RP μ w f A z) (HM : RM μ f A z) (W : dWF A (zD z)) (x : Int32) : both (f_X11_rule 0 x) (f_X12_rule 133 x) μ := by
  have C := HP.c
  have HH := HP.ph
  have g5 := HP.g5
  have hnr := HH.nr
  have hnd := HH.nd
  have hnw := HH.nw
  have hnp := HH.np
  cases hq : inR x 17
  · refine both.no HP HM W (bI false) (Int32.ofNat 1) ?_ (fun μ1 R1 => ?_)
    · simp only [f_X11_rule, f_within0 (show 16 < 2147483647 by decide), hq, C.v0, p_refuse C, o_bind, o_call, z_lit, b0, o_ret0', o_ret1', o_bI, Bool.true_eq_false, Bool.false_eq_true, eq_self, if_true, if_false]
    · have C1 := R1.c
      simp only [f_X12_rule, j_lit, f_isFrom (show 16 < 2147483647 by decide), hq, C1.v133, n_isW C1 (show 0 < 1 ∧ 1 < 2147483648 by decide), o_bind, o_call, z_lit, b0, o_ret0', o_ret1', o_bI, Bool.true_eq_false, Bool.false_eq_true, eq_self, if_true, if_false]
  · obtain ⟨b, hb, rfl⟩ := inR_t (by decide) hq
    have e4 : ∀ k, ¬ k = 4 → hs (hUs A 4 b) k = hs A k := fun k hk => if_neg hk
    refine both.hou HP HM W (bI true) (Int32.ofNat 0) (hUs A 4 b) ?_ (fun μ1 R1 => ?_) (W.kept (e4 0 (by decide)) (e4 1 (by decide)) (by rw [e4 3 (by decide)]; exact Nat.le_refl _))
    · have C2 : CX (dtSI μ w.1 4 (Int32.ofNat b)) := C.SI
      refine ⟨dtSI μ w.1 4 (Int32.ofNat b), ?_, Fr.SI (PHs.h (by omega)), HH.setS (j := 4) (Or.inl ⟨rfl, by omega⟩)⟩
      simp only [f_X11_rule, f_within0 (show 16 < 2147483647 by decide), hq, g5, o_PI HH.s0, C2.v0, p_agree C2, o_bind, o_call, z_lit, b0, o_ret0', o_ret1', o_bI, Bool.true_eq_false, Bool.false_eq_true, eq_self, if_true, if_false]
    · have C1 := R1.c
      have M1 := R1.mh
      have C2 : CX (dtSI μ1 134 4 (Int32.ofNat b)) := C1.SI
      refine ⟨dtSI μ1 134 4 (Int32.ofNat b), ?_, Fr.SI (P134.h ⟨rfl, by decide⟩), M1.setS (j := 4) (Or.inl ⟨rfl, by omega⟩)⟩
      simp only [f_X12_rule, j_lit, f_isFrom (show 16 < 2147483647 by decide), hq, C1.g133_0, o_SI C1.s134 (show 4 < 2656 by decide) (by decide), C2.v133, n_is0 C2, o_bind, o_call, z_lit, b0, o_ret0', o_ret1', o_bI, Bool.true_eq_false, Bool.false_eq_true, eq_self, if_true, if_false]
theorem bI_eq {a b : Bool} : (bI a = bI b) = (a = b) := by cases a <;> cases b <;> simp [bI]
theorem cs21 {μ : dtM} {w : aW} {f : aF} {A : aH} {z : aZ} (HP : RP μ w f A z) (HM : RM μ f A z) (W : dWF A (zD z)) (x y : Int32) (b : Bool) : both (f_X11_teach 0 x y (bI b)) (f_X12_teach 133 x y (bI b)) μ := by
  have C := HP.c
  have HH := HP.ph
  have g5 := HP.g5
  have hnr := HH.nr
  have hnd := HH.nd
  have hnw := HH.nw
  have hnp := HH.np
  cases hq0 : inR x (hs A 3)
  · refine both.no HP HM W (bI false) (Int32.ofNat 1) ?_ (fun μ1 R1 => ?_)
    · simp only [f_X11_teach, f_X11_teach_22, g5, C.v0, HH.rv, HH.hasPerson, hq0, p_refuse C, o_bind, o_call, z_lit, b0, o_ret0', o_ret1', o_bI, Bool.true_eq_false, Bool.false_eq_true, eq_self, if_true, if_false]
    · have C1 := R1.c
      have M1 := R1.mh
      simp only [f_X12_teach, f_X12_teach_16, C1.v133, M1.isPerson, hq0, n_isW C1 (show 0 < 1 ∧ 1 < 2147483648 by decide), o_bind, o_call, z_lit, b0, o_ret0', o_ret1', o_bI, Bool.true_eq_false, Bool.false_eq_true, eq_self, if_true, if_false]
  · cases hq1 : inR y (hs A 2)
    · refine both.no HP HM W (bI false) (Int32.ofNat 1) ?_ (fun μ1 R1 => ?_)
      · simp only [f_X11_teach, f_X11_teach_22, g5, C.v0, HH.rv, HH.hasPerson, HH.hasWord, hq0, hq1, p_refuse C, o_bind, o_call, z_lit, b0, o_ret0', o_ret1', o_bI, Bool.true_eq_false, Bool.false_eq_true, eq_self, if_true, if_false]
      · have C1 := R1.c
        have M1 := R1.mh
        simp only [f_X12_teach, f_X12_teach_16, C1.v133, M1.isPerson, M1.isWord, hq0, hq1, n_isW C1 (show 0 < 1 ∧ 1 < 2147483648 by decide), o_bind, o_call, z_lit, b0, o_ret0', o_ret1', o_bI, Bool.true_eq_false, Bool.false_eq_true, eq_self, if_true, if_false]
    · obtain ⟨p, hp, rfl⟩ := inR_t (by omega) hq0
      obtain ⟨k, hk, rfl⟩ := inR_t (by omega) hq1
      have h10 := (HH.pers hp).2.2.1
      have h2 : 2 ^ hs A 2 ≤ 128 := Nat.pow_le_pow_right (n := 2) (by decide) hnw
      have p2 := fun (m : dtM) (X : MH m 0 0 A) => X.personOf (k := 2) (by decide) hp
      by_cases hb : (ht A 10 p).testBit k = b
      · refine both.no HP HM W (bI false) (Int32.ofNat 7) ?_ (fun μ1 R1 => ?_)
        · simp only [f_X11_teach, g5, C.v0, HH.rv, HH.hasPerson, HH.hasWord, hq0, hq1, HH.r16, HH.l10 hp, f_contains (show ht A 10 p < 2147483648 by omega) (show k < 32 by omega), bI_eq, hb, p_refuse C, o_bind, o_call, z_lit, b0, o_ret0', o_ret1', o_bI, Bool.true_eq_false, Bool.false_eq_true, eq_self, if_true, if_false]
        · have C1 := R1.c
          have M1 := R1.mh
          simp only [f_X12_teach, C1.v133, M1.isPerson, M1.isWord, hq0, hq1, p2 _ M1, Nat.reduceAdd, f_isIn (show ht A 10 p < 2147483648 by omega) (show k < 32 by omega), bI_eq, hb, n_isW C1 (show 0 < 7 ∧ 7 < 2147483648 by decide), o_bind, o_call, z_lit, b0, o_ret0', o_ret1', o_bI, Bool.true_eq_false, Bool.false_eq_true, eq_self, if_true, if_false]
      · have hx := xor_lt2 h10 hk
        have hok' : hok A 10 p := Or.inr (Or.inr (Or.inr (Or.inl ⟨by decide, hp⟩)))
        have S := HH.setT (t := 10) (i := p) (v := ht A 10 p ^^^ 2 ^ k) hok' (by decide) (hWF_U HH.2.2 (by omega))
        refine both.hou HP HM W (bI true) (Int32.ofNat 0) (hUt A 10 p (ht A 10 p ^^^ 2 ^ k)) ?_ (fun μ1 R1 => ?_) (hs_same W (fun k hk => rfl))
        · have C2 : CX (dtSI μ (w.1 + 10) p (Int32.ofNat (ht A 10 p ^^^ 2 ^ k))) := C.SI
          refine ⟨dtSI μ (w.1 + 10) p (Int32.ofNat (ht A 10 p ^^^ 2 ^ k)), ?_, Fr.SI (PHs.h (by omega)), S⟩
          simp only [f_X11_teach, g5, C.v0, HH.rv, HH.hasPerson, HH.hasWord, hq0, hq1, HH.r16, HH.l10 hp, f_contains (show ht A 10 p < 2147483648 by omega) (show k < 32 by omega), bI_eq, hb, z_bit (show k < 32 by omega), z_xor, o_SI HH.s10 (show p < 5 by omega) (by decide), C2.v0, p_agree C2, o_bind, o_call, z_lit, b0, o_ret0', o_ret1', o_bI, Bool.true_eq_false, Bool.false_eq_true, eq_self, if_true, if_false]
        · have C1 := R1.c
          have M1 := R1.mh
          have em : mIdx 10 p = 75 + 12 * p + 2 := by unfold mIdx; rw [if_neg (by decide), if_neg (by decide)]
          have SM := M1.setT (t := 10) (i := p) (v := ht A 10 p ^^^ 2 ^ k) hok' (by decide) (hWF_U HH.2.2 (by omega))
          rw [em] at SM
          have r2 : opLI 1 μ1 134 (Int32.ofNat (75 + 12 * p + 2)) = some (Int32.ofNat (ht A 10 p)) := M1.pl (t := 10) ⟨by decide, by decide⟩ hp
          have C2 : CX (dtSI μ1 134 (75 + 12 * p + 2) (Int32.ofNat (ht A 10 p ^^^ 2 ^ k))) := C1.SI
          refine ⟨dtSI μ1 134 (75 + 12 * p + 2) (Int32.ofNat (ht A 10 p ^^^ 2 ^ k)), ?_, Fr.SI (P134.h ⟨rfl, by omega⟩), SM⟩
          simp only [f_X12_teach, f_X12_personRow, C1.v133, C1.g133_0, M1.isPerson, M1.isWord, hq0, hq1, p2 _ M1, Nat.reduceAdd, f_isIn (show ht A 10 p < 2147483648 by omega) (show k < 32 by omega), bI_eq, hb, z_mul, z_add, r2, z_bit (show k < 32 by omega), z_xor, o_SI C1.s134 (show 75 + 12 * p + 2 < 2656 by omega) (by decide), C2.v133, n_is0 C2, o_bind, o_call, z_lit, b0, o_ret0', o_ret1', o_bI, Bool.true_eq_false, Bool.false_eq_true, eq_self, if_true, if_false]
