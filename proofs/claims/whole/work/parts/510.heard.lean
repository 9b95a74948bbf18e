/-! PURE 33: what is heard; what is told -/
theorem ScP.h {w : aW} {k j : Nat} (h : k = 123) : ScP w k j := by unfold ScP; omega
theorem ScM.h {k j : Nat} (h : k = 142) : ScM k j := by unfold ScM; omega
theorem hLo_lt {A : aH} {r o v : Nat} (h : hLo A r o = some v) : v < 2147483648 := by
  unfold hLo at h
  by_cases q : mG A 0 (-Int32.ofNat 1) (7 * r + o) < 1000000
  · rw [if_pos q] at h; cases h; omega
  · rw [if_neg q] at h; cases h
theorem hu_lt {A : aH} {d p s : Nat} : ∀ (n i v : Nat), hu A d p s n i = some v → v < i + n
  | 0, _, _, h => by cases h
  | n + 1, i, v, h => by
    rw [hu] at h
    by_cases q : hHd A i d p s = true
    · rw [if_pos q] at h
      have := hu_lt n (i + 1) v h
      omega
    · rw [if_neg q] at h
      cases h; omega
theorem hSe_lt {A : aH} {near to bt s : Nat} : ∀ (n i v : Nat), hSe A near to bt s n i = some v → v < i + n
  | 0, _, _, h => by cases h
  | n + 1, i, v, h => by
    rw [hSe] at h
    by_cases q : (hs A 5).testBit i = true ∧ (near.testBit (ht A 0 i) = true ∨ near.testBit (ht A 1 i) = true) ∧ hHd A 0 i to s = true ∧ hHd A 0 i bt s = false
    · rw [if_pos q] at h
      cases h; omega
    · rw [if_neg q] at h
      have := hSe_lt n (i + 1) v h
      omega
theorem cs27 {μ : dtM} {w : aW} {f : aF} {A : aH} {z : aZ} (HP : RP μ w f A z) (HM : RM μ f A z) (W : dWF A (zD z)) (x y : Int32) : both (f_X11_loss 0 x y) (f_X12_loss 133 x y) μ := by
  have C := HP.c
  have HH := HP.ph
  have g5 := HP.g5
  have hnr := HH.nr
  have hnd := HH.nd
  have hnw := HH.nw
  have hnp := HH.np
  cases hq : inR x (hs A 0)
  · refine both.no HP HM W (-Int32.ofNat 1) (Int32.ofNat 1) ?_ (fun μ1 R1 => ?_)
    · simp only [f_X11_loss, f_X11_loss_22, g5, C.v0, HH.rv, HH.hasRoom, hq, p_fail C, o_bind, o_call, z_lit, b0, o_ret0', o_ret1', o_bI, Bool.true_eq_false, Bool.false_eq_true, eq_self, if_true, if_false]
    · have C1 := R1.c
      have M1 := R1.mh
      simp only [f_X12_loss, f_X12_loss_16, C1.v133, M1.r0, M1.isRoom, hq, n_refuse C1, o_bind, o_call, z_lit, b0, o_ret0', o_ret1', o_bI, Bool.true_eq_false, Bool.false_eq_true, eq_self, if_true, if_false]
  · cases hq2 : inR y (hs A 0)
    · refine both.no HP HM W (-Int32.ofNat 1) (Int32.ofNat 1) ?_ (fun μ1 R1 => ?_)
      · simp only [f_X11_loss, f_X11_loss_22, g5, C.v0, HH.rv, HH.hasRoom, hq, hq2, p_fail C, o_bind, o_call, z_lit, b0, o_ret0', o_ret1', o_bI, Bool.true_eq_false, Bool.false_eq_true, eq_self, if_true, if_false]
      · have C1 := R1.c
        have M1 := R1.mh
        simp only [f_X12_loss, f_X12_loss_16, C1.v133, M1.r0, M1.isRoom, hq, hq2, n_refuse C1, o_bind, o_call, z_lit, b0, o_ret0', o_ret1', o_bI, Bool.true_eq_false, Bool.false_eq_true, eq_self, if_true, if_false]
    · obtain ⟨r, hr, rfl⟩ := inR_t (by omega) hq
      obtain ⟨s, hs', rfl⟩ := inR_t (by omega) hq2
      refine both.out HP HM W (v := oN (hLo A r s)) (st := oS (hLo A r s)) ?_ (fun μ1 R1 => ?_)
      · obtain ⟨μ2, e2, F2⟩ := HH.lossBetween C.hHr HP.hh hr hs'
        have C2 := C.kept F2
        refine ⟨μ2, ?_, F2.wide (fun k j x => ScP.h x)⟩
        simp only [f_X11_loss, g5, C.v0, HH.rv, HH.hasRoom, hq, hq2, C.g0_14, o_Rv C.s122, e2, C2.v0, p_found C2 (fun v => hLo_lt), o_bind, o_call, z_lit, b0, o_ret0', o_ret1', o_bI, Bool.true_eq_false, Bool.false_eq_true, eq_self, if_true, if_false]
      · obtain ⟨μ2, e2, F2⟩ := R1.mh.loss R1.c.mLs hr hs'
        exact ⟨μ2, e2, F2.wide (fun k j x => ScM.h x)⟩
theorem cs28 {μ : dtM} {w : aW} {f : aF} {A : aH} {z : aZ} (HP : RP μ w f A z) (HM : RM μ f A z) (W : dWF A (zD z)) (x y : Int32) : both (f_X11_hearers 0 x y) (f_X12_hearers 133 x y) μ := by
  have C := HP.c
  have HH := HP.ph
  have g5 := HP.g5
  have hnr := HH.nr
  have hnd := HH.nd
  have hnw := HH.nw
  have hnp := HH.np
  cases hq : inR x (hs A 1)
  · refine both.no HP HM W (-Int32.ofNat 1) (Int32.ofNat 1) ?_ (fun μ1 R1 => ?_)
    · simp only [f_X11_hearers, f_X11_hearers_18, g5, C.v0, HH.rv, HH.hasDoor, hq, p_fail C, o_bind, o_call, z_lit, b0, o_ret0', o_ret1', o_bI, Bool.true_eq_false, Bool.false_eq_true, eq_self, if_true, if_false]
    · have C1 := R1.c
      have M1 := R1.mh
      simp only [f_X12_hearers, f_X12_hearers_29, f_X12_hearers_34, C1.v133, M1.r0, M1.isDoor, hq, n_refuse C1, o_bind, o_call, z_lit, b0, o_ret0', o_ret1', o_bI, Bool.true_eq_false, Bool.false_eq_true, eq_self, if_true, if_false]
  · cases hq2 : inR y 4
    · refine both.no HP HM W (-Int32.ofNat 1) (Int32.ofNat 1) ?_ (fun μ1 R1 => ?_)
      · simp only [f_X11_hearers, f_X11_hearers_18, g5, C.v0, HH.rv, HH.hasDoor, f_isSound, hq, hq2, p_fail C, o_bind, o_call, z_lit, b0, o_ret0', o_ret1', o_bI, Bool.true_eq_false, Bool.false_eq_true, eq_self, if_true, if_false]
      · have C1 := R1.c
        have M1 := R1.mh
        simp only [f_X12_hearers, f_X12_hearers_29, f_X12_hearers_34, C1.v133, M1.r0, M1.isDoor, f_isNoise, hq, hq2, n_refuse C1, o_bind, o_call, z_lit, b0, o_ret0', o_ret1', o_bI, Bool.true_eq_false, Bool.false_eq_true, eq_self, if_true, if_false]
    · obtain ⟨d, hd, rfl⟩ := inR_t (by omega) hq
      obtain ⟨s, hs', rfl⟩ := inR_t (by omega) hq2
      refine both.out HP HM W (v := Int32.ofNat (hSet A d s (-Int32.ofNat 1))) (st := Int32.ofNat 0) ?_ (fun μ1 R1 => ?_)
      · obtain ⟨μ2, e2, F2⟩ := HH.hearersOf C.hHr HP.hh (mk := -Int32.ofNat 1) hs' hd
        have C2 := C.kept F2
        refine ⟨μ2, ?_, F2.wide (fun k j x => ScP.h x)⟩
        simp only [f_X11_hearers, g5, C.v0, HH.rv, HH.hasDoor, f_isSound, hq, hq2, C.g0_14, o_Rv C.s122, e2, C2.v0, p_ans C2, o_bind, o_call, z_lit, b0, o_ret0', o_ret1', o_bI, Bool.true_eq_false, Bool.false_eq_true, eq_self, if_true, if_false]
      · obtain ⟨μ2, e2, F2⟩ := R1.mh.hearing R1.c.mLs (mk := -Int32.ofNat 1) hs' hd
        have C2 := R1.c.kept F2
        refine ⟨μ2, ?_, F2.wide (fun k j x => ScM.h x)⟩
        have C1 := R1.c
        have M1 := R1.mh
        simp only [f_X12_hearers, f_X12_hearers_34, C1.v133, M1.r0, M1.isDoor, f_isNoise, hq, hq2, e2, C2.v133, n_gives C2, o_bind, o_call, z_lit, b0, o_ret0', o_ret1', o_bI, Bool.true_eq_false, Bool.false_eq_true, eq_self, if_true, if_false]
theorem cs29 {μ : dtM} {w : aW} {f : aF} {A : aH} {z : aZ} (HP : RP μ w f A z) (HM : RM μ f A z) (W : dWF A (zD z)) (x y : Int32) : both (f_X11_hears 0 x y) (f_X12_hears 133 x y) μ := by
  have C := HP.c
  have HH := HP.ph
  have g5 := HP.g5
  have hnr := HH.nr
  have hnd := HH.nd
  have hnw := HH.nw
  have hnp := HH.np
  cases hq : inR x (hs A 3)
  · refine both.no HP HM W (-Int32.ofNat 1) (Int32.ofNat 1) ?_ (fun μ1 R1 => ?_)
    · simp only [f_X11_hears, f_X11_hears_18, g5, C.v0, HH.rv, HH.hasPerson, hq, p_fail C, o_bind, o_call, z_lit, b0, o_ret0', o_ret1', o_bI, Bool.true_eq_false, Bool.false_eq_true, eq_self, if_true, if_false]
    · have C1 := R1.c
      have M1 := R1.mh
      simp only [f_X12_hears, f_X12_hears_15, C1.v133, M1.r0, M1.isPerson, hq, n_refuse C1, o_bind, o_call, z_lit, b0, o_ret0', o_ret1', o_bI, Bool.true_eq_false, Bool.false_eq_true, eq_self, if_true, if_false]
  · cases hq2 : inR y 4
    · refine both.no HP HM W (-Int32.ofNat 1) (Int32.ofNat 1) ?_ (fun μ1 R1 => ?_)
      · simp only [f_X11_hears, f_X11_hears_18, g5, C.v0, HH.rv, HH.hasPerson, f_isSound, hq, hq2, p_fail C, o_bind, o_call, z_lit, b0, o_ret0', o_ret1', o_bI, Bool.true_eq_false, Bool.false_eq_true, eq_self, if_true, if_false]
      · have C1 := R1.c
        have M1 := R1.mh
        simp only [f_X12_hears, f_X12_hears_15, C1.v133, M1.r0, M1.isPerson, f_isNoise, hq, hq2, n_refuse C1, o_bind, o_call, z_lit, b0, o_ret0', o_ret1', o_bI, Bool.true_eq_false, Bool.false_eq_true, eq_self, if_true, if_false]
    · obtain ⟨p, hp, rfl⟩ := inR_t (by omega) hq
      obtain ⟨s, hs', rfl⟩ := inR_t (by omega) hq2
      refine both.out HP HM W (v := Int32.ofNat (hDs A p s)) (st := Int32.ofNat 0) ?_ (fun μ1 R1 => ?_)
      · obtain ⟨μ2, e2, F2⟩ := HH.doorsHeard C.hHr HP.hh hp hs'
        have C2 := C.kept F2
        refine ⟨μ2, ?_, F2.wide (fun k j x => ScP.h x)⟩
        simp only [f_X11_hears, g5, C.v0, HH.rv, HH.hasPerson, f_isSound, hq, hq2, C.g0_14, o_Rv C.s122, e2, C2.v0, p_ans C2, o_bind, o_call, z_lit, b0, o_ret0', o_ret1', o_bI, Bool.true_eq_false, Bool.false_eq_true, eq_self, if_true, if_false]
      · obtain ⟨μ2, e2, F2⟩ := MH.hs26 hp hs' (hs A 1) dtFuel 0 0 μ1 (by omega) (dtFuel_gt (by omega)) R1.mh R1.c.mLs
        refine ⟨μ2, ?_, F2.wide (fun k j x => ScM.h x)⟩
        have C1 := R1.c
        have M1 := R1.mh
        simp only [f_X12_hears, C1.v133, M1.r0, M1.isPerson, f_isNoise, hq, hq2, e2, o_bind, o_call, z_lit, b0, o_ret0', o_ret1', o_bI, Bool.true_eq_false, Bool.false_eq_true, eq_self, if_true, if_false]
        rfl
theorem cs30 {μ : dtM} {w : aW} {f : aF} {A : aH} {z : aZ} (HP : RP μ w f A z) (HM : RM μ f A z) (W : dWF A (zD z)) (x y v : Int32) : both (f_X11_hush 0 x y v) (f_X12_hush 133 x y v) μ := by
  have C := HP.c
  have HH := HP.ph
  have g5 := HP.g5
  have hnr := HH.nr
  have hnd := HH.nd
  have hnw := HH.nw
  have hnp := HH.np
  cases hq : inR x (hs A 1)
  · refine both.no HP HM W (-Int32.ofNat 1) (Int32.ofNat 1) ?_ (fun μ1 R1 => ?_)
    · simp only [f_X11_hush, f_X11_hush_29, g5, C.v0, HH.rv, HH.hasDoor, hq, p_fail C, o_bind, o_call, z_lit, b0, o_ret0', o_ret1', o_bI, Bool.true_eq_false, Bool.false_eq_true, eq_self, if_true, if_false]
    · have C1 := R1.c
      have M1 := R1.mh
      simp only [f_X12_hush, f_X12_hush_23, C1.v133, M1.r0, M1.isDoor, hq, n_refuse C1, o_bind, o_call, z_lit, b0, o_ret0', o_ret1', o_bI, Bool.true_eq_false, Bool.false_eq_true, eq_self, if_true, if_false]
  · cases hq2 : inR y 4
    · refine both.no HP HM W (-Int32.ofNat 1) (Int32.ofNat 1) ?_ (fun μ1 R1 => ?_)
      · simp only [f_X11_hush, f_X11_hush_29, g5, C.v0, HH.rv, HH.hasDoor, f_isSound, hq, hq2, p_fail C, o_bind, o_call, z_lit, b0, o_ret0', o_ret1', o_bI, Bool.true_eq_false, Bool.false_eq_true, eq_self, if_true, if_false]
      · have C1 := R1.c
        have M1 := R1.mh
        simp only [f_X12_hush, f_X12_hush_23, C1.v133, M1.r0, M1.isDoor, f_isNoise, hq, hq2, n_refuse C1, o_bind, o_call, z_lit, b0, o_ret0', o_ret1', o_bI, Bool.true_eq_false, Bool.false_eq_true, eq_self, if_true, if_false]
    · cases hq3 : inR v (hs A 3)
      · refine both.no HP HM W (-Int32.ofNat 1) (Int32.ofNat 1) ?_ (fun μ1 R1 => ?_)
        · simp only [f_X11_hush, f_X11_hush_29, g5, C.v0, HH.rv, HH.hasDoor, HH.hasPerson, f_isSound, hq, hq2, hq3, p_fail C, o_bind, o_call, z_lit, b0, o_ret0', o_ret1', o_bI, Bool.true_eq_false, Bool.false_eq_true, eq_self, if_true, if_false]
        · have C1 := R1.c
          have M1 := R1.mh
          simp only [f_X12_hush, f_X12_hush_23, C1.v133, M1.r0, M1.isDoor, M1.isPerson, f_isNoise, hq, hq2, hq3, n_refuse C1, o_bind, o_call, z_lit, b0, o_ret0', o_ret1', o_bI, Bool.true_eq_false, Bool.false_eq_true, eq_self, if_true, if_false]
      · obtain ⟨d, hd, rfl⟩ := inR_t (by omega) hq
        obtain ⟨s, hs', rfl⟩ := inR_t (by omega) hq2
        obtain ⟨p, hp, rfl⟩ := inR_t (by omega) hq3
        refine both.out HP HM W (v := oN (hu A d p s 10 0)) (st := oS (hu A d p s 10 0)) ?_ (fun μ1 R1 => ?_)
        · obtain ⟨μ2, e2, F2⟩ := HH.baizeToHush C.hHr HP.hh hd hp hs'
          have C2 := C.kept F2
          have hv : ∀ v, hu A d p s 10 0 = some v → v < 2147483648 := fun v e => by have := hu_lt 10 0 v e; omega
          refine ⟨μ2, ?_, F2.wide (fun k j x => ScP.h x)⟩
          simp only [f_X11_hush, g5, C.v0, HH.rv, HH.hasDoor, HH.hasPerson, f_isSound, hq, hq2, hq3, C.g0_14, o_Rv C.s122, e2, C2.v0, p_found C2 hv, o_bind, o_call, z_lit, b0, o_ret0', o_ret1', o_bI, Bool.true_eq_false, Bool.false_eq_true, eq_self, if_true, if_false]
        · obtain ⟨μ2, e2, F2⟩ := MH.hu32 hd hp hs' 10 dtFuel 0 μ1 (by omega) (dtFuel_gt (by decide)) R1.mh R1.c.mLs
          refine ⟨μ2, ?_, F2.wide (fun k j x => ScM.h x)⟩
          have C1 := R1.c
          have M1 := R1.mh
          simp only [f_X12_hush, C1.v133, M1.r0, M1.isDoor, M1.isPerson, f_isNoise, hq, hq2, hq3, e2, o_bind, o_call, z_lit, b0, o_ret0', o_ret1', o_bI, Bool.true_eq_false, Bool.false_eq_true, eq_self, if_true, if_false]
theorem cs31 {μ : dtM} {w : aW} {f : aF} {A : aH} {z : aZ} (HP : RP μ w f A z) (HM : RM μ f A z) (W : dWF A (zD z)) (x y v s : Int32) : both (f_X11_secret 0 x y v s) (f_X12_secret 133 x y v s) μ := by
  have C := HP.c
  have HH := HP.ph
  have g5 := HP.g5
  have hnr := HH.nr
  have hnd := HH.nd
  have hnw := HH.nw
  have hnp := HH.np
  have hop := HH.op1
  cases hq : ((inR x (hs A 3) && inR y (hs A 3) && !decide (x = y)) && (inR x (hs A 3) && inR v (hs A 3) && !decide (x = v)) && (inR y (hs A 3) && inR v (hs A 3) && !decide (y = v)) && inR s 4)
  · refine both.no HP HM W (-Int32.ofNat 1) (Int32.ofNat 1) ?_ (fun μ1 R1 => ?_)
    · simp only [f_X11_secret, f_X11_secret_35, p_areTwo HP, f_isSound, p_fail C, C.v0, o_bind, o_call, z_lit, b0]
      cases h1 : (inR x (hs A 3) && inR y (hs A 3) && !decide (x = y))
      · rw [if_pos rfl]
      · rw [if_neg (by decide)]
        cases h2 : (inR x (hs A 3) && inR v (hs A 3) && !decide (x = v))
        · rw [if_pos rfl]
        · rw [if_neg (by decide)]
          cases h3 : (inR y (hs A 3) && inR v (hs A 3) && !decide (y = v))
          · rw [if_pos rfl]
          · rw [if_neg (by decide)]
            cases h4 : inR s 4
            · rw [if_pos rfl]
            · rw [h1, h2, h3, h4] at hq; exact absurd hq (by decide)
    · have C1 := R1.c
      have M1 := R1.mh
      simp only [f_X12_secret, f_X12_secret_47, M1.isPerson, f_isNoise, n_refuse C1, C1.v133, o_bind, o_call, z_lit, b0]
      cases h1 : inR x (hs A 3)
      · rw [if_pos rfl]
      · rw [if_neg (by decide)]
        cases h2 : inR y (hs A 3)
        · rw [if_pos rfl]
        · rw [if_neg (by decide)]
          cases h3 : inR v (hs A 3)
          · rw [if_pos rfl]
          · rw [if_neg (by decide)]
            cases h4 : inR s 4
            · rw [if_pos rfl]
            · rw [if_neg (by decide)]
              by_cases q1 : x = y
              · rw [if_pos q1]
              · rw [if_neg q1]
                by_cases q2 : x = v
                · rw [if_pos q2]
                · rw [if_neg q2]
                  by_cases q3 : y = v
                  · rw [if_pos q3]
                  · rw [h1, h2, h3, h4, decide_eq_false q1, decide_eq_false q2, decide_eq_false q3] at hq
                    exact absurd hq (by decide)
  · have hq' := hq
    simp only [Bool.and_eq_true, Bool.not_eq_true', decide_eq_false_iff_not] at hq'
    obtain ⟨⟨⟨⟨⟨hx, hy⟩, n1⟩, ⟨⟨_, hv⟩, n2⟩⟩, ⟨_, n3⟩⟩, h4⟩ := hq'
    have t1 : (inR x (hs A 3) && inR y (hs A 3) && !decide (x = y)) = true := by rw [hx, hy, decide_eq_false n1]; rfl
    have t2 : (inR x (hs A 3) && inR v (hs A 3) && !decide (x = v)) = true := by rw [hx, hv, decide_eq_false n2]; rfl
    have t3 : (inR y (hs A 3) && inR v (hs A 3) && !decide (y = v)) = true := by rw [hy, hv, decide_eq_false n3]; rfl
    have P1 := p_areTwo HP x y
    have P2 := p_areTwo HP x v
    have P3 := p_areTwo HP y v
    rw [t1] at P1
    rw [t2] at P2
    rw [t3] at P3
    obtain ⟨p, hp, rfl⟩ := inR_t (by omega) hx
    obtain ⟨a, ha, rfl⟩ := inR_t (by omega) hy
    obtain ⟨b, hb, rfl⟩ := inR_t (by omega) hv
    obtain ⟨c, hc, rfl⟩ := inR_t (by decide) h4
    have e1 : ¬ p = a := fun e => n1 (by rw [e])
    have e2' : ¬ p = b := fun e => n2 (by rw [e])
    have e3' : ¬ a = b := fun e => n3 (by rw [e])
    have pr := (HH.pers hp).1
    have h7 := p128 (show ht A 8 p < 7 by omega)
    have hl := hReach_lt HH.2.2 (op := hs A 5) h7
    refine both.out HP HM W (v := oN (hSe A (hReach A (hs A 5) (2 ^ ht A 8 p)) a b c (hs A 1) 0)) (st := oS (hSe A (hReach A (hs A 5) (2 ^ ht A 8 p)) a b c (hs A 1) 0)) ?_ (fun μ1 R1 => ?_)
    · have hv : ∀ v, hSe A (hReach A (hs A 5) (2 ^ ht A 8 p)) a b c (hs A 1) 0 = some v → v < 2147483648 := fun v e => by have := hSe_lt _ _ v e; omega
      obtain ⟨μ2, e2, F2⟩ := PH.sd21 HP.hh hl ha hb hc (hs A 1) dtFuel 0 μ (by omega) (dtFuel_gt (by omega)) HH C.hHr
      have C2 := C.kept F2
      refine ⟨μ2, ?_, F2.wide (fun k j x => ScP.h x)⟩
      simp only [f_X11_secret, P1, P2, P3, f_isSound, h4, C.g0_14, g5, C.v0, o_Rv C.s122, f_X2_secretDoor, HH.g5, HH.r14, HH.l8 hp, z_bit (show ht A 8 p < 32 by omega), HH.reach (show hs A 5 < 2147483648 by omega) h7, e2, C2.v0, p_found C2 hv, o_bind, o_call, z_lit, b0, o_ret0', o_ret1', o_bI, Bool.true_eq_false, Bool.false_eq_true, eq_self, if_true, if_false]
    · have C1 := R1.c
      have M1 := R1.mh
      have m5 := M1.gj (j := 5) (by decide)
      have p0 := M1.personOf (k := 0) (by decide) hp
      obtain ⟨μ2, e2, F2⟩ := MH.se76 hl ha hb e1 e2' hp hc (hs A 1) dtFuel 0 μ1 (by omega) (dtFuel_gt (by omega)) M1 C1.mLs
      refine ⟨μ2, ?_, F2.wide (fun k j x => ScM.h x)⟩
      simp (disch := omega) only [f_X12_secret, C1.v133, C1.g133_0, M1.isPerson, f_isNoise, hx, hy, hv, h4, z_eq, e1, e2', e3', p0, Nat.add_zero, m5, z_bit, M1.reaches (show hs A 5 < 2147483648 by omega) h7, hReachM_eq M1.2.2 h7, e2, mOut, o_bind, o_call, z_lit, b0, o_ret0', o_ret1', o_bI, Bool.true_eq_false, Bool.false_eq_true, eq_self, if_true, if_false]
