/-! PURE 61: fault, lived -/
theorem RP.pb {w : aW} {f : aF} {A : aH} {z : aZ} {μ : dtM} (H : RP μ w f A z) : PB μ (zB z) := H.2.2.2.2.2.1
theorem RM.mb {f : aF} {A : aH} {z : aZ} {μ : dtM} (H : RM μ f A z) : MB μ (zB z) := H.2.2.2.2.1
theorem RP.pv {w : aW} {f : aF} {A : aH} {z : aZ} {μ : dtM} (H : RP μ w f A z) : PV μ (zV z) := H.2.2.2.2.2.2.2.2.1
theorem RM.mv {f : aF} {A : aH} {z : aZ} {μ : dtM} (H : RM μ f A z) : MV μ (zV z) := H.2.2.2.2.2.2.2.1
theorem cs10 {μ : dtM} {w : aW} {f : aF} {A : aH} {z : aZ} (HP : RP μ w f A z) (HM : RM μ f A z) (W : dWF A (zD z)) (x : Int32) : both (f_X11_fault 0 x) (f_X12_fault 133 x) μ := by
  have C := HP.c
  have B := HP.pb
  refine both.mk HP HM W (v := if x = 0 then (zB z).2.2.1 else if x = 1 then (zB z).2.2.2 else (-1 : Int32)) (w' := w) (f' := f) (A' := A) (z' := z) ⟨μ, ?_, Fr.rf, HP⟩ (fun μ1 R1 => ⟨μ1, ?_, Fr.rf, R1⟩) W
  · by_cases h0 : x = 0
    · rw [f_X11_fault, if_pos h0, if_pos h0, C.g0_4, o_bind, o_GI C.s10, o_bind, B.2.2.2.1]
    · rw [f_X11_fault, if_neg h0, if_neg h0]
      by_cases h1 : x = 1
      · rw [if_pos h1, if_pos h1, C.g0_4, o_bind, o_GI C.s10, o_bind, f_X11_fault_28, B.2.2.2.2]
      · rw [if_neg h1, if_neg h1, f_X11_fault_28]
  · have C1 := R1.c
    have B1 := R1.mb
    by_cases h0 : x = 0
    · rw [f_X12_fault, if_pos h0, if_pos h0, o_GI C1.s133, o_bind, f_X12_fault_24, B1.2.2.2.1]
    · rw [f_X12_fault, if_neg h0, if_neg h0]
      by_cases h1 : x = 1
      · rw [if_pos h1, if_pos h1, o_GI C1.s133, o_bind, f_X12_fault_24, B1.2.2.2.2]
      · rw [if_neg h1, if_neg h1, f_X12_fault_24]
theorem cs52 {μ : dtM} {w : aW} {f : aF} {A : aH} {z : aZ} (HP : RP μ w f A z) (HM : RM μ f A z) (W : dWF A (zD z)) (x : Int32) : both (f_X11_lived 0 x) (f_X12_lived 133 x) μ := by
  have C := HP.c
  have V := HP.pv
  have e4 : Int32.ofNat 5 - 1 = Int32.ofNat 4 := by decide
  have lw : f_X11_within x (0 : Int32) (Int32.ofNat 4) μ = some (bI (inR x 5), μ) := f_within0 (n := 4) (by decide)
  cases hq : inR x 5
  · refine both.no HP HM W (-Int32.ofNat 1) (Int32.ofNat 1) ?_ (fun μ1 R1 => ?_)
    · rw [f_X11_lived, C.g0_18, o_bind, o_AL C.s132 (by decide), o_bind, e4, lw, hq, o_call, if_pos (by decide), C.v0, o_bind, show (1 : Int32) = Int32.ofNat 1 from rfl, p_fail C, o_call]
    · have C1 := R1.c
      have e9 : f_X12_lived_9 133 μ1 = some (-Int32.ofNat 1, dtSI μ1 133 2 (Int32.ofNat 1)) := by
        rw [f_X12_lived_9, C1.v133, o_bind, show (1 : Int32) = Int32.ofNat 1 from rfl, n_refuse C1, o_call, f_X12_lived_43]
      rw [f_X12_lived]
      rcases z_cases x with hx | ⟨k, hk, rfl⟩
      · rw [if_pos (show x < 0 from hx), e9]
      · rw [inR_n (by decide) hk] at hq
        have := of_decide_eq_false hq
        rw [if_neg (show ¬ Int32.ofNat k < 0 by rw [show (0 : Int32) = Int32.ofNat 0 from rfl, z_lt0 hk]; exact id), if_neg (show ¬ Int32.ofNat k ≤ 4 by rw [show (4 : Int32) = Int32.ofNat 4 from rfl, z_le hk (by decide)]; omega), e9]
  · obtain ⟨k, hk, rfl⟩ := inR_t (by decide) hq
    have em : ∀ μ1, RM μ1 f A z → f_X12_lived 133 (Int32.ofNat k) μ1 = if Int32.ofNat (zV z).1 = 0 then some (-Int32.ofNat 1, dtSI μ1 133 2 (Int32.ofNat 6)) else some (dtI μ1 153 k, dtSI μ1 133 2 (Int32.ofNat 0)) := fun μ1 R1 => by
      have C1 := R1.c
      rw [f_X12_lived, if_neg (show ¬ Int32.ofNat k < 0 by rw [show (0 : Int32) = Int32.ofNat 0 from rfl, z_lt0 (by omega)]; exact id), if_pos (show Int32.ofNat k ≤ 4 by rw [show (4 : Int32) = Int32.ofNat 4 from rfl, z_le (by omega) (by decide)]; omega), o_GI C1.s133, o_bind, R1.mv.2.1, C1.v133, o_bind, show (6 : Int32) = Int32.ofNat 6 from rfl, n_refuse C1, o_call, f_X12_lived_43, C1.g133_38, o_bind, o_LI C1.s153 hk (by decide), o_bind, o_bind, n_gives C1, o_call, f_X12_lived_43]
    have hv : (zV z).1 = 0 ∨ (zV z).1 = 1 := by have := V.1; omega
    rcases hv with hv | hv
    · refine both.no HP HM W (-Int32.ofNat 1) (Int32.ofNat 6) ?_ (fun μ1 R1 => ?_)
      · have l0 : opLI 1 μ 132 (0 : Int32) = some (-Int32.ofNat 1) := (o_LI (i := 0) C.s132 (by decide) (by decide)).trans (congrArg some (V.2.1 hv))
        rw [f_X11_lived, C.g0_18, o_bind, o_AL C.s132 (by decide), o_bind, e4, lw, hq, o_call, if_neg (by decide), C.g0_18, o_bind, l0, o_bind, if_pos (by decide), C.v0, o_bind, show (6 : Int32) = Int32.ofNat 6 from rfl, p_fail C, o_call]
      · rw [em μ1 R1, hv, if_pos (by decide)]
    · refine both.no HP HM W ((zV z).2 k) (Int32.ofNat 0) ?_ (fun μ1 R1 => ?_)
      · have l0 : opLI 1 μ 132 (0 : Int32) = some ((zV z).2 0) := (o_LI (i := 0) C.s132 (by decide) (by decide)).trans (congrArg some ((V.2.2 hv).2 0 (by decide)))
        rw [f_X11_lived, C.g0_18, o_bind, o_AL C.s132 (by decide), o_bind, e4, lw, hq, o_call, if_neg (by decide), C.g0_18, o_bind, l0, o_bind, if_neg (show ¬ (zV z).2 0 = (-1 : Int32) from (V.2.2 hv).1), o_bind, o_LI C.s132 hk (by decide), o_bind, (V.2.2 hv).2 k hk, C.v0, o_bind, p_ans C, o_call]
      · rw [em μ1 R1, hv, if_neg (by decide), R1.mv.2.2 hv k hk]
