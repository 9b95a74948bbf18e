/-! PURE 57: copyRooms -/
def crT (A : aH) (i p : Nat) (T : aT) : aT := upT T i (taS T i) (taN T i) (fun b => if b = p then cutJ (taS T i) (Int64.ofNat (ht A 8 p)) else taV T i b)
theorem cr25 {w : aW} {A : aH} {i : Nat} (hi : i < 4) : ∀ (n f p : Nat) (z : aZ) (μ : dtM) (fr : aF), p + n = hs A 3 → n < f → RP μ w fr A z → hs A 3 < taN (zT z) i → ∃ μ', f_X11_copyRooms_25 f 0 (Int32.ofNat i) (Int32.ofNat p) μ = some (Int32.ofNat (hs A 3), dtSI μ' 0 0 (Int32.ofNat 0)) ∧ Fr (ScTP w) μ μ' ∧ PT μ' (fo (crT A i) n p (zT z)) := by
  intro n
  induction n with
  | zero =>
    intro f p z μ fr e hf HP hN
    have C := HP.c
    have HH := HP.ph
    have g5 := HP.g5
    have hnp := HH.np
    cases f with
    | zero => omega
    | succ f =>
      refine ⟨μ, ?_, Fr.rf, HP.pt⟩
      simp (disch := omega) only [f_X11_copyRooms_25, g5, HH.g3, z_le, C.v0, p_ans C, o_bind, o_call]
      rw [if_pos (by omega)]
  | succ n ih =>
    intro f p z μ fr e hf HP hN
    have C := HP.c
    have HH := HP.ph
    have g5 := HP.g5
    have hnp := HH.np
    have hnr := HH.nr
    have T := HP.pt
    cases f with
    | zero => omega
    | succ f =>
      have pr := (HH.pers (p := p) (by omega)).1
      have l8 := HH.l8 (p := p) (by omega)
      have F1 : Fr (ScTP w) μ (dtSJ μ (3 + 2 * i) p (cutJ (taS (zT z) i) (Int64.ofNat (ht A 8 p)))) := Fr.SJ (Or.inr (by omega))
      obtain ⟨μ2, e2, F2, T2⟩ := ih f (p + 1) (crT A i p (zT z), z.2) _ _ (by omega) (by omega) (HP.tra F1 (T.put hi (show p + 1 < taN (zT z) i by omega)) rfl) (by show hs A 3 < taN (crT A i p (zT z)) i; unfold crT; rw [upT_n]; exact hN)
      refine ⟨μ2, ?_, F1.tr F2, T2⟩
      rw [← e2]
      have pp := p_put T C (v := Int64.ofNat (ht A 8 p)) hi (show p + 1 < taN (zT z) i by omega)
      simp (disch := omega) only [f_X11_copyRooms_25, g5, HH.g3, HH.r14, l8, C.g0_3, C.t1 hi, C.t2 hi, j_of, pp, z_le, z_lit, z_add, o_bind, o_call]
      rw [if_neg (by omega)]
theorem cr52 {A : aH} {i : Nat} (hi : i < 4) : ∀ (n f p : Nat) (z : aZ) (μ : dtM) (fr : aF), dWF A (zD z) → p + n = hs A 3 → n < f → RM μ fr A z → hs A 3 < taN (zT z) i → ∃ μ', f_X12_copyRooms_52 f 133 (Int32.ofNat i) (Int32.ofNat p) μ = some (Int32.ofNat (hs A 3), dtSI μ' 133 2 (Int32.ofNat 0)) ∧ Fr ScTM μ μ' ∧ MT μ' (fo (crT A i) n p (zT z)) := by
  intro n
  induction n with
  | zero =>
    intro f p z μ fr W e hf HM hN
    have C := HM.c
    have M1 := HM.mh
    have hnp := M1.np
    have m3 := M1.gj (j := 3) (by decide)
    cases f with
    | zero => omega
    | succ f =>
      refine ⟨μ, ?_, Fr.rf, HM.mt⟩
      simp (disch := omega) only [f_X12_copyRooms_52, C.g133_0, z_lit, m3, z_le, C.v133, n_gives C, o_bind, o_call]
      rw [if_pos (by omega)]
  | succ n ih =>
    intro f p z μ fr W e hf HM hN
    have C := HM.c
    have M1 := HM.mh
    have hnp := M1.np
    have hnr := M1.nr
    have T := HM.mt
    have m3 := M1.gj (j := 3) (by decide)
    cases f with
    | zero => omega
    | succ f =>
      have h61 := (T i hi).1.2
      have hs3 := (T i hi).1.1
      have pr := (M1.pers (p := p) (by omega)).1
      have p0 : f_X12_personOf 133 (Int32.ofNat p) (Int32.ofNat 0) μ = some (Int32.ofNat (ht A 8 p), μ) := M1.personOf (k := 0) (by decide) (by omega)
      have F1 : Fr ScTM μ (dtSJ μ 138 (60 * i + p) (cutJ (taS (zT z) i) (Int64.ofNat (ht A 8 p)))) := Fr.SJ (Or.inr (by omega))
      obtain ⟨μ2, e2, F2, T2⟩ := ih f (p + 1) (crT A i p (zT z), z.2) _ _ W (by omega) (by omega) (HM.tra W F1 (T.put hi (show p + 1 < taN (zT z) i by omega)) rfl) (by show hs A 3 < taN (crT A i p (zT z)) i; unfold crT; rw [upT_n]; exact hN)
      refine ⟨μ2, ?_, F1.tr F2, T2⟩
      rw [← e2]
      simp (disch := omega) only [f_X12_copyRooms_52, C.g133_0, C.g133_5, C.g133_7, C.v133, z_lit, m3, p0, j_of, T.so C hi (show 0 < taN (zT z) i by omega), f_cut hs3, z_mul, z_add, o_SJ C.s138 (show 60 * i + p < 240 by omega) (by decide), z_le, o_bind, o_call]
      rw [if_neg (by omega)]
theorem cr_m {μ : dtM} (C : CX μ) {x v : Int32} (h1 : inR x 4 = true) (hv : opLI 1 μ 137 x = some v) : f_X12_copyRooms 133 x μ = if v = (-1 : Int32) then some (-Int32.ofNat 1, dtSI μ 133 2 (Int32.ofNat 2)) else (opLI 1 μ 134 (3 : Int32)).bind fun x20 => if x20 ≤ v then (f_X12_copyRooms_52 dtFuel 133 x (0 : Int32) μ) else some (-Int32.ofNat 1, dtSI μ 133 2 (Int32.ofNat 3)) := by
  rw [f_X12_copyRooms, f_isTrayM, h1, o_call, if_neg (by decide), C.g133_6, o_bind, hv, o_bind, o_bind, hv, o_bind, C.v133, o_bind, show (2 : Int32) = Int32.ofNat 2 from rfl, n_refuse C, o_call, C.g133_0, o_bind, o_bind, show (3 : Int32) = Int32.ofNat 3 from rfl, n_refuse C, o_call]
theorem cs50 {μ : dtM} {w : aW} {f : aF} {A : aH} {z : aZ} (HP : RP μ w f A z) (HM : RM μ f A z) (W : dWF A (zD z)) (x : Int32) : both (f_X11_copyRooms 0 x) (f_X12_copyRooms 133 x) μ := by
  have C := HP.c
  have HH := HP.ph
  have g5 := HP.g5
  have hnr := HH.nr
  have hnd := HH.nd
  have hnw := HH.nw
  have hnp := HH.np
  have T := HP.pt
  have h3 := rSt_le (T := zT z) (x := x) (n := hs A 3)
  have pr := p_run HP x (n := hs A 3) (by omega)
  have ep : ∀ s, rSt (zT z) x (hs A 3) = s → 0 < s → s ≤ 3 → f_X11_copyRooms 0 x μ = some (-Int32.ofNat 1, dtSI μ 0 0 (Int32.ofNat s)) := fun s e h0 h1 => by
    have ne : ¬ Int32.ofNat s = 0 := by
      rw [show (0 : Int32) = Int32.ofNat 0 from rfl, z_eq (by omega) (by omega)]; omega
    rw [f_X11_copyRooms, g5, o_bind, HH.g3, o_bind, C.v0, o_bind, pr, e, o_call, if_neg ne, C.v0, o_bind, p_fail C, o_call]
  cases h1 : inR x 4
  · have r1 : rSt (zT z) x (hs A 3) = 1 := if_pos h1
    refine both.no HP HM W (-Int32.ofNat 1) (Int32.ofNat 1) (ep 1 r1 (by decide) (by decide)) (fun μ1 R1 => ?_)
    have C1 := R1.c
    rw [f_X12_copyRooms, f_isTrayM, h1, o_call, if_pos (by decide), C1.v133, o_bind, show (1 : Int32) = Int32.ofNat 1 from rfl, n_refuse C1, o_call]
  · obtain ⟨i, hi, rfl⟩ := inR_t (by decide) h1
    have h61 := (T i hi).1.2
    by_cases h4 : taN (zT z) i = 0
    · have r1 : rSt (zT z) (Int32.ofNat i) (hs A 3) = 2 := by
        unfold rSt; rw [if_neg (by rw [h1]; decide), z_cl (by omega), if_pos h4]
      refine both.no HP HM W (-Int32.ofNat 1) (Int32.ofNat 2) (ep 2 r1 (by decide) (by decide)) (fun μ1 R1 => ?_)
      rw [cr_m R1.c h1 (R1.mt.no R1.c hi h4), if_pos (by decide)]
    · have ne : ¬ Int32.ofNat (taN (zT z) i - 1) = (-1 : Int32) := by
        rw [show (-1 : Int32) = -Int32.ofNat 1 from rfl, z_neg (show taN (zT z) i - 1 < 2147483648 by omega)]; exact id
      have le := z_le (show hs A 3 < 2147483648 by omega) (show taN (zT z) i - 1 < 2147483648 by omega)
      have em : ∀ μ1, RM μ1 f A z → f_X12_copyRooms 133 (Int32.ofNat i) μ1 = if Int32.ofNat (hs A 3) ≤ Int32.ofNat (taN (zT z) i - 1) then (f_X12_copyRooms_52 dtFuel 133 (Int32.ofNat i) (0 : Int32) μ1) else some (-Int32.ofNat 1, dtSI μ1 133 2 (Int32.ofNat 3)) := fun μ1 R1 => by
        have m3 : opLI 1 μ1 134 (3 : Int32) = some (Int32.ofNat (hs A 3)) := R1.mh.gj (j := 3) (by decide)
        rw [cr_m R1.c h1 (R1.mt.ma R1.c hi (show 0 < taN (zT z) i by omega)), if_neg ne, m3, o_bind]
      by_cases h5 : hs A 3 < taN (zT z) i
      · have r1 : rSt (zT z) (Int32.ofNat i) (hs A 3) = 0 := by
          unfold rSt; rw [if_neg (by rw [h1]; decide), z_cl (by omega), if_neg h4, if_pos h5]
        refine both.tra HP HM W (Int32.ofNat (hs A 3)) (Int32.ofNat 0) (fo (crT A i) (hs A 3) 0 (zT z)) ?_ (fun μ1 R1 => ?_)
        · obtain ⟨μ2, e2, F2, T2⟩ := cr25 hi (hs A 3) dtFuel 0 z μ f (by omega) (dtFuel_gt (by omega)) HP h5
          refine ⟨μ2, ?_, F2, T2⟩
          rw [f_X11_copyRooms, g5, o_bind, HH.g3, o_bind, C.v0, o_bind, pr, r1, o_call, if_pos (by decide)]
          exact e2
        · obtain ⟨μ2, e2, F2, T2⟩ := cr52 hi (hs A 3) dtFuel 0 z μ1 f W (by omega) (dtFuel_gt (by omega)) R1 h5
          refine ⟨μ2, ?_, F2, T2⟩
          rw [em μ1 R1, if_pos (by rw [le]; omega)]
          exact e2
      · have r1 : rSt (zT z) (Int32.ofNat i) (hs A 3) = 3 := by
          unfold rSt; rw [if_neg (by rw [h1]; decide), z_cl (by omega), if_neg h4, if_neg h5]
        refine both.no HP HM W (-Int32.ofNat 1) (Int32.ofNat 3) (ep 3 r1 (by decide) (by decide)) (fun μ1 R1 => ?_)
        rw [em μ1 R1, if_neg (by rw [le]; omega)]
