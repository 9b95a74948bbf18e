/-! PURE 99992: the days' text, a row, the model -/
theorem lxM_t {u : Nat → Nat} {n e k m : Nat} (h : lxK u n e = some k) (hm : kwM.getD k 99 = m) : oN (lxM u n e) = Int32.ofNat m := by
  unfold lxM
  rw [h, ← hm]; rfl
theorem n_test {μ : dtM} {n e R : Nat} {B : Nat → Int32} {A : aH} (H : MTk μ n B e) (h0 : M0f μ) (HA : MH μ 0 0 A) (hR : 2016 ≤ R ∧ R + 6 ≤ 2656) : ∃ μ', f_X12_test 133 (Int32.ofNat R) μ = some (bI (xOk (xTst (tx B) n A e)), μ') ∧ Fr (Mrw R) μ μ' ∧ MRr μ' n B R 19 (xTst (tx B) n A e) := by
  have C := H.1.1
  have Wd := H.words
  have c12 : (oN (lxM (tx B) n e) = (12 : Int32)) = (lxK (tx B) n e = some 12) := lxM_k (k := 12) (by decide)
  have c4 : (oN (lxM (tx B) n e) = (6 : Int32)) = (lxK (tx B) n e = some 4) := lxM_k (k := 4) (by decide)
  have c20 : (oN (lxM (tx B) n e) = (23 : Int32)) = (lxK (tx B) n e = some 20) := lxM_k (k := 20) (by decide)
  have st : f_X12_test 133 (Int32.ofNat R) μ = if oN (lxM (tx B) n e) = (12 : Int32) then (f_X12_test_31 133 (Int32.ofNat R) (oN (lxM (tx B) n e)) μ) else (if oN (lxM (tx B) n e) = (6 : Int32) then (f_X12_test_31 133 (Int32.ofNat R) (oN (lxM (tx B) n e)) μ) else (if oN (lxM (tx B) n e) = (23 : Int32) then (f_X12_test_31 133 (Int32.ofNat R) (oN (lxM (tx B) n e)) μ) else (opCall (f_X12_fails 133 (2 : Int32) μ) fun x17 μ15 => opRet x17 μ15))) := by
    rw [f_X12_test, C.v133, o_bind, Wd, o_call, C.v133, o_bind]
  have base : ∀ m, m < 100 → ∃ μ1, ((opGR 12 0 μ 133).bind fun x1 => (opSI μ x1 (Int32.ofNat R) ((1900 : Int32) + Int32.ofNat m)).bind fun μ3 => (opRv 12 μ3 133).bind fun _ => (f_X12_ahead 133 μ3)) = some μ1 ∧ Fr (Mat R) μ μ1 ∧ dtI μ1 134 R = Int32.ofNat (1900 + m) ∧ MTk μ1 n B (lxE (tx B) n e) ∧ M0f μ1 := fun m hm => by
    have H1 : MTk (dtSI μ 134 R (Int32.ofNat (1900 + m))) n B e := H.at4
    have C1 : CX (dtSI μ 134 R (Int32.ofNat (1900 + m))) := C.SI
    obtain ⟨μ2, e2, F2, H2⟩ := H1.adv
    refine ⟨μ2, ?_, (Fr.SI (Or.inr ⟨rfl, rfl⟩)).tr (F2.wide (fun _ _ x => Mtk.a x)), ?_, H2, (h0.at4).tk F2⟩
    · rw [C.g133_0, o_bind, show (1900 : Int32) = Int32.ofNat 1900 from rfl, z_add, o_SI C.s134 (show R < 2656 by omega) (by decide), o_bind, C1.v133, o_bind, e2]
    · rw [F2.i (fun x => by
        have y : 134 = 133 ∧ _ := x
        omega), m_I_SI, if_pos ⟨rfl, rfl⟩]
  have t31 : ∀ m μ1, ((opGR 12 0 μ 133).bind fun x1 => (opSI μ x1 (Int32.ofNat R) ((1900 : Int32) + Int32.ofNat m)).bind fun μ3 => (opRv 12 μ3 133).bind fun _ => (f_X12_ahead 133 μ3)) = some μ1 → CX μ1 → f_X12_test_31 133 (Int32.ofNat R) (Int32.ofNat m) μ = if Int32.ofNat m = (6 : Int32) then (opCall (f_X12_doorTo 133 (Int32.ofNat (R + 1)) μ1) fun x57 μ55 => opRet x57 μ55) else (opCall (f_X12_personTo 133 (Int32.ofNat (R + 1)) μ1) fun x14 μ12 => if x14 = 0 then (opRet (0 : Int32) μ12) else (if Int32.ofNat m = (12 : Int32) then ((opGR 12 0 μ12 133).bind fun x46 => (opLI 1 μ12 x46 (0 : Int32)).bind fun x48 => (opRv 12 μ12 133).bind fun _ => opCall (f_X12_oldOne 133 (0 : Int32) x48 (Int32.ofNat R + (2 : Int32)) μ12) fun x53 μ51 => opRet x53 μ51) else ((opRv 12 μ12 133).bind fun _ => opCall (f_X12_isSign 133 (60 : Int32) μ12) fun x24 μ22 => if x24 = 0 then ((opRv 12 μ22 133).bind fun _ => opCall (f_X12_isSign 133 (62 : Int32) μ22) fun x31 μ29 => if x31 = 0 then ((opRv 12 μ29 133).bind fun _ => opCall (f_X12_isSign 133 (61 : Int32) μ29) fun x38 μ36 => if x38 = 0 then ((opRv 12 μ36 133).bind fun _ => opCall (f_X12_fails 133 (2 : Int32) μ36) fun x45 μ43 => opRet x45 μ43) else (f_X12_test_126 133 (Int32.ofNat R) μ36)) else (f_X12_test_126 133 (Int32.ofNat R) μ29)) else (f_X12_test_126 133 (Int32.ofNat R) μ22)))) := fun m μ1 h1 C1 => by
    have C0 : CX (dtSI μ 134 R ((1900 : Int32) + Int32.ofNat m)) := C.SI
    rw [C.g133_0, o_bind, o_SI C.s134 (show R < 2656 by omega) (by decide), o_bind, C0.v133, o_bind] at h1
    rw [f_X12_test_31, C.g133_0, o_bind, o_SI C.s134 (show R < 2656 by omega) (by decide), o_bind, C0.v133, o_bind, h1, o_bind, C1.v133, o_bind, o_bind, show (1 : Int32) = Int32.ofNat 1 from rfl, z_add]
  rw [st]
  unfold xTst
  by_cases q12 : lxK (tx B) n e = some 12
  · rw [if_pos (Eq.mpr c12 q12), if_pos q12, lxM_t (m := 12) q12 rfl]
    obtain ⟨μ1, e1, F1, w1, H1, h1⟩ := base 12 (by decide)
    have C1 := C.kept F1
    have HA1 := HA.kM (F1.wide (fun _ _ x => x.m (by omega)))
    have FF1 : Fr (Mrw R) μ μ1 := F1.wide (fun _ _ x => Mat.r (R := R) (d := 0) (by decide) x)
    rw [t31 12 μ1 e1 C1, if_neg (by decide)]
    obtain ⟨μ2, e2, F2, R2⟩ := n_personTo (t := R + 1) H1 h1 HA1 (by omega)
    have C2 := C1.kept F2
    have HA2 := HA1.kM (F2.wide (fun _ _ x => x.m (by omega)))
    have FF2 : Fr (Mrw R) μ μ2 := FF1.tr (F2.wide (fun _ _ x => Mat.r (by decide) x))
    cases r : xOld (tx B) n (hpn A) (hs A 3) (lxE (tx B) n e) with
    | error x =>
      rw [r] at e2 R2
      rw [xB_e]
      refine ⟨μ2, ?_, FF2, R2⟩
      rw [e2, o_call, if_pos bI_f, show (0 : Int32) = Int32.ofNat 0 from rfl, o_ret0']; rfl
    | ok p =>
      rw [r] at e2 R2
      obtain ⟨w2, H2, h2⟩ := R2
      rw [xB_o]
      obtain ⟨μ3, e3, F3, R3⟩ := n_roomD (t := R + 2) H2 h2 HA2 (by omega)
      have FF3 : Fr (Mrw R) μ μ3 := FF2.tr (F3.wide (fun _ _ x => Mat.r (by decide) x))
      have g0 : opLI 1 μ2 134 (0 : Int32) = some (Int32.ofNat (hs A 0)) := HA2.g0
      cases r3 : xOld (tx B) n (hrn A) (hs A 0) p.2 with
      | error x =>
        rw [r3] at e3 R3
        rw [xB_e]
        refine ⟨μ3, ?_, FF3, R3⟩
        rw [e2, o_call, if_neg bI_t, if_pos (by decide), C2.g133_0, o_bind, g0, o_bind, C2.v133, o_bind, show (2 : Int32) = Int32.ofNat 2 from rfl, z_add, e3, o_call, o_bI]; rfl
      | ok y =>
        rw [r3] at e3 R3
        obtain ⟨w3, H3, h3⟩ := R3
        rw [xB_o]
        refine ⟨μ3, ?_, FF3, ⟨?_, fun _ => ?_, fun _ => w3, fun x => ?_, fun x => absurd x (show ¬ 19 = 15 by decide), fun x => absurd x.2 (show ¬ 12 = 20 by decide)⟩, H3, h3⟩
        · rw [e2, o_call, if_neg bI_t, if_pos (by decide), C2.g133_0, o_bind, g0, o_bind, C2.v133, o_bind, show (2 : Int32) = Int32.ofNat 2 from rfl, z_add, e3, o_call, o_bI]; rfl
        · rw [F3.i (fun x => by have := x.n (by decide); omega), F2.i (fun x => by have := x.n (by decide); omega)]; exact w1
        · rw [F3.i (fun x => by have := x.n (by decide); omega)]; exact w2
        · exact x.elim (fun z => absurd z (show ¬ 19 = 21 by decide)) (fun z => absurd z.2 (show ¬ 12 = 4 by decide))
  · rw [if_neg (fun x => q12 (Eq.mp c12 x)), if_neg q12]
    by_cases q4 : lxK (tx B) n e = some 4
    · rw [if_pos (Eq.mpr c4 q4), if_pos q4, lxM_t (m := 6) q4 rfl]
      obtain ⟨μ1, e1, F1, w1, H1, h1⟩ := base 6 (by decide)
      have C1 := C.kept F1
      have HA1 := HA.kM (F1.wide (fun _ _ x => x.m (by omega)))
      have FF1 : Fr (Mrw R) μ μ1 := F1.wide (fun _ _ x => Mat.r (R := R) (d := 0) (by decide) x)
      rw [t31 6 μ1 e1 C1, if_pos (by decide)]
      obtain ⟨μ2, e2, F2, R2⟩ := n_doorTo (t := R + 1) H1 h1 HA1 (by omega)
      have FF2 : Fr (Mrw R) μ μ2 := FF1.tr (F2.wide (fun _ _ x => Mat.r (by decide) x))
      rw [e2, o_call, o_bI]
      cases r : xDr (tx B) n (hs A 1) (lxE (tx B) n e) with
      | error x =>
        rw [r] at R2
        rw [xB_e]
        exact ⟨μ2, rfl, FF2, R2⟩
      | ok d =>
        rw [r] at R2
        obtain ⟨w2, H2, h2⟩ := R2
        rw [xB_o]
        refine ⟨μ2, rfl, FF2, ⟨?_, fun x => ?_, fun x => ?_, fun _ => w2, fun x => absurd x (show ¬ 19 = 15 by decide), fun x => absurd x.2 (show ¬ 4 = 20 by decide)⟩, H2, h2⟩
        · rw [F2.i (fun x => by have := x.n (by decide); omega)]; exact w1
        · exfalso
          unfold rWho at x
          rw [rw0, rw4] at x
          rcases x with x | x | x | x | x
          · omega
          · omega
          · omega
          · omega
          · exact x.2 rfl
        · exfalso
          unfold rTwo at x
          rw [rw0, rw4] at x
          rcases x with x | x | x | x
          · omega
          · omega
          · omega
          · exact x.2 rfl
    · rw [if_neg (fun x => q4 (Eq.mp c4 x)), if_neg q4]
      by_cases q20 : lxK (tx B) n e = some 20
      · rw [if_pos (Eq.mpr c20 q20), if_pos q20, lxM_t (m := 23) q20 rfl]
        obtain ⟨μ1, e1, F1, w1, H1, h1⟩ := base 23 (by decide)
        have C1 := C.kept F1
        have HA1 := HA.kM (F1.wide (fun _ _ x => x.m (by omega)))
        have FF1 : Fr (Mrw R) μ μ1 := F1.wide (fun _ _ x => Mat.r (R := R) (d := 0) (by decide) x)
        rw [t31 23 μ1 e1 C1, if_neg (by decide)]
        obtain ⟨μ2, e2, F2, R2⟩ := n_personTo (t := R + 1) H1 h1 HA1 (by omega)
        have C2 := C1.kept F2
        have FF2 : Fr (Mrw R) μ μ2 := FF1.tr (F2.wide (fun _ _ x => Mat.r (by decide) x))
        cases r : xOld (tx B) n (hpn A) (hs A 3) (lxE (tx B) n e) with
        | error x =>
          rw [r] at e2 R2
          rw [xB_e]
          refine ⟨μ2, ?_, FF2, R2⟩
          rw [e2, o_call, if_pos bI_f, show (0 : Int32) = Int32.ofNat 0 from rfl, o_ret0']; rfl
        | ok p =>
          rw [r] at e2 R2
          obtain ⟨w2, H2, h2⟩ := R2
          rw [xB_o, e2, o_call, if_neg bI_t, if_neg (by decide), C2.v133, o_bind]
          have s60 := H2.isSign (s := 60) (by decide)
          have s62 := H2.isSign (s := 62) (by decide)
          have s61 := H2.isSign (s := 61) (by decide)
          have fin : ∀ c, lxT (tx B) n p.2 = 3 ∧ tx B (lxF (tx B) n p.2) = cmpM c → ∃ μ', f_X12_test_126 133 (Int32.ofNat R) μ2 = some (bI (xOk (xB (xNum (tx B) n 0 8 (lxE (tx B) n p.2)) (fun v e3 => (.ok ((p.1, v, c, 20), e3) : aX (aRw × Nat))))), μ') ∧ Fr (Mrw R) μ μ' ∧ MRr μ' n B R 19 (xB (xNum (tx B) n 0 8 (lxE (tx B) n p.2)) (fun v e3 => (.ok ((p.1, v, c, 20), e3) : aX (aRw × Nat)))) := fun c hc => by
            obtain ⟨μ3, e3, F3, w3, R3⟩ := n_126 (R := R) H2 h2 (by omega) hc
            have FF3 : Fr (Mrw R) μ μ3 := FF2.tr (F3.wide (fun k j x => x.elim Or.inl (fun y => Or.inr ⟨y.1, by omega, by omega⟩)))
            have n3 : ∀ j, ¬ j = R + 2 → ¬ j = R + 5 → dtI μ3 134 j = dtI μ2 134 j := fun j a b => F3.i (fun x => by
              rcases x with x | x
              · have := x.1; omega
              · omega)
            rw [e3]
            cases r4 : xNum (tx B) n 0 8 (lxE (tx B) n p.2) with
            | error x =>
              rw [r4] at R3
              rw [xB_e]
              exact ⟨μ3, rfl, FF3, R3⟩
            | ok v =>
              rw [r4] at R3
              obtain ⟨w4, H4, h4⟩ := R3
              rw [xB_o]
              refine ⟨μ3, rfl, FF3, ⟨?_, fun _ => ?_, fun _ => w4, fun x => ?_, fun x => absurd x (show ¬ 19 = 15 by decide), fun _ => w3⟩, H4, h4⟩
              · rw [n3 _ (by omega) (by omega), F2.i (fun x => by have := x.n (by decide); omega)]; exact w1
              · rw [n3 _ (by omega) (by omega)]; exact w2
              · exact x.elim (fun z => absurd z (show ¬ 19 = 21 by decide)) (fun z => absurd z.2 (show ¬ 20 = 4 by decide))
          unfold xCmp
          by_cases q1 : lxT (tx B) n p.2 = 3 ∧ tx B (lxF (tx B) n p.2) = 60
          · rw [decide_eq_true q1] at s60
            rw [if_pos q1, xB_o, show (60 : Int32) = Int32.ofNat 60 from rfl, s60, o_call, if_neg (by decide)]
            exact fin 0 q1
          · rw [decide_eq_false q1] at s60
            rw [if_neg q1, show (60 : Int32) = Int32.ofNat 60 from rfl, s60, o_call, if_pos (by decide), C2.v133, o_bind]
            by_cases q2 : lxT (tx B) n p.2 = 3 ∧ tx B (lxF (tx B) n p.2) = 62
            · rw [decide_eq_true q2] at s62
              rw [if_pos q2, xB_o, show (62 : Int32) = Int32.ofNat 62 from rfl, s62, o_call, if_neg (by decide)]
              exact fin 1 q2
            · rw [decide_eq_false q2] at s62
              rw [if_neg q2, show (62 : Int32) = Int32.ofNat 62 from rfl, s62, o_call, if_pos (by decide), C2.v133, o_bind]
              by_cases q3 : lxT (tx B) n p.2 = 3 ∧ tx B (lxF (tx B) n p.2) = 61
              · rw [decide_eq_true q3] at s61
                rw [if_pos q3, xB_o, show (61 : Int32) = Int32.ofNat 61 from rfl, s61, o_call, if_neg (by decide)]
                exact fin 2 q3
              · rw [decide_eq_false q3] at s61
                obtain ⟨μ3, e3, F3, R3⟩ := n_fails (w := 2) H2 h2 (by decide)
                rw [if_neg q3, xB_e, show (61 : Int32) = Int32.ofNat 61 from rfl, s61, o_call, if_pos (by decide), C2.v133, o_bind]
                refine ⟨μ3, ?_, FF2.tr (F3.wide (fun _ _ x => Or.inl x)), R3⟩
                rw [show (2 : Int32) = Int32.ofNat 2 from rfl, e3, o_call, o_bI]; rfl
      · obtain ⟨μ3, e3, F3, R3⟩ := n_fails (w := 2) H h0 (by decide)
        rw [if_neg (fun x => q20 (Eq.mp c20 x)), if_neg q20]
        refine ⟨μ3, ?_, F3.wide (fun _ _ x => Or.inl x), R3⟩
        rw [show (2 : Int32) = Int32.ofNat 2 from rfl, e3, o_call, o_bI]; rfl
