/-! PURE 99: a person told, the program's text -/
theorem p_pend {μ : dtM} {h n e rm df kn : Nat} {l : List Nat} {B : Nat → Int32} {A : aH} {wn : Nat → List Nat} (S : PHN μ h A wn) (H : PTk μ 115 n B e) (h5 : hs A 3 < 5) (ok : nOk l) (hr : rm < hs A 0) (hd : df ≤ 9) (hk : kn < 2 ^ hs A 2) : ∃ μ', ((opRv 3 μ h).bind fun _ => (f_X3_addPerson h (n32 l) (Int32.ofNat rm) μ).bind fun μ55 => (opGR 3 15 μ55 h).bind fun x57 => (opGI 3 3 μ55 h).bind fun x59 => (opSI μ55 x57 (x59 - (1 : Int32)) (Int32.ofNat df)).bind fun μ61 => (opGR 3 16 μ61 h).bind fun x63 => (opGI 3 3 μ61 h).bind fun x65 => (opSI μ61 x63 (x65 - (1 : Int32)) (Int32.ofNat kn)).bind fun μ67 => (opGR 4 0 μ67 114).bind fun x69 => (opRv 8 μ67 x69).bind fun _ => opCall (f_X8_passSign x69 (59 : Int32) μ67) fun x74 μ72 => opRet x74 μ72) = some (bI (xOk (xEnd (tx B) n (.ok ((hPe A l rm df kn, wn), e)))), μ') ∧ Fr (PDr h) μ μ' ∧ PRh μ' n B h (xEnd (tx B) n (.ok ((hPe A l rm df kn, wn), e))) := by
  have hh := S.2.2.1
  obtain ⟨μ1, e1, F1, S1⟩ := p_addPerson S h5 ok hr
  have H1 := S1.2.1
  have L := S1.last h5 hd hk
  have Fa : Fr (fun k j => (k = h + 9 ∨ k = h + 10) ∧ j = hs A 3) μ1 (dtSI μ1 (h + 9) (hs A 3) (Int32.ofNat df)) := Fr.SI ⟨Or.inl rfl, rfl⟩
  have Fb : Fr (fun k j => (k = h + 9 ∨ k = h + 10) ∧ j = hs A 3) μ1 (dtSI (dtSI μ1 (h + 9) (hs A 3) (Int32.ofNat df)) (h + 10) (hs A 3) (Int32.ofNat kn)) := Fa.tr (Fr.SI ⟨Or.inr rfl, rfl⟩)
  have T1 : PTk μ1 115 n B e := H.kept F1 (fun j x => by
    have y : (115 = h ∧ j = 3) ∨ ((115 = h + 2 ∨ 115 = h + 8 ∨ 115 = h + 9 ∨ 115 = h + 10 ∨ 115 = h + 11) ∧ j = hs A 3) := x
    omega) (fun j x => by
    have y : (11 = h ∧ j = 3) ∨ ((11 = h + 2 ∨ 11 = h + 8 ∨ 11 = h + 9 ∨ 11 = h + 10 ∨ 11 = h + 11) ∧ j = hs A 3) := x
    omega)
  have T2 := T1.kept Fb (fun j x => by omega) (fun j x => by omega)
  obtain ⟨μ4, e4, F4, R4⟩ := p_end L T2
  have g1 : opGI 3 3 μ1 h = some (Int32.ofNat (hs A 3 + 1)) := by rw [H1.g3, hPe_3]
  have g2 : opGI 3 3 (dtSI μ1 (h + 9) (hs A 3) (Int32.ofNat df)) h = some (Int32.ofNat (hs A 3 + 1)) := by
    rw [o_GI (by rw [Fa.S]; exact H1.s0), m_I_SI, if_neg (by omega), H1.2.1.1 3 (by decide), hPe_3]
  have r16 : opGR 3 16 (dtSI μ1 (h + 9) (hs A 3) (Int32.ofNat df)) h = some (h + 10) := o_GR (by rw [Fa.S]; exact H1.s0) (by rw [Fa.Ra]; exact H1.1.2.2.2.2.2.2.2.2.2.2.2.2.2.2.1)
  refine ⟨μ4, ?_, (F1.wide (fun k j x => Or.inr (Or.inl (by
    have y : (k = h ∧ j = 3) ∨ ((k = h + 2 ∨ k = h + 8 ∨ k = h + 9 ∨ k = h + 10 ∨ k = h + 11) ∧ j = hs A 3) := x
    omega)))).tr ((Fb.wide (fun k j x => Or.inr (Or.inl (by omega)))).tr (F4.wide (fun _ _ x => Or.inl x))), R4⟩
  rw [S.2.1.rv, o_bind, e1, o_bind, H1.r15, o_bind, g1, o_bind, show (1 : Int32) = Int32.ofNat 1 from rfl, z_sub (by omega), show hs A 3 + 1 - 1 = hs A 3 by omega, o_SI H1.s9 h5 (by decide), o_bind, r16, o_bind, g2, o_bind, z_sub (by omega), show hs A 3 + 1 - 1 = hs A 3 by omega, o_SI (by rw [Fa.S]; exact H1.s10) h5 (by decide), o_bind, L.1.g114_0, o_bind, T2.1.v, o_bind, e4, o_call, o_bI]
theorem p_person {μ : dtM} {h n e : Nat} {B : Nat → Int32} {A : aH} {wn : Nat → List Nat} (S : PHN μ h A wn) (H : PTk μ 115 n B e) : ∃ μ', f_X4_readPerson 114 h μ = some (bI (xOk (xEnd (tx B) n (xPers (tx B) n A wn e))), μ') ∧ Fr (PDr h) μ μ' ∧ PRh μ' n B h (xEnd (tx B) n (xPers (tx B) n A wn e)) := by
  have C := S.1
  have HH := S.2.1
  have np := HH.np
  have nr := HH.nr
  have nw := HH.nw
  unfold xPers xNw
  by_cases q : hs A 3 = 5
  · obtain ⟨μ1, e1, F1, H1⟩ := p_flaw (w := 6) H
    rw [if_pos q, xB_e]
    refine ⟨μ1, ?_, F1.wide (fun _ _ x => Or.inl x), H1⟩
    rw [f_X4_readPerson, HH.g3, o_bind, if_neg (show ¬ Int32.ofNat (hs A 3) < (5 : Int32) by rw [show (5 : Int32) = Int32.ofNat 5 from rfl, z_lt (by omega) (by decide)]; omega), C.g114_0, o_bind, H.1.v, o_bind, show (6 : Int32) = Int32.ofNat 6 from rfl, e1, o_call, o_bI]; rfl
  · rw [if_neg q]
    have h5 : hs A 3 < 5 := by omega
    obtain ⟨μ1, e1, F1, H1⟩ := H.adv
    have S1 := S.k (F1.wide (fun _ _ x => Ptk.c x))
    obtain ⟨μ2, v, e2, F2, R2⟩ := p_newName S1 H1
    have S2 := S1.k F2
    have F02 : Fr (PDr h) μ μ2 := (F1.wide (fun _ _ x => Or.inl (Ptk.c x))).tr (F2.wide (fun _ _ x => Or.inl x))
    have e49 : ∀ μ, f_X4_readPerson_49 μ = some (bI false, μ) := fun μ => by rw [f_X4_readPerson_49, show (0 : Int32) = Int32.ofNat 0 from rfl, o_ret0']
    have st : f_X4_readPerson 114 h μ = if (lg_cmp v (0 : Int64)) = 0 then (f_X4_readPerson_49 μ2) else ((opGR 4 0 μ2 114).bind fun x18 => (opRv 8 μ2 x18).bind fun _ => opCall (f_X8_passKeyword x18 (12 : Int32) μ2) fun x23 μ21 => if x23 = 0 then (f_X4_readPerson_49 μ21) else ((opGR 4 0 μ21 114).bind fun x27 => (opGR 3 7 μ21 h).bind fun x29 => (opGI 3 0 μ21 h).bind fun x31 => (opRv 8 μ21 x27).bind fun _ => opCall (f_X8_passAmong x27 x29 x31 μ21) fun x36 μ34 => if x36 = (-1 : Int32) then (opRet (0 : Int32) μ34) else ((opRv 4 μ34 114).bind fun _ => opCall (f_X4_readChoice 114 (13 : Int32) (9 : Int32) μ34) fun x43 μ41 => if x43 = (-1 : Int32) then (opRet (0 : Int32) μ41) else ((opRv 4 μ41 114).bind fun _ => opCall (f_X4_readKnown 114 h μ41) fun x50 μ48 => if x50 = (-1 : Int32) then (opRet (0 : Int32) μ48) else ((opRv 3 μ48 h).bind fun _ => (f_X3_addPerson h v x36 μ48).bind fun μ55 => (opGR 3 15 μ55 h).bind fun x57 => (opGI 3 3 μ55 h).bind fun x59 => (opSI μ55 x57 (x59 - (1 : Int32)) x43).bind fun μ61 => (opGR 3 16 μ61 h).bind fun x63 => (opGI 3 3 μ61 h).bind fun x65 => (opSI μ61 x63 (x65 - (1 : Int32)) x50).bind fun μ67 => (opGR 4 0 μ67 114).bind fun x69 => (opRv 8 μ67 x69).bind fun _ => opCall (f_X8_passSign x69 (59 : Int32) μ67) fun x74 μ72 => opRet x74 μ72))))) := by
      rw [f_X4_readPerson, HH.g3, o_bind, if_pos (show Int32.ofNat (hs A 3) < (5 : Int32) by rw [show (5 : Int32) = Int32.ofNat 5 from rfl, z_lt (by omega) (by decide)]; exact h5), C.g114_0, o_bind, H.1.v, o_bind, e1, o_bind, o_Rv S1.1.s114, o_bind, e2, o_call]
    rw [st]
    cases r : xNew (tx B) n A wn (lxE (tx B) n e) with
    | error x =>
      rw [r] at R2
      obtain ⟨r1, r2⟩ := R2
      rw [xB_e]
      refine ⟨μ2, ?_, F02, r2⟩
      rw [r1, if_pos (Eq.mpr (lg0 _) rfl), e49]; rfl
    | ok y =>
      rw [r] at R2
      obtain ⟨r1, ok, l1, H2⟩ := R2
      obtain ⟨μ3, e3, F3, R3⟩ := H2.passKey (k := 12) (by decide)
      have S3 := S2.k F3
      have F03 : Fr (PDr h) μ μ3 := F02.tr (F3.wide (fun _ _ x => Or.inl x))
      rw [xB_o, r1, if_neg (fun x => n32_0 ok l1 (Eq.mp (lg0 _) x)), S2.1.g114_0, o_bind, H2.1.v, o_bind, show (12 : Int32) = Int32.ofNat 12 from rfl, e3, o_call]
      cases r : xKey (tx B) n 12 y.2 with
      | error x =>
        rw [r] at R3
        rw [xS1_e]
        refine ⟨μ3, ?_, F03, R3⟩
        rw [if_pos (show bI (xOk (Except.error x : aX Nat)) = 0 from (by decide : bI false = 0)), e49]; rfl
      | ok e2' =>
        rw [r] at R3
        have H3 : PTk μ3 115 n B e2' := R3
        obtain ⟨μ4, v4, e4, F4, R4⟩ := H3.passAmong (nc := h + 1) (many := hs A 0) (N := hrn A) S3.2.1.s1 ⟨nr, by decide⟩ (fun k hk => ⟨S3.2.1.2.1.2.2.2.1 k hk, S3.2.1.2.2.2.2.2.2.1 k hk⟩)
        have S4 := S3.k F4
        have F04 : Fr (PDr h) μ μ4 := F03.tr (F4.wide (fun _ _ x => Or.inl x))
        rw [xS1_o, if_neg (show ¬ bI (xOk (Except.ok e2' : aX Nat)) = 0 from (by decide : ¬ bI true = 0)), S3.1.g114_0, o_bind, S3.2.1.r7, o_bind, S3.2.1.g0, o_bind, H3.1.v, o_bind, e4, o_call]
        cases r : xOld (tx B) n (hrn A) (hs A 0) e2' with
        | error x =>
          rw [r] at R4
          obtain ⟨r1, r2⟩ := R4
          rw [xB_e]
          refine ⟨μ4, ?_, F04, r2⟩
          rw [r1, if_pos (show -Int32.ofNat 1 = (-1 : Int32) from rfl), show (0 : Int32) = Int32.ofNat 0 from rfl, o_ret0']; rfl
        | ok z =>
          have zr := xOld_lt r
          rw [r] at R4
          obtain ⟨r4, H4⟩ := R4
          obtain ⟨μ5, v5, e5, F5, R5⟩ := p_cho (k := 13) (hi := 9) S4 H4 (by decide) (by decide)
          have S5 := S4.k F5
          have F05 : Fr (PDr h) μ μ5 := F04.tr (F5.wide (fun _ _ x => Or.inl x))
          rw [xB_o, r4, if_neg (nm1 (by omega)), o_Rv S4.1.s114, o_bind, show (13 : Int32) = Int32.ofNat 13 from rfl, show (9 : Int32) = Int32.ofNat 9 from rfl, e5, o_call]
          cases r : xCho (tx B) n 13 9 z.2 with
          | error x =>
            rw [r] at R5
            obtain ⟨r1, r2⟩ := R5
            rw [xB_e]
            refine ⟨μ5, ?_, F05, r2⟩
            rw [r1, if_pos (show -Int32.ofNat 1 = (-1 : Int32) from rfl), show (0 : Int32) = Int32.ofNat 0 from rfl, o_ret0']; rfl
          | ok c =>
            have cz := xCho_le r
            rw [r] at R5
            obtain ⟨r5, H5⟩ := R5
            obtain ⟨μ6, v6, e6, F6, R6⟩ := p_known S5 H5
            have S6 := S5.k F6
            have F06 : Fr (PDr h) μ μ6 := F05.tr (F6.wide (fun _ _ x => Or.inl x))
            rw [xB_o, r5, if_neg (nm1 (by omega)), o_Rv S5.1.s114, o_bind, e6, o_call]
            cases r : xKn (tx B) n wn (hs A 2) c.2 with
            | error x =>
              rw [r] at R6
              obtain ⟨r1, r2⟩ := R6
              rw [xB_e]
              refine ⟨μ6, ?_, F06, r2⟩
              rw [r1, if_pos (show -Int32.ofNat 1 = (-1 : Int32) from rfl), show (0 : Int32) = Int32.ofNat 0 from rfl, o_ret0']; rfl
            | ok w =>
              have wk := xKn_lt r
              have w128 := p7 wk nw
              rw [r] at R6
              obtain ⟨r6, H6⟩ := R6
              obtain ⟨μ7, e7, F7, R7⟩ := p_pend S6 H6 h5 ok zr cz wk
              rw [xB_o, r6, if_neg (nm1 (by omega))]
              exact ⟨μ7, e7, F06.tr F7, R7⟩
