/-! PURE 89: a door told, the texts -/
theorem z_m1 : ((-1 : Int32)) = -Int32.ofNat 1 := rfl
theorem nm1 {a : Nat} (h : a < 2147483648) : ¬ Int32.ofNat a = (-1 : Int32) := by
  rw [z_m1, z_neg h]; exact id
theorem p_140 {μ : dtM} {h n e a b z : Nat} {op : Bool} {B : Nat → Int32} {A : aH} {wn : Nat → List Nat} (S : PHN μ h A wn) (H : PTk μ 115 n B e) (h10 : hs A 1 < 10) (ha : a < hs A 0) (hb : b < hs A 0) (hab : ¬ a = b) (hz : z ≤ 9) : ∃ μ', f_X4_readDoor_140 114 h (Int32.ofNat a) (Int32.ofNat b) (Int32.ofNat z) (bI op) μ = some (bI (xOk (xEnd (tx B) n (.ok ((hDr A a b z op, wn), e)))), μ') ∧ Fr (PDr h) μ μ' ∧ PRh μ' n B h (xEnd (tx B) n (.ok ((hDr A a b z op, wn), e))) := by
  obtain ⟨μ1, e1, F1, S1⟩ := p_addDoor (op := op) S h10 ha hb hab hz
  have H1 : PTk μ1 115 n B e := H.kept F1 (fun j x => by
    have := S.2.2.1
    have y : (115 = h ∧ (j = 1 ∨ j = 5)) ∨ ((115 = h + 3 ∨ 115 = h + 4 ∨ 115 = h + 5) ∧ j = hs A 1) := x
    omega) (fun j x => by
    have := S.2.2.1
    have y : (11 = h ∧ (j = 1 ∨ j = 5)) ∨ ((11 = h + 3 ∨ 11 = h + 4 ∨ 11 = h + 5) ∧ j = hs A 1) := x
    omega)
  obtain ⟨μ2, e2, F2, R2⟩ := p_end S1 H1
  refine ⟨μ2, ?_, (F1.wide (fun k j x => Or.inr (Or.inl (by omega)))).tr (F2.wide (fun _ _ x => Or.inl x)), R2⟩
  rw [f_X4_readDoor_140, S.2.1.rv, o_bind, e1, o_bind, S1.1.g114_0, o_bind, H1.1.v, o_bind, e2, o_call, o_bI]
theorem p_door {μ : dtM} {h n e : Nat} {B : Nat → Int32} {A : aH} {wn : Nat → List Nat} (S : PHN μ h A wn) (H : PTk μ 115 n B e) : ∃ μ', f_X4_readDoor 114 h μ = some (bI (xOk (xEnd (tx B) n (xDoor (tx B) n A wn e))), μ') ∧ Fr (PDr h) μ μ' ∧ PRh μ' n B h (xEnd (tx B) n (xDoor (tx B) n A wn e)) := by
  have C := S.1
  have HH := S.2.1
  have nr := HH.nr
  have nd := HH.nd
  unfold xDoor
  by_cases q : hs A 1 = 10
  · obtain ⟨μ1, e1, F1, H1⟩ := p_flaw (w := 6) H
    rw [if_pos q]
    refine ⟨μ1, ?_, F1.wide (fun _ _ x => Or.inl x), H1⟩
    rw [f_X4_readDoor, HH.g1, o_bind, if_neg (show ¬ Int32.ofNat (hs A 1) < (10 : Int32) by rw [show (10 : Int32) = Int32.ofNat 10 from rfl, z_lt (by omega) (by decide)]; omega), C.g114_0, o_bind, H.1.v, o_bind, show (6 : Int32) = Int32.ofNat 6 from rfl, e1, o_call, o_bI]; rfl
  · rw [if_neg q]
    obtain ⟨μ1, e1, F1, H1⟩ := H.adv
    have S1 := S.k (F1.wide (fun _ _ x => Ptk.c x))
    obtain ⟨μ2, v, e2, F2, R2⟩ := H1.passAmong (nc := h + 1) (many := hs A 0) (N := hrn A) S1.2.1.s1 ⟨nr, by decide⟩ (fun k hk => ⟨S1.2.1.2.1.2.2.2.1 k hk, S1.2.1.2.2.2.2.2.2.1 k hk⟩)
    have S2 := S1.k F2
    have F02 : Fr (PDr h) μ μ2 := (F1.wide (fun _ _ x => Or.inl (Ptk.c x))).tr (F2.wide (fun _ _ x => Or.inl x))
    have st : f_X4_readDoor 114 h μ = if v = (-1 : Int32) then (opRet (0 : Int32) μ2) else ((opGR 4 0 μ2 114).bind fun x24 => (opGR 3 7 μ2 h).bind fun x26 => (opGI 3 0 μ2 h).bind fun x28 => (opRv 8 μ2 x24).bind fun _ => opCall (f_X8_findAmong x24 x26 x28 μ2) fun x33 μ31 => if x33 = (-1 : Int32) then (opRet (0 : Int32) μ31) else (if x33 = v then ((opGR 4 0 μ31 114).bind fun x59 => (opRv 8 μ31 x59).bind fun _ => opCall (f_X8_flaw x59 (5 : Int32) μ31) fun x64 μ62 => opRet x64 μ62) else ((opGR 4 0 μ31 114).bind fun x40 => (opRv 8 μ31 x40).bind fun _ => (f_X8_advance x40 μ31).bind fun μ43 => (opRv 4 μ43 114).bind fun _ => opCall (f_X4_readChoice 114 (3 : Int32) (9 : Int32) μ43) fun x48 μ46 => if x48 = (-1 : Int32) then (opRet (0 : Int32) μ46) else ((opGR 4 0 μ46 114).bind fun x52 => (opGI 8 6 μ46 x52).bind fun x54 => if x54 = (4 : Int32) then (f_X4_readDoor_126 114 h v x33 x48 (1 : Int32) μ46) else (f_X4_readDoor_126 114 h v x33 x48 (0 : Int32) μ46))))) := by
      rw [f_X4_readDoor, HH.g1, o_bind, if_pos (show Int32.ofNat (hs A 1) < (10 : Int32) by rw [show (10 : Int32) = Int32.ofNat 10 from rfl, z_lt (by omega) (by decide)]; omega), C.g114_0, o_bind, H.1.v, o_bind, e1, o_bind, S1.1.g114_0, o_bind, S1.2.1.r7, o_bind, S1.2.1.g0, o_bind, H1.1.v, o_bind, e2, o_call]
    rw [st]
    cases r : xOld (tx B) n (hrn A) (hs A 0) (lxE (tx B) n e) with
    | error x =>
      rw [r] at R2
      obtain ⟨r1, r2⟩ := R2
      rw [xB_e]
      refine ⟨μ2, ?_, F02, r2⟩
      rw [r1, if_pos (show -Int32.ofNat 1 = (-1 : Int32) from rfl), show (0 : Int32) = Int32.ofNat 0 from rfl, o_ret0']; rfl
    | ok y =>
      have ya := xOld_lt r
      rw [r] at R2
      obtain ⟨r1, H2⟩ := R2
      rw [xB_o, r1, if_neg (nm1 (by omega)), S2.1.g114_0, o_bind, S2.2.1.r7, o_bind, S2.2.1.g0, o_bind, H2.1.v, o_bind]
      obtain ⟨μ3, v3, e3, F3, R3⟩ := H2.findAmong (nc := h + 1) (many := hs A 0) (N := hrn A) S2.2.1.s1 ⟨nr, by decide⟩ (fun k hk => ⟨S2.2.1.2.1.2.2.2.1 k hk, S2.2.1.2.2.2.2.2.2.1 k hk⟩)
      have S3 := S2.k F3
      have F03 : Fr (PDr h) μ μ3 := F02.tr (F3.wide (fun _ _ x => Or.inl x))
      rw [e3, o_call]
      unfold xTwo
      cases s : xFind (tx B) n (hrn A) (hs A 0) y.2 with
      | error x =>
        rw [s] at R3
        obtain ⟨r1, r2⟩ := R3
        rw [xB_e, xB_e]
        refine ⟨μ3, ?_, F03, r2⟩
        rw [r1, if_pos (show -Int32.ofNat 1 = (-1 : Int32) from rfl), show (0 : Int32) = Int32.ofNat 0 from rfl, o_ret0']; rfl
      | ok w =>
        have wb := xFind_lt s
        rw [s] at R3
        obtain ⟨r1, H3⟩ := R3
        rw [xB_o, r1, if_neg (nm1 (by omega))]
        by_cases ab : w.1 = y.1
        · obtain ⟨μ4, e4, F4, R4⟩ := p_flaw (w := 5) H3
          rw [if_pos ab, xB_e]
          refine ⟨μ4, ?_, F03.tr (F4.wide (fun _ _ x => Or.inl x)), R4⟩
          rw [if_pos (by rw [ab]), S3.1.g114_0, o_bind, H3.1.v, o_bind, show (5 : Int32) = Int32.ofNat 5 from rfl, e4, o_call, o_bI]; rfl
        · obtain ⟨μ4, e4, F4, H4⟩ := H3.adv
          have S4 := S3.k (F4.wide (fun _ _ x => Ptk.c x))
          obtain ⟨μ5, v5, e5, F5, R5⟩ := p_cho (k := 3) (hi := 9) S4 H4 (by decide) (by decide)
          have S5 := S4.k F5
          have F05 : Fr (PDr h) μ μ5 := F03.tr ((F4.wide (fun _ _ x => Or.inl (Ptk.c x))).tr (F5.wide (fun _ _ x => Or.inl x)))
          rw [if_neg ab, xB_o, if_neg (show ¬ Int32.ofNat w.1 = Int32.ofNat y.1 by rw [z_eq (by omega) (by omega)]; exact ab), S3.1.g114_0, o_bind, H3.1.v, o_bind, e4, o_bind, o_Rv S4.1.s114, o_bind, show (3 : Int32) = Int32.ofNat 3 from rfl, show (9 : Int32) = Int32.ofNat 9 from rfl, e5, o_call]
          cases t : xCho (tx B) n 3 9 (lxE (tx B) n w.2) with
          | error x =>
            rw [t] at R5
            obtain ⟨r1, r2⟩ := R5
            rw [xB_e]
            refine ⟨μ5, ?_, F05, r2⟩
            rw [r1, if_pos (show -Int32.ofNat 1 = (-1 : Int32) from rfl), show (0 : Int32) = Int32.ofNat 0 from rfl, o_ret0']; rfl
          | ok c =>
            have cz := xCho_le t
            rw [t] at R5
            obtain ⟨r1, H5⟩ := R5
            have cond : (oN (lxK (tx B) n c.2) = (4 : Int32)) = (lxK (tx B) n c.2 = some 4) := oN_eqk (fun j h => lxK_lt h) (by decide)
            rw [xB_o, r1, if_neg (nm1 (by omega)), S5.1.g114_0, o_bind, H5.g6, o_bind]
            unfold xOpn
            by_cases o : lxK (tx B) n c.2 = some 4
            · obtain ⟨μ6, e6, F6, H6⟩ := H5.adv
              have S6 := S5.k (F6.wide (fun _ _ x => Ptk.c x))
              obtain ⟨μ7, e7, F7, R7⟩ := p_140 (op := true) S6 H6 (by omega) ya wb.1 (fun x => ab x.symm) cz
              rw [if_pos o]
              refine ⟨μ7, ?_, F05.tr ((F6.wide (fun _ _ x => Or.inl (Ptk.c x))).tr F7), R7⟩
              rw [if_pos (Eq.mpr cond o), f_X4_readDoor_126, if_neg (by decide), S5.1.g114_0, o_bind, H5.1.v, o_bind, e6, o_bind]
              exact e7
            · obtain ⟨μ7, e7, F7, R7⟩ := p_140 (op := false) S5 H5 (by omega) ya wb.1 (fun x => ab x.symm) cz
              rw [if_neg o]
              refine ⟨μ7, ?_, F05.tr F7, R7⟩
              rw [if_neg (fun x => o (Eq.mp cond x)), f_X4_readDoor_126, if_pos (by decide)]
              exact e7
