/-! PURE 91: a door told, the model's text -/
theorem Mdo.dr {A : aH} (W : hWF A) {k j : Nat} (h10 : hs A 1 < 10) (x : Mdo (hs A 1) k j) : MDr k j := by
  rcases x with x | x
  · exact Or.inl x
  · exact Or.inr (Or.inl (by omega))
theorem Mat.do {d t k j : Nat} (x : Mat t k j) (h : 2026 + 3 * d ≤ t ∧ t < 2029 + 3 * d) : Mdo d k j := by
  rcases x with x | x
  · exact Or.inl x
  · exact Or.inr (by omega)
theorem Mdo.no {d k j : Nat} (x : Mdo d k j) : k = 133 ∨ (k = 134 ∧ 2026 + 3 * d ≤ j ∧ j < 2029 + 3 * d) := by
  rcases x with x | x
  · exact Or.inl x.1
  · exact Or.inr x
theorem n_85 {μ μ0 : dtM} {n e a : Nat} {B : Nat → Int32} {A : aH} {wn : Nat → List Nat} (S : MHN μ0 A wn) (F : Fr (Mdo (hs A 1)) μ0 μ) (H : MTk μ n B e) (h0 : M0f μ) (h10 : hs A 1 < 10) (ha : a < hs A 0) (ea : dtI μ 134 (2026 + 3 * hs A 1) = Int32.ofNat a) (nb : ∀ y, xOld (tx B) n (hrn A) (hs A 0) e = .ok y → ¬ y.1 = a) : ∃ μ', f_X12_aDoor_85 133 (Int32.ofNat (2026 + 3 * hs A 1)) μ = some (bI (xOk (xB (xOld (tx B) n (hrn A) (hs A 0) e) (fun b e2 => xB (xCho (tx B) n 3 9 e2) (fun z e3 => (.ok ((hDr A a b z (xOpn (tx B) n e3).1, wn), (xOpn (tx B) n e3).2) : aX ((aH × (Nat → List Nat)) × Nat)))))), μ') ∧ Fr MDr μ0 μ' ∧ MRh μ' n B (xB (xOld (tx B) n (hrn A) (hs A 0) e) (fun b e2 => xB (xCho (tx B) n 3 9 e2) (fun z e3 => .ok ((hDr A a b z (xOpn (tx B) n e3).1, wn), (xOpn (tx B) n e3).2)))) := by
  have C := H.1.1
  have W := S.2.1.2.2
  have V := S.2.1.2.1
  obtain ⟨μ1, e1, F1, R1⟩ := n_roomTo (t := 2027 + 3 * hs A 1) H h0 W (by rw [F.i (fun x => by have := Mdo.no x; omega)]; exact V.1 0 (by decide)) (fun r hr => by rw [F.j (fun x => by have := Mdo.no x; omega)]; exact V.2.2.2.2.1 r hr) (by omega)
  have C1 := C.kept F1
  have F01 : Fr (Mdo (hs A 1)) μ0 μ1 := F.tr (F1.wide (fun k j x => Mat.do x (by omega)))
  cases r : xOld (tx B) n (hrn A) (hs A 0) e with
  | error x =>
    rw [r] at e1 R1
    rw [xB_e]
    refine ⟨μ1, ?_, F01.wide (fun k j x => Mdo.dr W h10 x), R1⟩
    rw [f_X12_aDoor_85, C.v133, o_bind, show (1 : Int32) = Int32.ofNat 1 from rfl, z_add, show 2026 + 3 * hs A 1 + 1 = 2027 + 3 * hs A 1 by omega, e1, o_call, if_pos (show bI (xOk (Except.error x : aX (Nat × Nat))) = 0 from (by decide : bI false = 0)), show (0 : Int32) = Int32.ofNat 0 from rfl, o_ret0']; rfl
  | ok y =>
    have ab := nb y r
    have yb := xOld_lt r
    rw [r] at e1 R1
    obtain ⟨r1, H1, h1⟩ := R1
    rw [xB_o]
    have Ha : MTk (dtSI μ1 134 (2028 + 3 * hs A 1) (Int32.ofNat 0)) n B y.2 := H1.at4
    have hz : M0f (dtSI μ1 134 (2028 + 3 * hs A 1) (Int32.ofNat 0)) := h1.at4
    have Ca : CX (dtSI μ1 134 (2028 + 3 * hs A 1) (Int32.ofNat 0)) := C1.SI
    obtain ⟨μ2, e2, F2, R2⟩ := n_cho (K := f_X12_aDoor_129 133) (k := 3) (m := 5) (hi := 9) (t := 2028 + 3 * hs A 1) Ha hz (by omega) (by decide) (by decide) (by decide) (by rw [m_I_SI, if_pos ⟨rfl, rfl⟩])
    have F02 : Fr (Mdo (hs A 1)) μ0 μ2 := F01.tr ((Fr.SI (Or.inr (by omega))).tr (F2.wide (fun k j x => Mat.do x (by omega))))
    have st : f_X12_aDoor_85 133 (Int32.ofNat (2026 + 3 * hs A 1)) μ = (if xOk (xCho (tx B) n 3 9 y.2) = true then f_X12_aDoor_129 133 μ2 else some (bI false, μ2)) := by
      rw [← e2, f_X12_aDoor_85, C.v133, o_bind, show (1 : Int32) = Int32.ofNat 1 from rfl, z_add, show 2026 + 3 * hs A 1 + 1 = 2027 + 3 * hs A 1 by omega, e1, o_call, if_neg (show ¬ bI (xOk (Except.ok y : aX (Nat × Nat))) = 0 from (by decide : ¬ bI true = 0)), C1.g133_0, o_bind, show (2 : Int32) = Int32.ofNat 2 from rfl, z_add, show 2026 + 3 * hs A 1 + 2 = 2028 + 3 * hs A 1 by omega, show (0 : Int32) = Int32.ofNat 0 from rfl, o_SI C1.s134 (by omega) (by decide), o_bind, Ca.v133, o_bind]; rfl
    rw [st]
    have sl : ∀ s, ¬ s = 2028 + 3 * hs A 1 → dtI μ2 134 s = dtI μ1 134 s := fun s h => by
      rw [F2.i (fun x => by
        have y : (134 = 133 ∧ 12 ≤ s ∧ s ≤ 18 ∧ ¬ s = 16) ∨ (134 = 134 ∧ s = 2028 + 3 * hs A 1) := x
        omega), m_I_SI, if_neg (by omega)]
    have ea1 : dtI μ1 134 (2026 + 3 * hs A 1) = Int32.ofNat a := by
      rw [F1.i (fun x => by
        have y : (134 = 133 ∧ 12 ≤ 2026 + 3 * hs A 1 ∧ 2026 + 3 * hs A 1 ≤ 18 ∧ ¬ 2026 + 3 * hs A 1 = 16) ∨ (134 = 134 ∧ 2026 + 3 * hs A 1 = 2027 + 3 * hs A 1) := x
        omega)]; exact ea
    cases s : xCho (tx B) n 3 9 y.2 with
    | error x =>
      rw [s] at R2
      rw [xB_e]
      refine ⟨μ2, ?_, F02.wide (fun k j x => Mdo.dr W h10 x), R2⟩
      rw [if_neg (show ¬ xOk (Except.error x : aX (Nat × Nat)) = true from (by decide : ¬ false = true))]; rfl
    | ok c =>
      have cz := xCho_le s
      rw [s] at R2
      obtain ⟨r2, H2, h2⟩ := R2
      obtain ⟨μ3, e3, F3, S3, H3, h3⟩ := n_129 S F02 H2 h2 h10 ha yb (fun x => ab x.symm) cz (by rw [sl _ (by omega)]; exact ea1) (by rw [sl _ (by omega)]; exact r1) r2
      rw [xB_o]
      refine ⟨μ3, ?_, F3, S3, H3, h3⟩
      rw [if_pos (show xOk (Except.ok c : aX (Nat × Nat)) = true from rfl), e3]; rfl
theorem n_door {μ : dtM} {n e : Nat} {B : Nat → Int32} {A : aH} {wn : Nat → List Nat} (S : MHN μ A wn) (H : MTk μ n B e) (h0 : M0f μ) : ∃ μ', f_X12_aDoor 133 μ = some (bI (xOk (xDoor (tx B) n A wn e)), μ') ∧ Fr MDr μ μ' ∧ MRh μ' n B (xDoor (tx B) n A wn e) := by
  have C := S.1
  have W := S.2.1.2.2
  have V := S.2.1.2.1
  have nd : hs A 1 ≤ 10 := W.1.2.1
  have nr : hs A 0 ≤ 7 := W.1.1
  have ct := S.cnt (j := 1) (by decide)
  have full : f_X12_isFull 133 (1 : Int32) (10 : Int32) μ = some (bI (decide (hs A 1 = 10)), μ) := by
    rw [f_X12_isFull, C.g133_0, o_bind, show (2016 : Int32) + (1 : Int32) = Int32.ofNat (2016 + 1) from rfl, ct, o_bind]
    by_cases x : hs A 1 = 10
    · rw [if_pos (by rw [x]; rfl), f_X12_isFull_19, show (1 : Int32) = Int32.ofNat 1 from rfl, o_ret1', decide_eq_true x]
    · rw [if_neg (by rw [show (10 : Int32) = Int32.ofNat 10 from rfl, z_eq (by omega) (by omega)]; exact x), f_X12_isFull_19, show (0 : Int32) = Int32.ofNat 0 from rfl, o_ret0', decide_eq_false x]
  unfold xDoor
  by_cases q : hs A 1 = 10
  · obtain ⟨μ1, e1, F1, H1⟩ := n_fails (w := 6) H h0 (by decide)
    rw [if_pos q]
    refine ⟨μ1, ?_, F1.wide (fun _ _ y => Or.inl y), H1⟩
    rw [f_X12_aDoor, C.v133, o_bind, full, o_call, if_neg (by rw [decide_eq_true q]; decide), C.v133, o_bind, show (6 : Int32) = Int32.ofNat 6 from rfl, e1, o_call, o_bI]; rfl
  · rw [if_neg q]
    have h10 : hs A 1 < 10 := by omega
    obtain ⟨μ1, e1, F1, H1⟩ := H.adv
    have h1 := h0.tk F1
    have C1 := C.kept F1
    have S1 := S.c (F1.wide (fun _ _ y => Mtk.c y))
    have V1 := S1.2.1.2.1
    obtain ⟨μ2, e2, F2, R2⟩ := n_roomTo (t := 2026 + 3 * hs A 1) H1 h1 W (V1.1 0 (by decide)) V1.2.2.2.2.1 (by omega)
    have C2 := C1.kept F2
    have F02 : Fr (Mdo (hs A 1)) μ μ2 := (F1.wide (fun _ _ x => Or.inl (Mtk.c x))).tr (F2.wide (fun k j x => Mat.do x (by omega)))
    have dr : f_X12_doorRow (Int32.ofNat (hs A 1)) μ = some (Int32.ofNat (10 + 3 * hs A 1), μ) := by
      rw [f_X12_doorRow, show (10 : Int32) = Int32.ofNat 10 from rfl, show (3 : Int32) = Int32.ofNat 3 from rfl, z_mul, z_add]
    have st : f_X12_aDoor 133 μ = if bI (xOk (xOld (tx B) n (hrn A) (hs A 0) (lxE (tx B) n e))) = 0 then (opRet (0 : Int32) μ2) else ((opRv 12 μ2 133).bind fun _ => opCall (f_X12_isName 133 1000003 μ2) fun x30 μ28 => if x30 = 0 then (f_X12_aDoor_85 133 (Int32.ofNat (2026 + 3 * hs A 1)) μ28) else ((opGR 12 0 μ28 133).bind fun x34 => (opLI 1 μ28 x34 (2016 : Int32)).bind fun x36 => (opRv 12 μ28 133).bind fun _ => opCall (f_X12_findHere 133 (76 : Int32) x36 μ28) fun x41 μ39 => (opGR 12 0 μ39 133).bind fun x42 => (opLI 1 μ39 x42 (Int32.ofNat (2026 + 3 * hs A 1))).bind fun x44 => if x41 = x44 then ((opRv 12 μ39 133).bind fun _ => opCall (f_X12_fails 133 (5 : Int32) μ39) fun x52 μ50 => opRet x52 μ50) else (f_X12_aDoor_85 133 (Int32.ofNat (2026 + 3 * hs A 1)) μ39))) := by
      rw [f_X12_aDoor, C.v133, o_bind, full, o_call, if_pos (by rw [decide_eq_false q]; decide), C.g133_0, o_bind, show (2017 : Int32) = Int32.ofNat (2016 + 1) from rfl, ct, o_bind, dr, o_call, show (2016 : Int32) = Int32.ofNat 2016 from rfl, z_add, show 2016 + (10 + 3 * hs A 1) = 2026 + 3 * hs A 1 by omega, o_bind, C.v133, o_bind, e1, o_bind, C1.v133, o_bind, e2, o_call]
    rw [st]
    cases r : xOld (tx B) n (hrn A) (hs A 0) (lxE (tx B) n e) with
    | error x =>
      rw [r] at R2
      rw [xB_e]
      refine ⟨μ2, ?_, F02.wide (fun k j x => Mdo.dr W h10 x), R2⟩
      rw [if_pos (show bI (xOk (Except.error x : aX (Nat × Nat))) = 0 from (by decide : bI false = 0)), show (0 : Int32) = Int32.ofNat 0 from rfl, o_ret0']; rfl
    | ok y =>
      have ya := xOld_lt r
      rw [r] at R2
      obtain ⟨ra, H2, h2⟩ := R2
      have hn' := H2.isName
      rw [xB_o, if_neg (show ¬ bI (xOk (Except.ok y : aX (Nat × Nat))) = 0 from (by decide : ¬ bI true = 0)), C2.v133, o_bind]
      unfold xTwo
      cases hn : lxN (tx B) n y.2 with
      | none =>
        rw [hn] at hn'
        obtain ⟨μ3, e3, F3, R3⟩ := n_85 S F02 H2 h2 h10 ya ra (fun w hw => by rw [xOld_0 hn] at hw; exact absurd hw (fun x => nomatch x))
        rw [xOld_0 hn, xB_e] at e3 R3
        rw [xFind_0 hn, xB_e, xB_e]
        refine ⟨μ3, ?_, F3, R3⟩
        rw [hn', o_call, if_pos (show bI (none : Option (List Nat)).isSome = 0 from (by decide : bI false = 0))]
        exact e3
      | some l =>
        rw [hn] at hn'
        have nm : ∀ k, k < hs A 0 → dtJ μ2 135 (76 + k) = n256 (hrn A k) ∧ nOk (hrn A k) := fun k hk => ⟨by rw [F02.j (fun x => by have := Mdo.no x; omega)]; exact V.2.2.2.2.1 k hk, W.2.2.2.2.1 k hk⟩
        have fh := H2.find hn (base := 76) (many := hs A 0) (N := hrn A) (by omega) nm
        have c0 : dtI μ2 134 2016 = Int32.ofNat (hs A 0) := by
          rw [F02.i (fun x => by have := Mdo.no x; omega)]; exact V.1 0 (by decide)
        rw [hn', o_call, if_neg (show ¬ bI (some l).isSome = 0 from (by decide : ¬ bI true = 0)), C2.g133_0, o_bind, show (2016 : Int32) = Int32.ofNat 2016 from rfl, o_LI C2.s134 (by decide) (by decide), c0, o_bind, C2.v133, o_bind, show (76 : Int32) = Int32.ofNat 76 from rfl, fh, o_call, C2.g133_0, o_bind, o_LI C2.s134 (by omega) (by decide), ra, o_bind]
        cases hf : fnd (hrn A) l (hs A 0) 0 with
        | none =>
          obtain ⟨μ3, e3, F3, R3⟩ := n_85 S F02 H2 h2 h10 ya ra (fun w hw => by rw [xOld_1 hn hf] at hw; exact absurd hw (fun x => nomatch x))
          rw [xOld_1 hn hf, xB_e] at e3 R3
          rw [xFind_1 hn hf, xB_e, xB_e]
          refine ⟨μ3, ?_, F3, R3⟩
          rw [if_neg (show ¬ oN none = Int32.ofNat y.1 by
            show ¬ -Int32.ofNat 1 = Int32.ofNat y.1
            rw [z_neg' (by omega)]; exact id)]
          exact e3
        | some i =>
          have hi := fnd_lt _ _ _ hf
          rw [xFind_2 hn hf, xB_o]
          by_cases ab : i = y.1
          · obtain ⟨μ3, e3, F3, H3⟩ := n_fails (w := 5) H2 h2 (by decide)
            rw [if_pos ab, xB_e]
            refine ⟨μ3, ?_, (F02.wide (fun k j x => Mdo.dr W h10 x)).tr (F3.wide (fun _ _ x => Or.inl x)), H3⟩
            rw [if_pos (show oN (some i) = Int32.ofNat y.1 by rw [ab]; rfl), C2.v133, o_bind, show (5 : Int32) = Int32.ofNat 5 from rfl, e3, o_call, o_bI]; rfl
          · obtain ⟨μ3, e3, F3, R3⟩ := n_85 S F02 H2 h2 h10 ya ra (fun w hw => by
              rw [xOld_2 hn hf] at hw
              have e : (i, lxE (tx B) n y.2) = w := Except.ok.inj hw
              rw [← e]; exact ab)
            rw [xOld_2 hn hf, xB_o] at e3 R3
            rw [if_neg ab, xB_o]
            refine ⟨μ3, ?_, F3, R3⟩
            rw [if_neg (show ¬ oN (some i) = Int32.ofNat y.1 by
              show ¬ Int32.ofNat i = Int32.ofNat y.1
              rw [z_eq (by omega) (by omega)]; exact ab)]
            exact e3
