/-! PURE 97: a person told, the texts -/
def xPers (u : Nat → Nat) (n : Nat) (A : aH) (wn : Nat → List Nat) (e : Nat) : aX ((aH × (Nat → List Nat)) × Nat) := xB (xNw u n A wn 3 5 e) (fun l e1 => xS1 (xKey u n 12 e1) (fun e2 => xB (xOld u n (hrn A) (hs A 0) e2) (fun rm e3 => xB (xCho u n 13 9 e3) (fun df e4 => xB (xKn u n wn (hs A 2) e4) (fun kn e5 => .ok ((hPe A l rm df kn, wn), e5))))))
def MZ (μ : dtM) (A : aH) : Prop := ∀ p, hs A 3 ≤ p → p < 5 → dtI μ 134 (2094 + 12 * p) = Int32.ofNat 0
abbrev MDp : Nat → Nat → Prop := fun k j => Mcl k j ∨ (k = 134 ∧ ((2016 ≤ j ∧ j < 2091 ∧ ¬ j = 2023) ∨ (2152 ≤ j ∧ j < 2656) ∨ (2091 ≤ j ∧ j < 2152 ∧ (j - 2091) % 12 < 3))) ∨ (k = 135 ∧ 76 ≤ j ∧ j < 114)
theorem MDr.p {k j : Nat} (x : MDr k j) : MDp k j := by
  rcases x with x | x | x
  · exact Or.inl x
  · exact Or.inr (Or.inl ⟨x.1, Or.inl ⟨x.2.1, x.2.2⟩⟩)
  · exact Or.inr (Or.inr x)
theorem MZ.k {μ μ' : dtM} {A A' : aH} (Z : MZ μ A) (F : Fr MDp μ μ') (h : hs A 3 ≤ hs A' 3) : MZ μ' A' := fun p h1 h2 => by
  rw [F.i (fun x => by
    rcases x with x | x | x
    · have := x.1; omega
    · omega
    · omega)]
  exact Z p (by omega) h2
abbrev Mpe (p : Nat) : Nat → Nat → Prop := fun k j => Mcl k j ∨ (k = 134 ∧ (j = 2512 ∨ (2091 + 12 * p ≤ j ∧ j < 2094 + 12 * p))) ∨ (k = 135 ∧ j = 90 + p)
theorem Mpe.no {p k j : Nat} (x : Mpe p k j) : k = 133 ∨ (k = 134 ∧ (j = 2512 ∨ (2091 + 12 * p ≤ j ∧ j < 2094 + 12 * p))) ∨ (k = 135 ∧ j = 90 + p) := by
  rcases x with x | x
  · exact Or.inl x.1
  · exact Or.inr x
theorem Mpe.p {p k j : Nat} (h : p < 5) (x : Mpe p k j) : MDp k j := by
  rcases x with x | x | x
  · exact Or.inl x
  · exact Or.inr (Or.inl ⟨x.1, by omega⟩)
  · exact Or.inr (Or.inr (by omega))
theorem n_197 {μ μ0 : dtM} {n e rm df kn : Nat} {l : List Nat} {B : Nat → Int32} {A : aH} {wn : Nat → List Nat} (S : MHN μ0 A wn) (Z : MZ μ0 A) (F : Fr (Mpe (hs A 3)) μ0 μ) (H : MTk μ n B e) (h0 : M0f μ) (h5 : hs A 3 < 5) (ok : nOk l) (hr : rm < hs A 0) (hd : df ≤ 9) (hk : kn < 2 ^ hs A 2) (en : dtJ μ 135 (90 + hs A 3) = n256 l) (er : dtI μ 134 (2091 + 12 * hs A 3) = Int32.ofNat rm) (ed : dtI μ 134 (2092 + 12 * hs A 3) = Int32.ofNat df) (ek : dtI μ 134 (2093 + 12 * hs A 3) = Int32.ofNat kn) : ∃ μ', f_X12_aPerson_197 133 μ = some (bI true, μ') ∧ Fr MDp μ0 μ' ∧ MHN μ' (hPe A l rm df kn) wn ∧ MTk μ' n B e ∧ M0f μ' := by
  have C := H.1.1
  obtain ⟨C0, HH, N⟩ := S
  have nw := HH.2.2.1.2.2.1
  have c3 : dtI μ 134 2019 = Int32.ofNat (hs A 3) := by
    rw [F.i (fun x => by have := Mpe.no x; omega)]; exact HH.2.1.1 3 (by decide)
  have hz : dtI μ 134 (2094 + 12 * hs A 3) = Int32.ofNat 0 := by
    rw [F.i (fun x => by have := Mpe.no x; omega)]; exact Z _ (Nat.le_refl _) h5
  have Fx : Fr (fun k j => Mpe (hs A 3) k j ∨ (k = 134 ∧ j = 2019)) μ0 (dtSI μ 134 2019 (Int32.ofNat (hs A 3 + 1))) := (F.wide (fun _ _ x => Or.inl x)).tr (Fr.SI (Or.inr ⟨rfl, rfl⟩))
  refine ⟨dtSI μ 134 2019 (Int32.ofNat (hs A 3 + 1)), ?_, Fx.wide (fun k j x => by
    rcases x with x | x
    · exact Mpe.p h5 x
    · exact Or.inr (Or.inl ⟨x.1, by omega⟩)), ⟨C0.kept Fx, HH.personed h5 ok hr hd hk Fx (fun k j x => by
      rcases x with x | x
      · have := Mpe.no x; omega
      · omega) (by rw [m_I_SI, if_pos ⟨rfl, rfl⟩]) (by rw [m_J_SI]; exact en) (by rw [m_I_SI, if_neg (by omega)]; exact er) (by rw [m_I_SI, if_neg (by omega)]; exact ed) (by rw [m_I_SI, if_neg (by omega)]; exact ek) (by rw [m_I_SI, if_neg (by omega)]; exact hz), fun k hk => ?_⟩, H.at4, h0.at4⟩
  · rw [f_X12_aPerson_197, C.g133_0, o_bind, show (2019 : Int32) = Int32.ofNat 2019 from rfl, o_LI C.s134 (by decide) (by decide), c3, o_bind, show (1 : Int32) = Int32.ofNat 1 from rfl, z_add, o_SI C.s134 (by decide) (by decide), o_bind, o_ret1']
  · rw [hPe_s (by decide)] at hk
    rw [Fx.j (fun x => by
      rcases x with x | x
      · have := Mpe.no x; omega
      · omega)]
    exact N k hk
theorem n_94 {μ : dtM} {n e R : Nat} {B : Nat → Int32} {A : aH} {wn : Nat → List Nat} (W : hWF A) (hR : 2091 ≤ R ∧ R < 2140) (H : MTk μ n B e) (h0 : M0f μ) (c2 : dtI μ 134 2018 = Int32.ofNat (hs A 2)) (N : ∀ k, k < hs A 2 → dtJ μ 135 (83 + k) = n256 (wn k) ∧ nOk (wn k)) (ek : dtI μ 134 (R + 2) = Int32.ofNat 0) : ∃ μ', f_X12_aPerson_94 133 (Int32.ofNat R) (Int32.ofNat 2512) μ = (if xOk (xKn (tx B) n wn (hs A 2) e) = true then f_X12_aPerson_197 133 μ' else some (bI false, μ')) ∧ Fr (Mkn R) μ μ' ∧ MRv μ' n B (xKn (tx B) n wn (hs A 2) e) (R + 2) := by
  have C := H.1.1
  obtain ⟨μ1, e1, F1, H1, h1⟩ := H.isThere h0 (k := 14) (m := 14) (by decide) (by decide)
  have i1 : ∀ j, dtI μ1 134 j = dtI μ 134 j := fun j => F1.i (fun x => by have := x.1; omega)
  have st : f_X12_aPerson_94 133 (Int32.ofNat R) (Int32.ofNat 2512) μ = f_X12_aPerson_101 dtFuel 133 (Int32.ofNat R) (Int32.ofNat 2512) (bI (decide (lxK (tx B) n e = some 14))) μ1 := by
    rw [f_X12_aPerson_94, C.v133, o_bind, show (14 : Int32) = Int32.ofNat 14 from rfl, e1, o_call]
  rw [st]
  unfold xKn
  by_cases q : lxK (tx B) n e = some 14
  · rw [if_pos q] at H1
    obtain ⟨μ2, e2, F2, R2⟩ := rk101 (B := B) (n := n) W hR 8 0 0 _ dtFuel μ1 rfl (dtFuel_gt (by decide)) rfl (Nat.two_pow_pos _) H1 h1 (by rw [i1]; exact c2) (fun k hk => by rw [F1.j (fun x => by have := x.1; omega)]; exact N k hk) (by rw [i1]; exact ek)
    rw [if_pos q]
    refine ⟨μ2, ?_, (F1.wide (fun _ _ x => Or.inl x)).tr F2, R2⟩
    rw [decide_eq_true q]
    exact e2
  · rw [if_neg q] at H1
    obtain ⟨f, hf⟩ : ∃ f, dtFuel = f + 1 := ⟨dtFuel - 1, by have := dtFuel_gt (n := 1) (by decide); omega⟩
    rw [if_neg q]
    refine ⟨μ1, ?_, F1.wide (fun _ _ x => Or.inl x), by rw [i1]; exact ek, H1, h1⟩
    rw [decide_eq_false q, hf, f_X12_aPerson_101, if_pos (show bI false = 0 from (by decide : bI false = 0))]; rfl
theorem n_person {μ : dtM} {n e : Nat} {B : Nat → Int32} {A : aH} {wn : Nat → List Nat} (S : MHN μ A wn) (Z : MZ μ A) (H : MTk μ n B e) (h0 : M0f μ) : ∃ μ', f_X12_aPerson 133 μ = some (bI (xOk (xPers (tx B) n A wn e)), μ') ∧ Fr MDp μ μ' ∧ MRh μ' n B (xPers (tx B) n A wn e) := by
  have C := S.1
  have W := S.2.1.2.2
  have V := S.2.1.2.1
  have np : hs A 3 ≤ 5 := W.1.2.2.2.1
  have nr := W.1.1
  have nw := W.1.2.2.1
  obtain ⟨μ1, e1, F1, R1⟩ := n_newOne S H h0 (q := 3) (mx := 5) (o := 14) (by decide) ⟨np, by decide, by decide⟩
  have C1 := C.kept F1
  have ct := S.cnt (j := 3) (by decide)
  have F01 : Fr (Mpe (hs A 3)) μ μ1 := F1.wide (fun k j x => x.elim Or.inl (fun y => Or.inr (Or.inr (by omega))))
  have e50 : ∀ μ, f_X12_aPerson_50 μ = some (bI false, μ) := fun μ => by rw [f_X12_aPerson_50, show (0 : Int32) = Int32.ofNat 0 from rfl, o_ret0']
  have pr : f_X12_personRow (Int32.ofNat (hs A 3)) μ = some (Int32.ofNat (75 + 12 * hs A 3), μ) := by
    rw [f_X12_personRow, show (75 : Int32) = Int32.ofNat 75 from rfl, show (12 : Int32) = Int32.ofNat 12 from rfl, z_mul, z_add]
  have st : f_X12_aPerson 133 μ = if bI (xOk (xNw (tx B) n A wn 3 5 e)) = 0 then (f_X12_aPerson_50 μ1) else ((opRv 12 μ1 133).bind fun _ => opCall (f_X12_wantWord 133 1000003 (12 : Int32) μ1) fun x20 μ18 => if x20 = 0 then (f_X12_aPerson_50 μ18) else ((opRv 12 μ18 133).bind fun _ => opCall (f_X12_newRoomTo 133 (Int32.ofNat (2091 + 12 * hs A 3)) μ18) fun x27 μ25 => if x27 = 0 then (f_X12_aPerson_50 μ25) else ((opGR 12 0 μ25 133).bind fun x31 => (opSI μ25 x31 (Int32.ofNat (2091 + 12 * hs A 3) + (1 : Int32)) (0 : Int32)).bind fun μ33 => (opGR 12 0 μ33 133).bind fun x35 => (opSI μ33 x35 (Int32.ofNat (2091 + 12 * hs A 3) + (2 : Int32)) (0 : Int32)).bind fun μ37 => (opRv 12 μ37 133).bind fun _ => opCall (f_X12_isThere 133 (13 : Int32) μ37) fun x42 μ40 => if x42 = 0 then (f_X12_aPerson_94 133 (Int32.ofNat (2091 + 12 * hs A 3)) (2512 : Int32) μ40) else ((opRv 12 μ40 133).bind fun _ => opCall (f_X12_number 133 (Int32.ofNat (2091 + 12 * hs A 3) + (1 : Int32)) (0 : Int32) (9 : Int32) μ40) fun x49 μ47 => if x49 = 0 then (opRet (0 : Int32) μ47) else (f_X12_aPerson_94 133 (Int32.ofNat (2091 + 12 * hs A 3)) (2512 : Int32) μ47))))) := by
    rw [f_X12_aPerson, C.g133_0, o_bind, show (2019 : Int32) = Int32.ofNat (2016 + 3) from rfl, ct, o_bind, pr, o_call, show (2016 : Int32) = Int32.ofNat 2016 from rfl, z_add, show 2016 + (75 + 12 * hs A 3) = 2091 + 12 * hs A 3 by omega, o_bind, C.v133, o_bind, show (3 : Int32) = Int32.ofNat 3 from rfl, show (5 : Int32) = Int32.ofNat 5 from rfl, show (14 : Int32) = Int32.ofNat 14 from rfl, e1, o_call]
  rw [st]
  unfold xPers
  cases r : xNw (tx B) n A wn 3 5 e with
  | error x =>
    rw [r] at R1
    rw [xB_e]
    refine ⟨μ1, ?_, F1.wide (fun k j x => x.elim Or.inl (fun y => Or.inr (Or.inr (by omega)))), R1⟩
    rw [if_pos (show bI (xOk (Except.error x : aX (List Nat × Nat))) = 0 from (by decide : bI false = 0)), e50]; rfl
  | ok y =>
    rw [r] at R1
    obtain ⟨r1, ok, l1, H1, h1⟩ := R1
    have h5 : hs A 3 < 5 := by
      rcases Nat.lt_or_ge (hs A 3) 5 with x | x
      · exact x
      · rw [show xNw (tx B) n A wn 3 5 e = .error (flt (tx B) n e 6) from if_pos (by omega)] at r
        exact absurd r (fun x => nomatch x)
    obtain ⟨μ2, e2, F2, R2⟩ := H1.wantWord h1 (k := 12) (m := 12) (by decide) (by decide)
    have C2 := C1.kept F2
    have F02 : Fr (Mpe (hs A 3)) μ μ2 := F01.tr (F2.wide (fun _ _ x => Or.inl x))
    rw [xB_o, if_neg (show ¬ bI (xOk (Except.ok y : aX (List Nat × Nat))) = 0 from (by decide : ¬ bI true = 0)), C1.v133, o_bind, show (12 : Int32) = Int32.ofNat 12 from rfl, e2, o_call]
    cases r : xKey (tx B) n 12 y.2 with
    | error x =>
      rw [r] at R2
      rw [xS1_e]
      refine ⟨μ2, ?_, F02.wide (fun _ _ x => Mpe.p h5 x), R2⟩
      rw [if_pos (show bI (xOk (Except.error x : aX Nat)) = 0 from (by decide : bI false = 0)), e50]; rfl
    | ok e2' =>
      rw [r] at R2
      obtain ⟨H2, h2⟩ := R2
      obtain ⟨μ3, e3, F3, R3⟩ := n_roomTo (t := 2091 + 12 * hs A 3) H2 h2 W (by rw [F02.i (fun x => by have := Mpe.no x; omega)]; exact V.1 0 (by decide)) (fun r hr => by rw [F02.j (fun x => by have := Mpe.no x; omega)]; exact V.2.2.2.2.1 r hr) (by omega)
      have C3 := C2.kept F3
      have F03 : Fr (Mpe (hs A 3)) μ μ3 := F02.tr (F3.wide (fun k j x => x.elim Or.inl (fun y => Or.inr (Or.inl (by omega)))))
      rw [xS1_o, if_neg (show ¬ bI (xOk (Except.ok e2' : aX Nat)) = 0 from (by decide : ¬ bI true = 0)), C2.v133, o_bind, e3, o_call]
      cases r : xOld (tx B) n (hrn A) (hs A 0) e2' with
      | error x =>
        rw [r] at R3
        rw [xB_e]
        refine ⟨μ3, ?_, F03.wide (fun _ _ x => Mpe.p h5 x), R3⟩
        rw [if_pos (show bI (xOk (Except.error x : aX (Nat × Nat))) = 0 from (by decide : bI false = 0)), e50]; rfl
      | ok z =>
        have zr := xOld_lt r
        rw [r] at R3
        obtain ⟨r3, H3, h3⟩ := R3
        let m4 := dtSI μ3 134 (2092 + 12 * hs A 3) (Int32.ofNat 0)
        let m5 := dtSI m4 134 (2093 + 12 * hs A 3) (Int32.ofNat 0)
        have C4 : CX m4 := C3.SI
        have C5 : CX m5 := C4.SI
        have H5 : MTk m5 n B z.2 := H3.at4.at4
        have h5' : M0f m5 := h3.at4.at4
        have F05 : Fr (Mpe (hs A 3)) μ m5 := (F03.tr (Fr.SI (Or.inr (Or.inl (by omega))))).tr (Fr.SI (Or.inr (Or.inl (by omega))))
        have v0 : dtI m5 134 (2091 + 12 * hs A 3) = Int32.ofNat z.1 := by
          show dtI (dtSI (dtSI _ _ _ _) _ _ _) _ _ = _
          rw [m_I_SI, if_neg (by omega), m_I_SI, if_neg (by omega)]; exact r3
        have v1 : dtI m5 134 (2092 + 12 * hs A 3) = Int32.ofNat 0 := by
          show dtI (dtSI (dtSI _ _ _ _) _ _ _) _ _ = _
          rw [m_I_SI, if_neg (by omega), m_I_SI, if_pos ⟨rfl, rfl⟩]
        have v2 : dtI m5 134 (2093 + 12 * hs A 3) = Int32.ofNat 0 := by
          show dtI (dtSI (dtSI _ _ _ _) _ _ _) _ _ = _
          rw [m_I_SI, if_pos ⟨rfl, rfl⟩]
        obtain ⟨μ6, e6, F6, R6⟩ := n_cho (K := f_X12_aPerson_94 133 (Int32.ofNat (2091 + 12 * hs A 3)) (2512 : Int32)) (k := 13) (m := 13) (hi := 9) (t := 2092 + 12 * hs A 3) H5 h5' (by omega) (by decide) (by decide) (by decide) v1
        have F06 : Fr (Mpe (hs A 3)) μ μ6 := F05.tr (F6.wide (fun k j x => x.elim Or.inl (fun y => Or.inr (Or.inl (by omega)))))
        have i6 : ∀ s, ¬ s = 2092 + 12 * hs A 3 → dtI μ6 134 s = dtI m5 134 s := fun s h => F6.i (fun x => by
          have y : (134 = 133 ∧ 12 ≤ s ∧ s ≤ 18 ∧ ¬ s = 16) ∨ (134 = 134 ∧ s = 2092 + 12 * hs A 3) := x
          omega)
        rw [xB_o, if_neg (show ¬ bI (xOk (Except.ok z : aX (Nat × Nat))) = 0 from (by decide : ¬ bI true = 0)), C3.g133_0, o_bind, show (1 : Int32) = Int32.ofNat 1 from rfl, show (2 : Int32) = Int32.ofNat 2 from rfl, z_add, z_add, show 2091 + 12 * hs A 3 + 1 = 2092 + 12 * hs A 3 by omega, show 2091 + 12 * hs A 3 + 2 = 2093 + 12 * hs A 3 by omega, o_SI C3.s134 (by omega) (by decide), o_bind, (show opGR 12 0 (dtSI μ3 134 (2092 + 12 * hs A 3) (0 : Int32)) 133 = some 134 from C4.g133_0), o_bind, o_SI (show dtS (dtSI μ3 134 (2092 + 12 * hs A 3) (0 : Int32)) 134 = (1, 2656) from C4.s134) (by omega) (by decide), o_bind, (show opRv 12 (dtSI (dtSI μ3 134 (2092 + 12 * hs A 3) (0 : Int32)) 134 (2093 + 12 * hs A 3) (0 : Int32)) 133 = some () from C5.v133), o_bind]
        have e6' := e6
        cases s : xCho (tx B) n 13 9 z.2 with
        | error x =>
          rw [s] at R6 e6'
          rw [xB_e]
          exact ⟨μ6, e6', F06.wide (fun _ _ x => Mpe.p h5 x), R6⟩
        | ok c =>
          have cz := xCho_le s
          rw [s] at R6 e6'
          obtain ⟨r6, H6, h6⟩ := R6
          obtain ⟨μ7, e7, F7, R7⟩ := n_94 (R := 2091 + 12 * hs A 3) (wn := wn) W (by omega) H6 h6 (by rw [F06.i (fun x => by have := Mpe.no x; omega)]; exact V.1 2 (by decide)) (fun k hk => by rw [F06.j (fun x => by have := Mpe.no x; omega)]; exact S.2.2 k hk) (by rw [show 2091 + 12 * hs A 3 + 2 = 2093 + 12 * hs A 3 by omega, i6 _ (by omega)]; exact v2)
          have F07 : Fr (Mpe (hs A 3)) μ μ7 := F06.tr (F7.wide (fun k j x => x.elim Or.inl (fun y => Or.inr (Or.inl (by omega)))))
          have i7 : ∀ s, s < 2500 → ¬ s = 2093 + 12 * hs A 3 → dtI μ7 134 s = dtI μ6 134 s := fun s h g => F7.i (fun x => by
            have y : (134 = 133 ∧ 12 ≤ s ∧ s ≤ 18 ∧ ¬ s = 16) ∨ (134 = 134 ∧ (s = 2091 + 12 * hs A 3 + 2 ∨ s = 2512)) := x
            omega)
          have go := e6'.trans e7
          rw [xB_o]
          cases t : xKn (tx B) n wn (hs A 2) c.2 with
          | error x =>
            rw [t] at R7 go
            rw [xB_e]
            exact ⟨μ7, go, F07.wide (fun _ _ x => Mpe.p h5 x), R7⟩
          | ok w =>
            have wk := xKn_lt t
            rw [t] at R7 go
            obtain ⟨r7, H7, h7⟩ := R7
            obtain ⟨μ8, e8, F8, S8, H8, h8⟩ := n_197 (l := y.1) S Z F07 H7 h7 h5 ok zr cz wk (by
              rw [F7.j (fun x => by
                have y : (135 = 133 ∧ 12 ≤ 90 + hs A 3 ∧ 90 + hs A 3 ≤ 18 ∧ ¬ 90 + hs A 3 = 16) ∨ (135 = 134 ∧ _) := x
                omega), F6.j (fun x => by
                have y : (135 = 133 ∧ 12 ≤ 90 + hs A 3 ∧ 90 + hs A 3 ≤ 18 ∧ ¬ 90 + hs A 3 = 16) ∨ (135 = 134 ∧ _) := x
                omega)]
              show dtJ μ3 135 (90 + hs A 3) = _
              rw [F3.j (fun x => by
                have y : (135 = 133 ∧ 12 ≤ 90 + hs A 3 ∧ 90 + hs A 3 ≤ 18 ∧ ¬ 90 + hs A 3 = 16) ∨ (135 = 134 ∧ _) := x
                omega), F2.j (fun x => by have := x.1; omega)]
              exact r1) (by rw [i7 _ (by omega) (by omega), i6 _ (by omega)]; exact v0) (by rw [i7 _ (by omega) (by omega)]; exact r6) (by rw [show 2093 + 12 * hs A 3 = 2091 + 12 * hs A 3 + 2 by omega]; exact r7)
            exact ⟨μ8, go.trans e8, F8, S8, H8, h8⟩
