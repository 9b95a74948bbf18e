/-! PURE 9995: the days' text, a row, the program -/
def pdR (μ : dtM) (g k : Nat) (r : Nat → Nat) : Prop :=
  dtI μ (g + 1) k = Int32.ofNat (r 0) ∧ (rWho r → dtI μ (g + 3) k = Int32.ofNat (r 1)) ∧ (rTwo r ∨ rOne r → dtI μ (g + 4) k = Int32.ofNat (r 2)) ∧ (r 0 = 15 → dtI μ (g + 5) k = Int32.ofNat (r 3)) ∧ (r 0 = 19 ∧ r 4 = 20 → dtI μ (g + 5) k = cmpP (r 3)) ∧ (r 0 = 19 → dtI μ (g + 2) k = Int32.ofNat (r 4))
abbrev Par (g a : Nat) : Nat → Nat → Prop := fun k j => Pcl 119 k j ∨ (g + 2 ≤ k ∧ k ≤ g + 5 ∧ j = a)
def PRr (μ : dtM) (n : Nat) (B : Nat → Int32) (g a k : Nat) (r : aX (aRw × Nat)) : Prop := match r with
  | .ok y => pdR μ g a (rwV k y.1) ∧ PTk μ 119 n B y.2
  | .error x => PFl μ 119 x
theorem PH.kD {μ μ' : dtM} {h g : Nat} {A : aH} (HA : PH μ h A) (hh : h = 12 ∨ h = 25) (hg : g = 38 ∨ g = 45) (F : Fr (fun k j => Pcl 119 k j ∨ g ≤ k) μ μ') : PH μ' h A := HA.kept F (fun k h1 h2 j x => by
  rcases x with x | x
  · have := x.1; omega
  · omega)
theorem Pax.g {g d a k j : Nat} (x : Pax (g + d) a k j) : Pcl 119 k j ∨ g ≤ k := x.elim Or.inl (fun y => Or.inr (by omega))
theorem Pax.r {g d a k j : Nat} (hd : 2 ≤ d ∧ d ≤ 5) (x : Pax (g + d) a k j) : Par g a k j := x.elim Or.inl (fun y => Or.inr ⟨by omega, by omega, y.2⟩)
theorem Pax.n {kk a k j : Nat} (x : Pax kk a k j) (h1 : ¬ k = 119) : k = kk ∧ j = a := x.elim (fun y => absurd y.1 h1) id
theorem bI_f {α : Type} {x : Nat × Nat} : bI (xOk (Except.error x : aX α)) = (0 : Int32) := (by decide : bI false = 0)
theorem bI_t {α : Type} {y : α} : ¬ bI (xOk (Except.ok y : aX α)) = (0 : Int32) := (by decide : ¬ bI true = 0)
theorem p_test19 {μ : dtM} {n e g h a : Nat} {B : Nat → Int32} {A : aH} (C : CX μ) (H : PTk μ 119 n B e) (HA : PH μ h A) (hh : h = 12 ∨ h = 25) (hg : g = 38 ∨ g = 45) (ha : a < 60) (hk : dtI μ (g + 1) a = Int32.ofNat 19) : ∃ μ', f_X1_readTest 118 g h (Int32.ofNat a) μ = some (bI (xOk (xTst (tx B) n A e)), μ') ∧ Fr (Par g a) μ μ' ∧ PRr μ' n B g a 19 (xTst (tx B) n A e) := by
  have c12 : (oN (lxK (tx B) n e) = (12 : Int32)) = (lxK (tx B) n e = some 12) := oN_eqk (fun j h => lxK_lt h) (by decide)
  have c4 : (oN (lxK (tx B) n e) = (4 : Int32)) = (lxK (tx B) n e = some 4) := oN_eqk (fun j h => lxK_lt h) (by decide)
  have c20 : (oN (lxK (tx B) n e) = (20 : Int32)) = (lxK (tx B) n e = some 20) := oN_eqk (fun j h => lxK_lt h) (by decide)
  have F0 : Fr (Pax (g + 2) a) μ (dtSI μ (g + 2) a (oN (lxK (tx B) n e))) := Fr.SI (Or.inr ⟨rfl, rfl⟩)
  have C0 := C.kept F0
  have H0 : PTk (dtSI μ (g + 2) a (oN (lxK (tx B) n e))) 119 n B e := H.st (by omega) (by omega)
  have HA0 := HA.kD hh hg (F0.wide (fun _ _ x => x.g))
  have k0 : dtI (dtSI μ (g + 2) a (oN (lxK (tx B) n e))) (g + 1) a = Int32.ofNat 19 := by rw [m_I_SI, if_neg (by omega)]; exact hk
  have t0 : dtI (dtSI μ (g + 2) a (oN (lxK (tx B) n e))) (g + 2) a = oN (lxK (tx B) n e) := by rw [m_I_SI, if_pos ⟨rfl, rfl⟩]
  have st : f_X1_readTest 118 g h (Int32.ofNat a) μ = if oN (lxK (tx B) n e) = (12 : Int32) then (f_X1_readTest_59 118 g h (Int32.ofNat a) (oN (lxK (tx B) n e)) (dtSI μ (g + 2) a (oN (lxK (tx B) n e)))) else (if oN (lxK (tx B) n e) = (4 : Int32) then (f_X1_readTest_59 118 g h (Int32.ofNat a) (oN (lxK (tx B) n e)) (dtSI μ (g + 2) a (oN (lxK (tx B) n e)))) else (if oN (lxK (tx B) n e) = (20 : Int32) then (f_X1_readTest_59 118 g h (Int32.ofNat a) (oN (lxK (tx B) n e)) (dtSI μ (g + 2) a (oN (lxK (tx B) n e)))) else (opCall (f_X8_flaw 119 (2 : Int32) (dtSI μ (g + 2) a (oN (lxK (tx B) n e)))) fun x30 μ28 => opRet x30 μ28))) := by
    rw [f_X1_readTest, C.gd3 hg, o_bind, o_LI (C.sd1 hg) ha (by decide), hk, o_bind, if_pos (by decide), C.g118_0, o_bind, H.g6, o_bind, C.gd4 hg, o_bind, o_SI (C.sd2 hg) ha (by decide), o_bind, C0.g118_0, o_bind, H0.1.v, o_bind]
  obtain ⟨μ1, e1, F1, H1⟩ := H0.adv
  have F1' : Fr (fun k j => Pcl 119 k j ∨ g ≤ k) _ μ1 := F1.wide (fun _ _ x => Or.inl (Ptk.c x))
  have C1 := C0.kept F1
  have HA1 := HA0.kD hh hg F1'
  have n1 : ∀ k j, ¬ k = 119 → ¬ Ptk 119 k j := fun k j h x => h x.1
  have k1 : dtI μ1 (g + 1) a = Int32.ofNat 19 := by rw [F1.i (n1 _ _ (by omega))]; exact k0
  have t1 : dtI μ1 (g + 2) a = oN (lxK (tx B) n e) := by rw [F1.i (n1 _ _ (by omega))]; exact t0
  have FF1 : Fr (Par g a) μ μ1 := (F0.wide (fun _ _ x => x.r (by decide))).tr (F1.wide (fun _ _ x => Or.inl (Ptk.c x)))
  have s59 : f_X1_readTest_59 118 g h (Int32.ofNat a) (oN (lxK (tx B) n e)) (dtSI μ (g + 2) a (oN (lxK (tx B) n e))) = if oN (lxK (tx B) n e) = 4 then (f_X1_readTest_122 118 g h (Int32.ofNat a) μ1) else if oN (lxK (tx B) n e) = 12 then (f_X1_readTest_96 118 g h (Int32.ofNat a) μ1) else f_X1_readTest_136 118 g h (Int32.ofNat a) μ1 := by
    rw [f_X1_readTest_59, C0.g118_0, o_bind, H0.1.v, o_bind, e1, o_bind]
  rw [st]
  unfold xTst
  by_cases q12 : lxK (tx B) n e = some 12
  · rw [if_pos (Eq.mpr c12 q12), if_pos q12, s59, if_neg (fun x => by have := Eq.mp c4 x; rw [q12] at this; exact absurd (Option.some.inj this) (by decide)), if_pos (Eq.mpr c12 q12)]
    obtain ⟨μ2, e2, F2, R2⟩ := p_who C1 H1 HA1 hg ha
    have C2 := C1.kept F2
    have HA2 := HA1.kD hh hg (F2.wide (fun _ _ x => x.g))
    have FF2 := FF1.tr (F2.wide (fun _ _ x => x.r (by decide)))
    cases r : xOld (tx B) n (hpn A) (hs A 3) (lxE (tx B) n e) with
    | error x =>
      rw [r] at e2 R2
      rw [xB_e]
      refine ⟨μ2, ?_, FF2, R2⟩
      rw [f_X1_readTest_96, o_Rv C1.s118, o_bind, e2, o_call, if_pos bI_f, f_X1_readTest_120, f_X1_readTest_121, show (0 : Int32) = Int32.ofNat 0 from rfl, o_ret0']; rfl
    | ok p =>
      rw [r] at e2 R2
      obtain ⟨w2, H2⟩ := R2
      rw [xB_o]
      obtain ⟨μ3, e3, F3, R3⟩ := p_rname C2 H2 HA2 hg ha
      have FF3 := FF2.tr (F3.wide (fun _ _ x => x.r (by decide)))
      cases r3 : xOld (tx B) n (hrn A) (hs A 0) p.2 with
      | error x =>
        rw [r3] at e3 R3
        rw [xB_e]
        refine ⟨μ3, ?_, FF3, R3⟩
        rw [f_X1_readTest_96, o_Rv C1.s118, o_bind, e2, o_call, if_neg bI_t, o_Rv C2.s118, o_bind, e3, o_call, if_pos bI_f, f_X1_readTest_120, f_X1_readTest_121, show (0 : Int32) = Int32.ofNat 0 from rfl, o_ret0']; rfl
      | ok y =>
        rw [r3] at e3 R3
        obtain ⟨w3, H3⟩ := R3
        rw [xB_o]
        refine ⟨μ3, ?_, FF3, ⟨?_, fun _ => ?_, fun _ => w3, fun x => absurd x (show ¬ 19 = 15 by decide), fun x => absurd x.2 (show ¬ 12 = 20 by decide), fun _ => ?_⟩, H3⟩
        · rw [f_X1_readTest_96, o_Rv C1.s118, o_bind, e2, o_call, if_neg bI_t, o_Rv C2.s118, o_bind, e3, o_call, if_neg bI_t, f_X1_readTest_121, show (1 : Int32) = Int32.ofNat 1 from rfl, o_ret1']; rfl
        · rw [F3.i (fun x => by have := x.n (by omega); omega), F2.i (fun x => by have := x.n (by omega); omega)]; exact k1
        · rw [F3.i (fun x => by have := x.n (by omega); omega)]; exact w2
        · rw [F3.i (fun x => by have := x.n (by omega); omega), F2.i (fun x => by have := x.n (by omega); omega), t1, q12]; rfl
  · rw [if_neg (fun x => q12 (Eq.mp c12 x)), if_neg q12]
    by_cases q4 : lxK (tx B) n e = some 4
    · rw [if_pos (Eq.mpr c4 q4), if_pos q4, s59, if_pos (Eq.mpr c4 q4)]
      have nd := HA1.nd
      obtain ⟨μ2, e2, F2, R2⟩ := p_what C1 H1 hg ha (p_passD H1 nd) (fun y hy => by have := xDr_lt hy; omega)
      have FF2 := FF1.tr (F2.wide (fun _ _ x => x.r (by decide)))
      have es : f_X1_readTest_122 118 g h (Int32.ofNat a) μ1 = some (bI (xOk (xDr (tx B) n (hs A 1) (lxE (tx B) n e))), μ2) := by
        rw [f_X1_readTest_122, HA1.g1, o_bind, o_Rv C1.s118, o_bind, e2, o_call, o_bI]
      rw [es]
      cases r : xDr (tx B) n (hs A 1) (lxE (tx B) n e) with
      | error x =>
        rw [r] at R2
        rw [xB_e]
        exact ⟨μ2, rfl, FF2, R2⟩
      | ok d =>
        rw [r] at R2
        obtain ⟨w2, H2⟩ := R2
        rw [xB_o]
        refine ⟨μ2, rfl, FF2, ⟨?_, fun x => ?_, fun _ => w2, fun x => absurd x (show ¬ 19 = 15 by decide), fun x => absurd x.2 (show ¬ 4 = 20 by decide), fun _ => ?_⟩, H2⟩
        · rw [F2.i (fun x => by have := x.n (by omega); omega)]; exact k1
        · exfalso
          unfold rWho at x
          rw [rw0, rw4] at x
          rcases x with x | x | x | x | x
          · omega
          · omega
          · omega
          · omega
          · exact x.2 rfl
        · rw [F2.i (fun x => by have := x.n (by omega); omega), t1, q4]; rfl
    · rw [if_neg (fun x => q4 (Eq.mp c4 x)), if_neg q4]
      by_cases q20 : lxK (tx B) n e = some 20
      · rw [if_pos (Eq.mpr c20 q20), if_pos q20, s59, if_neg (fun x => q4 (Eq.mp c4 x)), if_neg (fun x => q12 (Eq.mp c12 x))]
        obtain ⟨μ2, e2, F2, R2⟩ := p_who C1 H1 HA1 hg ha
        have C2 := C1.kept F2
        have FF2 := FF1.tr (F2.wide (fun _ _ x => x.r (by decide)))
        cases r : xOld (tx B) n (hpn A) (hs A 3) (lxE (tx B) n e) with
        | error x =>
          rw [r] at e2 R2
          rw [xB_e]
          refine ⟨μ2, ?_, FF2, R2⟩
          rw [f_X1_readTest_136, o_Rv C1.s118, o_bind, e2, o_call, if_pos bI_f, f_X1_readTest_171, f_X1_readTest_172, show (0 : Int32) = Int32.ofNat 0 from rfl, o_ret0']; rfl
        | ok p =>
          rw [r] at e2 R2
          obtain ⟨w2, H2⟩ := R2
          rw [xB_o]
          obtain ⟨μ3, e3, F3, R3⟩ := p_cmp C2 H2 hg ha
          have C3 := C2.kept F3
          have FF3 := FF2.tr (F3.wide (fun _ _ x => x.r (by decide)))
          cases r3 : xCmp (tx B) n p.2 with
          | error x =>
            rw [r3] at e3 R3
            rw [xB_e]
            refine ⟨μ3, ?_, FF3, R3⟩
            rw [f_X1_readTest_136, o_Rv C1.s118, o_bind, e2, o_call, if_neg bI_t, o_Rv C2.s118, o_bind, e3, o_call, if_pos bI_f, f_X1_readTest_171, f_X1_readTest_172, show (0 : Int32) = Int32.ofNat 0 from rfl, o_ret0']; rfl
          | ok c =>
            rw [r3] at e3 R3
            obtain ⟨w3, H3⟩ := R3
            rw [xB_o]
            obtain ⟨μ4, e4, F4, R4⟩ := p_what C3 H3 hg ha (H3.passNum (lo := 0) (hi := 8) (by decide) (by decide)) (fun y hy => by have := (xNum_le hy).1; omega)
            have e4' : f_X1_readWhat 118 g (Int32.ofNat a) (0 : Int32) (8 : Int32) μ3 = some (bI (xOk (xNum (tx B) n 0 8 c.2)), μ4) := e4
            have FF4 := FF3.tr (F4.wide (fun _ _ x => x.r (by decide)))
            cases r4 : xNum (tx B) n 0 8 c.2 with
            | error x =>
              rw [r4] at e4' R4
              rw [xB_e]
              refine ⟨μ4, ?_, FF4, R4⟩
              rw [f_X1_readTest_136, o_Rv C1.s118, o_bind, e2, o_call, if_neg bI_t, o_Rv C2.s118, o_bind, e3, o_call, if_neg bI_t, o_Rv C3.s118, o_bind, e4', o_call, if_pos bI_f, f_X1_readTest_171, f_X1_readTest_172, show (0 : Int32) = Int32.ofNat 0 from rfl, o_ret0']; rfl
            | ok v =>
              rw [r4] at e4' R4
              obtain ⟨w4, H4⟩ := R4
              rw [xB_o]
              refine ⟨μ4, ?_, FF4, ⟨?_, fun _ => ?_, fun _ => w4, fun x => absurd x (show ¬ 19 = 15 by decide), fun _ => ?_, fun _ => ?_⟩, H4⟩
              · rw [f_X1_readTest_136, o_Rv C1.s118, o_bind, e2, o_call, if_neg bI_t, o_Rv C2.s118, o_bind, e3, o_call, if_neg bI_t, o_Rv C3.s118, o_bind, e4', o_call, if_neg bI_t, f_X1_readTest_172, show (1 : Int32) = Int32.ofNat 1 from rfl, o_ret1']; rfl
              · rw [F4.i (fun x => by have := x.n (by omega); omega), F3.i (fun x => by have := x.n (by omega); omega), F2.i (fun x => by have := x.n (by omega); omega)]; exact k1
              · rw [F4.i (fun x => by have := x.n (by omega); omega), F3.i (fun x => by have := x.n (by omega); omega)]; exact w2
              · rw [F4.i (fun x => by have := x.n (by omega); omega)]; exact w3
              · rw [F4.i (fun x => by have := x.n (by omega); omega), F3.i (fun x => by have := x.n (by omega); omega), F2.i (fun x => by have := x.n (by omega); omega), t1, q20]; rfl
      · obtain ⟨μ2, e2, F2, R2⟩ := p_flaw (w := 2) H0
        rw [if_neg (fun x => q20 (Eq.mp c20 x)), if_neg q20]
        refine ⟨μ2, ?_, (F0.wide (fun _ _ x => x.r (by decide))).tr (F2.wide (fun _ _ x => Or.inl x)), R2⟩
        rw [show (2 : Int32) = Int32.ofNat 2 from rfl, e2, o_call, o_bI]; rfl
