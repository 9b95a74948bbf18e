/-! PURE 9996: the days' text, the rest of a row, the program -/
theorem p_97 {μ : dtM} {n e g h a k : Nat} {B : Nat → Int32} {A : aH} (C : CX μ) (H : PTk μ 119 n B e) (HA : PH μ h A) (hh : h = 12 ∨ h = 25) (hg : g = 38 ∨ g = 45) (ha : a < 60) (hk : dtI μ (g + 1) a = Int32.ofNat k) (k4 : k = 4 ∨ k = 16) : ∃ μ', f_X1_readRest_97 118 g h (Int32.ofNat a) μ = some (bI (xOk (xRow (tx B) n A k e)), μ') ∧ Fr (Par g a) μ μ' ∧ PRr μ' n B g a k (xRow (tx B) n A k e) := by
  unfold xRow
  rw [if_neg (by omega), if_pos k4]
  obtain ⟨μ2, e2, F2, R2⟩ := p_who C H HA hg ha
  have C2 := C.kept F2
  have HA2 := HA.kD hh hg (F2.wide (fun _ _ x => x.g))
  have FF2 : Fr (Par g a) μ μ2 := F2.wide (fun _ _ x => x.r (by decide))
  cases r : xOld (tx B) n (hpn A) (hs A 3) e with
  | error x =>
    rw [r] at e2 R2
    rw [xB_e]
    refine ⟨μ2, ?_, FF2, R2⟩
    rw [f_X1_readRest_97, o_Rv C.s118, o_bind, e2, o_call, if_pos bI_f, f_X1_readRest_127, f_X1_readRest_128, show (0 : Int32) = Int32.ofNat 0 from rfl, o_ret0']; rfl
  | ok p =>
    rw [r] at e2 R2
    obtain ⟨w2, H2⟩ := R2
    rw [xB_o]
    have nd := HA2.nd
    obtain ⟨μ3, e3, F3, R3⟩ := p_what C2 H2 hg ha (p_passD H2 nd) (fun y hy => by have := xDr_lt hy; omega)
    have FF3 := FF2.tr (F3.wide (fun _ _ x => x.r (by decide)))
    cases r3 : xDr (tx B) n (hs A 1) p.2 with
    | error x =>
      rw [r3] at e3 R3
      rw [xB_e]
      refine ⟨μ3, ?_, FF3, R3⟩
      rw [f_X1_readRest_97, o_Rv C.s118, o_bind, e2, o_call, if_neg bI_t, HA2.g1, o_bind, o_Rv C2.s118, o_bind, e3, o_call, if_pos bI_f, f_X1_readRest_127, f_X1_readRest_128, show (0 : Int32) = Int32.ofNat 0 from rfl, o_ret0']; rfl
    | ok d =>
      rw [r3] at e3 R3
      obtain ⟨w3, H3⟩ := R3
      rw [xB_o]
      refine ⟨μ3, ?_, FF3, ⟨?_, fun _ => ?_, fun _ => w3, fun x => ?_, fun x => ?_, fun x => ?_⟩, H3⟩
      · rw [f_X1_readRest_97, o_Rv C.s118, o_bind, e2, o_call, if_neg bI_t, HA2.g1, o_bind, o_Rv C2.s118, o_bind, e3, o_call, if_neg bI_t, f_X1_readRest_128, show (1 : Int32) = Int32.ofNat 1 from rfl, o_ret1']; rfl
      · rw [F3.i (fun x => by have := x.n (by omega); omega), F2.i (fun x => by have := x.n (by omega); omega)]; exact hk
      · rw [F3.i (fun x => by have := x.n (by omega); omega)]; exact w2
      · rw [rw0] at x; omega
      · have := x.1
        rw [rw0] at this; omega
      · rw [rw0] at x; omega
theorem p_56 {μ : dtM} {n e g h a : Nat} {B : Nat → Int32} {A : aH} (C : CX μ) (H : PTk μ 119 n B e) (HA : PH μ h A) (hh : h = 12 ∨ h = 25) (hg : g = 38 ∨ g = 45) (ha : a < 60) (hk : dtI μ (g + 1) a = Int32.ofNat 15) : ∃ μ', f_X1_readRest_56 118 g h (Int32.ofNat a) μ = some (bI (xOk (xRow (tx B) n A 15 e)), μ') ∧ Fr (Par g a) μ μ' ∧ PRr μ' n B g a 15 (xRow (tx B) n A 15 e) := by
  unfold xRow
  rw [if_pos rfl]
  obtain ⟨μ2, e2, F2, R2⟩ := p_who C H HA hg ha
  have C2 := C.kept F2
  have HA2 := HA.kD hh hg (F2.wide (fun _ _ x => x.g))
  have FF2 : Fr (Par g a) μ μ2 := F2.wide (fun _ _ x => x.r (by decide))
  cases r : xOld (tx B) n (hpn A) (hs A 3) e with
  | error x =>
    rw [r] at e2 R2
    rw [xB_e]
    refine ⟨μ2, ?_, FF2, R2⟩
    rw [f_X1_readRest_56, o_Rv C.s118, o_bind, e2, o_call, if_pos bI_f, f_X1_readRest_95, f_X1_readRest_96, show (0 : Int32) = Int32.ofNat 0 from rfl, o_ret0']; rfl
  | ok p =>
    rw [r] at e2 R2
    obtain ⟨w2, H2⟩ := R2
    rw [xB_o]
    have nd := HA2.nd
    obtain ⟨μ3, e3, F3, R3⟩ := p_what C2 H2 hg ha (p_passD H2 nd) (fun y hy => by have := xDr_lt hy; omega)
    have C3 := C2.kept F3
    have FF3 := FF2.tr (F3.wide (fun _ _ x => x.r (by decide)))
    cases r3 : xDr (tx B) n (hs A 1) p.2 with
    | error x =>
      rw [r3] at e3 R3
      rw [xB_e]
      refine ⟨μ3, ?_, FF3, R3⟩
      rw [f_X1_readRest_56, o_Rv C.s118, o_bind, e2, o_call, if_neg bI_t, HA2.g1, o_bind, o_Rv C2.s118, o_bind, e3, o_call, if_pos bI_f, f_X1_readRest_95, f_X1_readRest_96, show (0 : Int32) = Int32.ofNat 0 from rfl, o_ret0']; rfl
    | ok d =>
      rw [r3] at e3 R3
      obtain ⟨w3, H3⟩ := R3
      rw [xB_o]
      obtain ⟨μ4, e4, F4, R4⟩ := p_sndD C3 H3 hg ha
      have FF4 := FF3.tr (F4.wide (fun _ _ x => x.r (by decide)))
      cases r4 : xSnd (tx B) n d.2 with
      | error x =>
        rw [r4] at e4 R4
        rw [xB_e]
        refine ⟨μ4, ?_, FF4, R4⟩
        rw [f_X1_readRest_56, o_Rv C.s118, o_bind, e2, o_call, if_neg bI_t, HA2.g1, o_bind, o_Rv C2.s118, o_bind, e3, o_call, if_neg bI_t, o_Rv C3.s118, o_bind, e4, o_call, if_pos bI_f, f_X1_readRest_95, f_X1_readRest_96, show (0 : Int32) = Int32.ofNat 0 from rfl, o_ret0']; rfl
      | ok s =>
        rw [r4] at e4 R4
        obtain ⟨w4, H4⟩ := R4
        rw [xB_o]
        refine ⟨μ4, ?_, FF4, ⟨?_, fun _ => ?_, fun _ => ?_, fun _ => w4, fun x => absurd x.1 (show ¬ 15 = 19 by decide), fun x => absurd x (show ¬ 15 = 19 by decide)⟩, H4⟩
        · rw [f_X1_readRest_56, o_Rv C.s118, o_bind, e2, o_call, if_neg bI_t, HA2.g1, o_bind, o_Rv C2.s118, o_bind, e3, o_call, if_neg bI_t, o_Rv C3.s118, o_bind, e4, o_call, if_neg bI_t, f_X1_readRest_96, show (1 : Int32) = Int32.ofNat 1 from rfl, o_ret1']; rfl
        · rw [F4.i (fun x => by have := x.n (by omega); omega), F3.i (fun x => by have := x.n (by omega); omega), F2.i (fun x => by have := x.n (by omega); omega)]; exact hk
        · rw [F4.i (fun x => by have := x.n (by omega); omega), F3.i (fun x => by have := x.n (by omega); omega)]; exact w2
        · rw [F4.i (fun x => by have := x.n (by omega); omega)]; exact w3
theorem p_129 {μ : dtM} {n e g h a : Nat} {B : Nat → Int32} {A : aH} (C : CX μ) (H : PTk μ 119 n B e) (HA : PH μ h A) (hg : g = 38 ∨ g = 45) (ha : a < 60) (hk : dtI μ (g + 1) a = Int32.ofNat 17) : ∃ μ', f_X1_readRest_129 118 g h (Int32.ofNat a) μ = some (bI (xOk (xRow (tx B) n A 17 e)), μ') ∧ Fr (Par g a) μ μ' ∧ PRr μ' n B g a 17 (xRow (tx B) n A 17 e) := by
  unfold xRow
  rw [if_neg (by decide), if_neg (by decide), if_pos rfl]
  obtain ⟨μ2, e2, F2, R2⟩ := p_who C H HA hg ha
  have es : f_X1_readRest_129 118 g h (Int32.ofNat a) μ = some (bI (xOk (xOld (tx B) n (hpn A) (hs A 3) e)), μ2) := by
    rw [f_X1_readRest_129, o_Rv C.s118, o_bind, e2, o_call, o_bI]
  rw [es]
  have FF2 : Fr (Par g a) μ μ2 := F2.wide (fun _ _ x => x.r (by decide))
  cases r : xOld (tx B) n (hpn A) (hs A 3) e with
  | error x =>
    rw [r] at R2
    rw [xB_e]
    exact ⟨μ2, rfl, FF2, R2⟩
  | ok p =>
    rw [r] at R2
    obtain ⟨w2, H2⟩ := R2
    rw [xB_o]
    refine ⟨μ2, rfl, FF2, ⟨?_, fun _ => w2, fun x => ?_, fun x => absurd x (show ¬ 17 = 15 by decide), fun x => absurd x.1 (show ¬ 17 = 19 by decide), fun x => absurd x (show ¬ 17 = 19 by decide)⟩, H2⟩
    · rw [F2.i (fun x => by have := x.n (by omega); omega)]; exact hk
    · exfalso
      unfold rTwo rOne at x
      rw [rw0, rw4] at x
      omega
theorem p_137 {μ : dtM} {n e g a : Nat} {B : Nat → Int32} {A : aH} (C : CX μ) (H : PTk μ 119 n B e) (hg : g = 38 ∨ g = 45) (ha : a < 60) (hk : dtI μ (g + 1) a = Int32.ofNat 21) : ∃ μ', f_X1_readRest_137 118 g (Int32.ofNat a) μ = some (bI (xOk (xRow (tx B) n A 21 e)), μ') ∧ Fr (Par g a) μ μ' ∧ PRr μ' n B g a 21 (xRow (tx B) n A 21 e) := by
  unfold xRow
  rw [if_neg (by decide), if_neg (by decide), if_neg (by decide), if_pos rfl]
  obtain ⟨μ2, e2, F2, R2⟩ := p_what C H hg ha (H.passNum (lo := 1) (hi := 99) (by decide) (by decide)) (fun y hy => by have := (xNum_le hy).1; omega)
  have es : f_X1_readRest_137 118 g (Int32.ofNat a) μ = some (bI (xOk (xNum (tx B) n 1 99 e)), μ2) := by
    rw [f_X1_readRest_137, o_Rv C.s118, o_bind, show (1 : Int32) = Int32.ofNat 1 from rfl, show (99 : Int32) = Int32.ofNat 99 from rfl, e2, o_call, o_bI]
  rw [es]
  have FF2 : Fr (Par g a) μ μ2 := F2.wide (fun _ _ x => x.r (by decide))
  cases r : xNum (tx B) n 1 99 e with
  | error x =>
    rw [r] at R2
    rw [xB_e]
    exact ⟨μ2, rfl, FF2, R2⟩
  | ok p =>
    rw [r] at R2
    obtain ⟨w2, H2⟩ := R2
    rw [xB_o]
    refine ⟨μ2, rfl, FF2, ⟨?_, fun x => ?_, fun _ => w2, fun x => absurd x (show ¬ 21 = 15 by decide), fun x => absurd x.1 (show ¬ 21 = 19 by decide), fun x => absurd x (show ¬ 21 = 19 by decide)⟩, H2⟩
    · rw [F2.i (fun x => by have := x.n (by omega); omega)]; exact hk
    · exfalso
      unfold rWho at x
      rw [rw0, rw4] at x
      omega
theorem p_rest0 {μ : dtM} {n e g a k : Nat} {B : Nat → Int32} {A : aH} (H : PTk μ 119 n B e) (hk : dtI μ (g + 1) a = Int32.ofNat k) (hk2 : k = 18 ∨ k = 23) : xRow (tx B) n A k e = .ok ((0, 0, 0, 0), e) ∧ PRr μ n B g a k (.ok ((0, 0, 0, 0), e)) := by
  refine ⟨?_, ⟨hk, fun x => ?_, fun x => ?_, fun x => ?_, fun x => ?_, fun x => ?_⟩, H⟩
  · unfold xRow
    rw [if_neg (by omega), if_neg (by omega), if_neg (by omega), if_neg (by omega), if_neg (by omega)]
  · exfalso
    unfold rWho at x
    rw [rw0] at x
    omega
  · exfalso
    unfold rTwo rOne at x
    rw [rw0] at x
    omega
  · rw [rw0] at x; omega
  · have := x.1
    rw [rw0] at this; omega
  · rw [rw0] at x; omega
theorem z_kd {k c : Nat} (h : k < 24) (hc : c < 24) : (Int32.ofNat k = Int32.ofNat c) = (k = c) := z_eq (by omega) (by omega)
theorem p_rest {μ : dtM} {n e g h a k : Nat} {B : Nat → Int32} {A : aH} (C : CX μ) (H : PTk μ 119 n B e) (HA : PH μ h A) (hh : h = 12 ∨ h = 25) (hg : g = 38 ∨ g = 45) (ha : a < 60) (hk : dtI μ (g + 1) a = Int32.ofNat k) (sk : stK k) (n19 : ¬ k = 19) : ∃ μ', f_X1_readRest 118 g h (Int32.ofNat a) μ = some (bI (xOk (xRow (tx B) n A k e)), μ') ∧ Fr (Par g a) μ μ' ∧ PRr μ' n B g a k (xRow (tx B) n A k e) := by
  have st : f_X1_readRest 118 g h (Int32.ofNat a) μ = if Int32.ofNat k = 4 then (f_X1_readRest_97 118 g h (Int32.ofNat a) μ) else if Int32.ofNat k = 15 then (f_X1_readRest_56 118 g h (Int32.ofNat a) μ) else if Int32.ofNat k = 16 then (f_X1_readRest_97 118 g h (Int32.ofNat a) μ) else if Int32.ofNat k = 17 then (f_X1_readRest_129 118 g h (Int32.ofNat a) μ) else if Int32.ofNat k = 21 then (f_X1_readRest_137 118 g (Int32.ofNat a) μ) else f_X1_readRest_147 μ := by
    rw [f_X1_readRest, C.gd3 hg, o_bind, o_LI (C.sd1 hg) ha (by decide), hk, o_bind]
  rw [st]
  unfold stK at sk
  have m0 : ∀ k, (k = 18 ∨ k = 23) → dtI μ (g + 1) a = Int32.ofNat k → ∃ μ', f_X1_readRest_147 μ = some (bI (xOk (xRow (tx B) n A k e)), μ') ∧ Fr (Par g a) μ μ' ∧ PRr μ' n B g a k (xRow (tx B) n A k e) := fun k h1 h2 => by
    obtain ⟨x1, x2⟩ := p_rest0 (A := A) H h2 h1
    rw [x1]
    exact ⟨μ, by rw [f_X1_readRest_147, show (1 : Int32) = Int32.ofNat 1 from rfl, o_ret1']; rfl, Fr.rf, x2⟩
  rcases sk with rfl | rfl | rfl | rfl | rfl | rfl | rfl | rfl
  · rw [if_pos (by decide)]; exact p_97 C H HA hh hg ha hk (Or.inl rfl)
  · rw [if_neg (by decide), if_pos (by decide)]; exact p_56 C H HA hh hg ha hk
  · rw [if_neg (by decide), if_neg (by decide), if_pos (by decide)]; exact p_97 C H HA hh hg ha hk (Or.inr rfl)
  · rw [if_neg (by decide), if_neg (by decide), if_neg (by decide), if_pos (by decide)]; exact p_129 C H HA hg ha hk
  · rw [if_neg (by decide), if_neg (by decide), if_neg (by decide), if_neg (by decide), if_neg (by decide)]; exact m0 18 (Or.inl rfl) hk
  · exact absurd rfl n19
  · rw [if_neg (by decide), if_neg (by decide), if_neg (by decide), if_neg (by decide), if_pos (by decide)]; exact p_137 C H hg ha hk
  · rw [if_neg (by decide), if_neg (by decide), if_neg (by decide), if_neg (by decide), if_neg (by decide)]; exact m0 23 (Or.inr rfl) hk
theorem p_row {α : Type} {E K : dtM → Option α} {μ : dtM} {n e g h a k : Nat} {B : Nat → Int32} {A : aH} (C : CX μ) (H : PTk μ 119 n B e) (HA : PH μ h A) (hh : h = 12 ∨ h = 25) (hg : g = 38 ∨ g = 45) (ha : a < 60) (hk : dtI μ (g + 1) a = Int32.ofNat k) (sk : stK k) : ∃ μ', (opCall (f_X1_readTest 118 g h (Int32.ofNat a) μ) fun x33 μ31 => if x33 = 0 then E μ31 else ((opRv 1 μ31 118).bind fun _ => opCall (f_X1_readRest 118 g h (Int32.ofNat a) μ31) fun x40 μ38 => if x40 = 0 then E μ38 else K μ38)) = (if xOk (xRow (tx B) n A k e) = true then K μ' else E μ') ∧ Fr (Par g a) μ μ' ∧ PRr μ' n B g a k (xRow (tx B) n A k e) := by
  by_cases q : k = 19
  · subst q
    have x19 : xRow (tx B) n A 19 e = xTst (tx B) n A e := by
      unfold xRow
      rw [if_neg (by decide), if_neg (by decide), if_neg (by decide), if_neg (by decide), if_pos rfl]
    obtain ⟨μ1, e1, F1, R1⟩ := p_test19 C H HA hh hg ha hk
    rw [← x19] at e1 R1
    refine ⟨μ1, ?_, F1, R1⟩
    have C1 := C.kept F1
    cases r : xRow (tx B) n A 19 e with
    | error x =>
      rw [r] at e1
      rw [e1, o_call, if_pos bI_f, if_neg (show ¬ xOk (Except.error x : aX (aRw × Nat)) = true from fun z => nomatch z)]
    | ok y =>
      rw [r] at e1 R1
      have hk1 := R1.1.1
      have e2 : f_X1_readRest 118 g h (Int32.ofNat a) μ1 = some (bI true, μ1) := by
        rw [f_X1_readRest, C1.gd3 hg, o_bind, o_LI (C1.sd1 hg) ha (by decide), hk1, o_bind, if_neg (show ¬ Int32.ofNat (rwV 19 y.1 0) = 4 from (by decide : ¬ Int32.ofNat 19 = 4)), if_neg (show ¬ Int32.ofNat (rwV 19 y.1 0) = 15 from (by decide : ¬ Int32.ofNat 19 = 15)), if_neg (show ¬ Int32.ofNat (rwV 19 y.1 0) = 16 from (by decide : ¬ Int32.ofNat 19 = 16)), if_neg (show ¬ Int32.ofNat (rwV 19 y.1 0) = 17 from (by decide : ¬ Int32.ofNat 19 = 17)), if_neg (show ¬ Int32.ofNat (rwV 19 y.1 0) = 21 from (by decide : ¬ Int32.ofNat 19 = 21)), f_X1_readRest_147, show (1 : Int32) = Int32.ofNat 1 from rfl, o_ret1']
      rw [e1, o_call, if_neg bI_t, o_Rv C1.s118, o_bind, e2, o_call, if_neg (by decide), if_pos (show xOk (Except.ok y : aX (aRw × Nat)) = true from rfl)]
  · obtain ⟨μ1, e1, F1, R1⟩ := p_rest C H HA hh hg ha hk sk q
    have k24 : k < 24 := by
      unfold stK at sk
      omega
    have e0 : f_X1_readTest 118 g h (Int32.ofNat a) μ = some (bI true, μ) := by
      rw [f_X1_readTest, C.gd3 hg, o_bind, o_LI (C.sd1 hg) ha (by decide), hk, o_bind, if_neg (show ¬ Int32.ofNat k = (19 : Int32) by rw [show (19 : Int32) = Int32.ofNat 19 from rfl, z_kd k24 (by decide)]; exact q), show (1 : Int32) = Int32.ofNat 1 from rfl, o_ret1']
    refine ⟨μ1, ?_, F1, R1⟩
    rw [e0, o_call, if_neg (by decide), o_Rv C.s118, o_bind, e1, o_call]
    cases r : xRow (tx B) n A k e with
    | error x => rw [if_pos bI_f, if_neg (show ¬ xOk (Except.error x : aX (aRw × Nat)) = true from fun z => nomatch z)]
    | ok y => rw [if_neg bI_t, if_pos (show xOk (Except.ok y : aX (aRw × Nat)) = true from rfl)]
