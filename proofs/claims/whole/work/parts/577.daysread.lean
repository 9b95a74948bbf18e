/-! PURE 9999: the days' text, its loop, the program -/
theorem xDl_W {u : Nat → Nat} {n : Nat} {A : aH} : ∀ (m : Nat) (S : aY) (e : Nat) (y : aY × Nat), sWF A S → xDl u n A m S e = .ok y → sWF A y.1
  | 0, S, e, y, W, h => by
    rw [xDl] at h
    rw [← Except.ok.inj h]; exact W
  | m + 1, S, e, y, W, h => by
    rw [xDl] at h
    by_cases q : lxT u n e = 0
    · rw [if_pos q] at h
      rw [← Except.ok.inj h]; exact W
    · rw [if_neg q] at h
      obtain ⟨z, hz, h⟩ := xB_ok h
      exact xDl_W m z.1 z.2 y (xEnd_W (fun z hz => xRow_ok W hz) hz) h
theorem xDays_W {u : Nat → Nat} {n : Nat} {A : aH} {y : aY × Nat} (h : xDays u n A = .ok y) : sWF A y.1 ∧ sN y.1 = 0 := by
  unfold xDays at h
  obtain ⟨z, hz, h⟩ := xB_ok h
  have W := xDl_W _ _ _ _ s00_W hz
  by_cases q : sN z.1 = 0
  · rw [if_pos q] at h
    rw [← Except.ok.inj h]; exact ⟨W, q⟩
  · rw [if_neg q] at h
    exact absurd h (fun x => nomatch x)
theorem ri25 {g h n L : Nat} {B : Nat → Int32} {A : aH} (hL : n ≤ L ∧ L < 100000) (hh : h = 12 ∨ h = 25) (hg : g = 38 ∨ g = 45) : ∀ (m e k f : Nat) (S : aY) (μ : dtM), n < e + m → k ≤ e → m < f → CX μ → PDs μ g S → sWF A S → PTk μ 119 n B e → PH μ h A → ∃ μ', f_X1_readInto_25 f 118 g h (Int32.ofNat L) (bI true) (Int32.ofNat k) μ = f_X1_readInto_129 118 g (bI (xOk (xDl (tx B) n A m S e))) μ' ∧ Fr (Pst g) μ μ' ∧ PRd μ' n B g (xDl (tx B) n A m S e)
  | _, _, _, 0, _, _, _, _, hf, _, _, _, _, _ => absurd hf (Nat.not_lt_zero _)
  | 0, e, k, f + 1, S, μ, hm', hk, hf, C, D, W, H, HA => by
    have := H.2.1
    omega
  | m + 1, e, k, f + 1, S, μ, hm', hk, hf, C, D, W, H, HA => by
    have en := H.2.1
    have ov := p_over H
    have st : f_X1_readInto_25 (f + 1) 118 g h (Int32.ofNat L) (bI true) (Int32.ofNat k) μ = if bI (decide (lxT (tx B) n e = 0)) = 0 then (if oN (lxK (tx B) n e) = (22 : Int32) then (opCall (f_X1_readEnd 118 g μ) fun x56 μ54 => f_X1_readInto_123 (f_X1_readInto_25 f) 118 g h (Int32.ofNat L) x56 (Int32.ofNat k) μ54) else (opCall (f_X1_beginStep 118 g μ) fun x26 μ24 => if x26 = (-1 : Int32) then (f_X1_readInto_120 (f_X1_readInto_25 f) 118 g h (Int32.ofNat L) (Int32.ofNat k) μ24) else ((opRv 1 μ24 118).bind fun _ => opCall (f_X1_readTest 118 g h x26 μ24) fun x33 μ31 => if x33 = 0 then (f_X1_readInto_120 (f_X1_readInto_25 f) 118 g h (Int32.ofNat L) (Int32.ofNat k) μ31) else ((opRv 1 μ31 118).bind fun _ => opCall (f_X1_readRest 118 g h x26 μ31) fun x40 μ38 => if x40 = 0 then (f_X1_readInto_120 (f_X1_readInto_25 f) 118 g h (Int32.ofNat L) (Int32.ofNat k) μ38) else ((opGR 1 0 μ38 118).bind fun x44 => (opRv 8 μ38 x44).bind fun _ => opCall (f_X8_passSign x44 (59 : Int32) μ38) fun x49 μ47 => if x49 = 0 then (f_X1_readInto_120 (f_X1_readInto_25 f) 118 g h (Int32.ofNat L) (Int32.ofNat k) μ47) else (f_X1_readInto_121 (f_X1_readInto_25 f) 118 g h (Int32.ofNat L) (Int32.ofNat k) (1 : Int32) μ47)))))) else (f_X1_readInto_129 118 g (bI true) μ) := by
      rw [f_X1_readInto_25, if_neg (show ¬ bI true = 0 from (by decide : ¬ bI true = 0)), if_neg (show ¬ Int32.ofNat L < Int32.ofNat k by rw [z_lt (by omega) (by omega)]; omega), C.g118_0, o_bind, H.1.v, o_bind, ov, o_call, C.g118_0, o_bind, H.g6, o_bind, o_Rv C.s118, o_bind, o_bind]
    have c22 : (oN (lxK (tx B) n e) = (22 : Int32)) = (lxK (tx B) n e = some 22) := oN_eqk (fun j h => lxK_lt h) (by decide)
    have one : ∃ μ1, (if oN (lxK (tx B) n e) = (22 : Int32) then (opCall (f_X1_readEnd 118 g μ) fun x56 μ54 => f_X1_readInto_123 (f_X1_readInto_25 f) 118 g h (Int32.ofNat L) x56 (Int32.ofNat k) μ54) else (opCall (f_X1_beginStep 118 g μ) fun x26 μ24 => if x26 = (-1 : Int32) then (f_X1_readInto_120 (f_X1_readInto_25 f) 118 g h (Int32.ofNat L) (Int32.ofNat k) μ24) else ((opRv 1 μ24 118).bind fun _ => opCall (f_X1_readTest 118 g h x26 μ24) fun x33 μ31 => if x33 = 0 then (f_X1_readInto_120 (f_X1_readInto_25 f) 118 g h (Int32.ofNat L) (Int32.ofNat k) μ31) else ((opRv 1 μ31 118).bind fun _ => opCall (f_X1_readRest 118 g h x26 μ31) fun x40 μ38 => if x40 = 0 then (f_X1_readInto_120 (f_X1_readInto_25 f) 118 g h (Int32.ofNat L) (Int32.ofNat k) μ38) else ((opGR 1 0 μ38 118).bind fun x44 => (opRv 8 μ38 x44).bind fun _ => opCall (f_X8_passSign x44 (59 : Int32) μ38) fun x49 μ47 => if x49 = 0 then (f_X1_readInto_120 (f_X1_readInto_25 f) 118 g h (Int32.ofNat L) (Int32.ofNat k) μ47) else (f_X1_readInto_121 (f_X1_readInto_25 f) 118 g h (Int32.ofNat L) (Int32.ofNat k) (1 : Int32) μ47)))))) = f_X1_readInto_25 f 118 g h (Int32.ofNat L) (bI (xOk (xEnd (tx B) n (xStp (tx B) n A S e)))) (Int32.ofNat (k + 1)) μ1 ∧ Fr (Pst g) μ μ1 ∧ PRd μ1 n B g (xEnd (tx B) n (xStp (tx B) n A S e)) := by
      by_cases q22 : lxK (tx B) n e = some 22
      · obtain ⟨μ1, e1, F1, R1⟩ := p_end22 (A := A) C H hg D W q22
        refine ⟨μ1, ?_, F1, R1⟩
        rw [if_pos (Eq.mpr c22 q22), e1, o_call, f_X1_readInto_123, show (1 : Int32) = Int32.ofNat 1 from rfl, z_add]
      · obtain ⟨μ1, e1, F1, R1⟩ := p_stepB (E := f_X1_readInto_120 (f_X1_readInto_25 f) 118 g h (Int32.ofNat L) (Int32.ofNat k)) (G := f_X1_readInto_121 (f_X1_readInto_25 f) 118 g h (Int32.ofNat L) (Int32.ofNat k) (1 : Int32)) C H HA hh hg D W q22
        refine ⟨μ1, ?_, F1, R1⟩
        rw [if_neg (fun x => q22 (Eq.mp c22 x)), e1]
        cases q : xOk (xEnd (tx B) n (xStp (tx B) n A S e)) with
        | true => rw [if_pos rfl, f_X1_readInto_121, f_X1_readInto_123, show (1 : Int32) = Int32.ofNat 1 from rfl, z_add]; rfl
        | false => rw [if_neg (fun x => nomatch x), f_X1_readInto_120, f_X1_readInto_121, f_X1_readInto_123, show (1 : Int32) = Int32.ofNat 1 from rfl, z_add]; rfl
    rw [st, xDl]
    by_cases q : lxT (tx B) n e = 0
    · rw [if_pos q, if_neg (by rw [decide_eq_true q]; decide)]
      exact ⟨μ, rfl, Fr.rf, D, H⟩
    · rw [if_neg q, if_pos (by rw [decide_eq_false q]; decide)]
      obtain ⟨μ1, e1, F1, R1⟩ := one
      rw [e1]
      cases r : xEnd (tx B) n (xStp (tx B) n A S e) with
      | error x =>
        rw [r] at R1
        obtain ⟨f', hf'⟩ : ∃ f', f = f' + 1 := ⟨f - 1, by omega⟩
        rw [xB_e]
        refine ⟨μ1, ?_, F1, R1⟩
        rw [hf', f_X1_readInto_25, if_pos (show bI (xOk (Except.error x : aX (aY × Nat))) = 0 from (by decide : bI false = 0))]
      | ok y =>
        have on := xEnd_on xStp_m r
        have W1 := xEnd_W (fun z hz => xRow_ok W hz) r
        rw [r] at R1
        obtain ⟨D1, H1⟩ := R1
        have HA1 : PH μ1 h A := HA.kD hh hg (F1.wide (fun k j x => by
          rcases x with x | x | x | x
          · exact Or.inl x
          · exact Or.inr x.1
          · exact Or.inr (by omega)
          · exact Or.inr (by omega)))
        obtain ⟨μ2, e2, F2, R2⟩ := ri25 hL hh hg m y.2 (k + 1) f y.1 μ1 (by omega) (by omega) (by omega) (C.kept F1) D1 W1 H1 HA1
        rw [xB_o]
        exact ⟨μ2, e2, F1.tr F2, R2⟩
def PRz (μ : dtM) (n : Nat) (B : Nat → Int32) (g : Nat) (r : aX (aY × Nat)) : Prop := match r with
  | .ok y => PDs μ g y.1 ∧ PTk μ 119 n B y.2 ∧ dtI μ g 0 = Int32.ofNat 1
  | .error x => PFl μ 119 x
theorem p_129d {μ : dtM} {n g : Nat} {B : Nat → Int32} {A : aH} {r : aX (aY × Nat)} (C : CX μ) (hg : g = 38 ∨ g = 45) (R : PRd μ n B g r) (hW : ∀ y, r = .ok y → sWF A y.1) : ∃ μ', f_X1_readInto_129 118 g (bI (xOk r)) μ = some (bI (xOk (xB r (fun S e => if sN S = 0 then (.ok (S, e) : aX (aY × Nat)) else .error (flt (tx B) n e 2)))), μ') ∧ Fr (Pst g) μ μ' ∧ PRz μ' n B g (xB r (fun S e => if sN S = 0 then (.ok (S, e) : aX (aY × Nat)) else .error (flt (tx B) n e 2))) := by
  have e162 : ∀ ν, f_X1_readInto_162 ν = some (bI false, ν) := fun ν => by rw [f_X1_readInto_162, f_X1_readInto_163, show (0 : Int32) = Int32.ofNat 0 from rfl, o_ret0']
  have s0 := (C.dShw hg).1
  cases r with
  | error x =>
    have F1 : Fr (fun kk j => kk = g ∧ j = 0) μ (dtSI μ g 0 0) := Fr.SI ⟨rfl, rfl⟩
    rw [xB_e]
    refine ⟨dtSI μ g 0 0, ?_, F1.wide (fun kk j x => Or.inr (Or.inl (by omega))), R.st (by omega)⟩
    rw [show bI (xOk (Except.error x : aX (aY × Nat))) = (0 : Int32) from bI_f, f_X1_readInto_129, o_PZ0 s0, o_bind, if_pos rfl, e162]; rfl
  | ok y =>
    obtain ⟨D, H⟩ := R
    have n3 := (hW y rfl).1.2.2
    have F1 : Fr (fun kk j => kk = g ∧ j = 0) μ (dtSI μ g 0 1) := Fr.SI ⟨rfl, rfl⟩
    have C1 := C.kept F1
    have H1 : PTk (dtSI μ g 0 1) 119 n B y.2 := H.st (by omega) (by omega)
    have g2 : opGI 1 2 (dtSI μ g 0 1) 118 = some (Int32.ofNat (sN y.1)) := by rw [o_GI C1.s118, F1.i (by omega), D.2.2.1]
    rw [xB_o]
    by_cases q : sN y.1 = 0
    · rw [if_pos q]
      refine ⟨dtSI μ g 0 1, ?_, F1.wide (fun kk j x => Or.inr (Or.inl (by omega))), ?_, H1, by rw [m_I_SI, if_pos ⟨rfl, rfl⟩]; rfl⟩
      · rw [show bI (xOk (Except.ok y : aX (aY × Nat))) = (1 : Int32) from rfl, f_X1_readInto_129, o_PZ1 s0, o_bind, if_neg (by decide), g2, o_bind, if_pos (by rw [q]; decide), f_X1_readInto_158, f_X1_readInto_163, show (1 : Int32) = Int32.ofNat 1 from rfl, o_ret1']; rfl
      · obtain ⟨a, b, c, d, f⟩ := D
        exact ⟨by rw [F1.i (by omega)]; exact a, by rw [F1.i (by omega)]; exact b, by rw [F1.i (by omega)]; exact c, fun i hi => by rw [F1.i (by omega)]; exact d i hi, f.kept F1 (by intros; omega)⟩
    · rw [if_neg q]
      obtain ⟨μ2, e2, F2, R2⟩ := p_flaw (w := 2) H1
      refine ⟨μ2, ?_, (F1.wide (fun kk j x => Or.inr (Or.inl (by omega)))).tr (F2.wide (fun _ _ x => Or.inl x)), R2⟩
      rw [show bI (xOk (Except.ok y : aX (aY × Nat))) = (1 : Int32) from rfl, f_X1_readInto_129, o_PZ1 s0, o_bind, if_neg (by decide), g2, o_bind, if_neg (show ¬ Int32.ofNat (sN y.1) = 0 by rw [show (0 : Int32) = Int32.ofNat 0 from rfl, z_eq (by omega) (by decide)]; exact q), C1.g118_0, o_bind, H1.1.v, o_bind, show (2 : Int32) = Int32.ofNat 2 from rfl, e2, o_call, if_pos (by decide), e162]; rfl
theorem p_readD {μ : dtM} {B : aB} {A : aH} {n g h : Nat} (C : CX μ) (H : PB μ B) (HA : PH μ h A) (hh : h = 12 ∨ h = 25) (hg : g = 38 ∨ g = 45) (hn : n ≤ B.1) : ∃ μ', f_X1_readInto 118 g h 11 (Int32.ofNat n) μ = some (bI (xOk (xDays (tx B.2.1) n A)), μ') ∧ Fw (fun k j => (g ≤ k ∧ k ≤ g + 6) ∨ (k = 119 ∧ 1 ≤ j ∧ j ≤ 9) ∨ k = 121 ∨ (k = 118 ∧ j = 2)) μ μ' ∧ PRz μ' n B.2.1 g (xDays (tx B.2.1) n A) ∧ ∀ j, dtR μ' 0 j = dtR μ 0 j := by
  have n9 := H.1.1
  have s0 := (C.dShw hg).1
  obtain ⟨m1, e1, F1, d0, d1, d2⟩ := p_clearD s0
  have C1 := C.kept F1
  have F2 : Fr (fun k j => k = 118 ∧ j = 2) m1 (dtSI m1 118 2 (Int32.ofNat 0)) := Fr.SI ⟨rfl, rfl⟩
  have C2 := C1.kept F2
  have B2 : PB (dtSI m1 118 2 (Int32.ofNat 0)) B := (H.kept F1 (by intros; omega)).kept F2 (by intros; omega)
  obtain ⟨m3, e3, F3, K3, r3⟩ := p_begin (c := 119) C2 B2 (Or.inr rfl) hn
  have C3 := C2.keptW F3
  have HA3 : PH m3 h A := ((HA.kept F1 (by intros; omega)).kept F2 (by intros; omega)).keptW (C3.pShw hh) F3 (by intros; omega)
  have D3 : PDs m3 g s00 := by
    refine ⟨?_, ?_, ?_, fun i hi => absurd hi (Nat.not_lt_zero _), fun k hk => absurd hk (Nat.not_lt_zero _)⟩
    · rw [F3.i (by omega), F2.i (by omega)]; exact d1
    · rw [F3.i (by omega), F2.i (by omega)]; exact d2
    · rw [F3.i (by omega), m_I_SI, if_pos ⟨rfl, rfl⟩]; rfl
  obtain ⟨m4, e4, F4, R4⟩ := ri25 (g := g) (h := h) (n := n) (L := n) (B := B.2.1) (A := A) ⟨Nat.le_refl _, by omega⟩ hh hg (n + 1) 0 0 dtFuel s00 m3 (by omega) (Nat.le_refl _) (dtFuel_gt (by omega)) C3 D3 s00_W K3 HA3
  have C4 := C3.kept F4
  obtain ⟨m5, e5, F5, R5⟩ := p_129d (A := A) C4 hg R4 (fun y hy => xDl_W _ _ _ _ s00_W hy)
  refine ⟨m5, ?_, ?_, R5, fun j => by rw [F5.Ra, F4.Ra, r3, F2.Ra, F1.Ra]⟩
  · have e4' : f_X1_readInto_25 dtFuel 118 g h (Int32.ofNat n) (1 : Int32) (0 : Int32) m3 = f_X1_readInto_129 118 g (bI (xOk (xDl (tx B.2.1) n A (n + 1) s00 0))) m4 := e4
    rw [f_X1_readInto, o_Rv s0, o_bind, e1, o_bind, o_PI C1.s118, o_bind]
    have e3' : f_X8_begin 119 11 (Int32.ofNat n) (dtSI m1 118 2 (0 : Int32)) = some m3 := e3
    have C2' : CX (dtSI m1 118 2 (0 : Int32)) := C2
    rw [C2'.g118_0, o_bind, o_Rv C2'.s119, o_bind, e3', o_bind, e4', e5]; rfl
  · refine (((F1.wide (fun k j x => ?_)).tr (F2.wide (fun k j x => ?_))).w.tr (F3.wide (fun k j x => ?_))).tr ((F4.tr F5).w.wide (fun k j x => ?_))
    · omega
    · omega
    · omega
    · rcases x with x | x | x | x
      · have := x.1; have := x.2.1; have := x.2.2; omega
      · omega
      · omega
      · omega
theorem PDs.d {μ : dtM} {g : Nat} {S : aY} (H : PDs μ g S) (h0 : sN S = 0) (h1 : dtI μ g 0 = Int32.ofNat 1) : PD μ g (sD S) := by
  obtain ⟨_, b, _, _, e⟩ := H
  refine ⟨h1, fun _ => ⟨b, fun k hk => ?_⟩⟩
  obtain ⟨⟨p0, p1, p2, p3, p4, p5⟩, q⟩ := e k hk
  exact ⟨p0, p1, p2, p3, p4, p5, fun x => q (by
    have x : sT S 0 k = 19 ∨ sT S 0 k = 21 ∨ sT S 0 k = 22 := x
    unfold nst
    omega) (fun i hi => absurd hi (by omega))⟩
