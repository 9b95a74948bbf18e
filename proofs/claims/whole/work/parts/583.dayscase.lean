/-! PURE 99996: case days -/
theorem da103 : ∀ (n f i : Nat) (μ : dtM), i + n = 496 → n < f → CX μ → ∃ μ', f_X12_days_103 f 133 (Int32.ofNat i) μ = f_X12_days_132 133 μ' ∧ Fr (fun k j => k = 134 ∧ i ≤ j ∧ j < 496) μ μ' ∧ ∀ x, i ≤ x → x < 496 → dtI μ' 134 x = dtI μ 134 (2016 + x) := by
  intro n
  induction n with
  | zero =>
    intro f i μ e hf C
    cases f with
    | zero => omega
    | succ f =>
      refine ⟨μ, ?_, Fr.rf, fun x h1 h2 => absurd h2 (by omega)⟩
      rw [f_X12_days_103, if_pos (show (496 : Int32) ≤ Int32.ofNat i by rw [show (496 : Int32) = Int32.ofNat 496 from rfl, z_le (by decide) (by omega)]; omega)]
  | succ n ih =>
    intro f i μ e hf C
    cases f with
    | zero => omega
    | succ f =>
      have F1 : Fr (fun k j => k = 134 ∧ i ≤ j ∧ j < 496) μ (dtSI μ 134 i (dtI μ 134 (2016 + i))) := Fr.SI ⟨rfl, Nat.le_refl _, by omega⟩
      obtain ⟨μ2, e2, F2, g2⟩ := ih f (i + 1) _ (by omega) (by omega) (C.kept F1)
      refine ⟨μ2, ?_, F1.tr (F2.wide (fun k j x => ⟨x.1, by omega, by omega⟩)), fun x h1 h2 => ?_⟩
      · rw [← e2, f_X12_days_103, if_neg (show ¬ (496 : Int32) ≤ Int32.ofNat i by rw [show (496 : Int32) = Int32.ofNat 496 from rfl, z_le (by decide) (by omega)]; omega), C.g133_0, o_bind, o_bind, show (2016 : Int32) = Int32.ofNat 2016 from rfl, z_add, o_LI C.s134 (show 2016 + i < 2656 by omega) (by decide), o_bind, o_SI C.s134 (show i < 2656 by omega) (by decide), o_bind, show (1 : Int32) = Int32.ofNat 1 from rfl, z_add]
      · by_cases q : x = i
        · subst q
          rw [F2.i (by omega), m_I_SI, if_pos ⟨rfl, rfl⟩]
        · rw [g2 x (by omega) h2, m_I_SI, if_neg (by omega)]
theorem n_finD {μ : dtM} {A : aH} {S : aY} (C : CX μ) (D : MDs μ S) (W : sWF A S) (hn : sN S = 0) (h0 : M0f μ) : ∃ μ', f_X12_days_57 133 μ = some (Int32.ofNat (sC S), dtSI (dtSI μ' 133 16 (Int32.ofNat 0)) 133 2 (Int32.ofNat 0)) ∧ Fr (fun k j => k = 134 ∧ (j = 7 ∨ (136 ≤ j ∧ j < 496))) μ μ' ∧ MD μ' 0 (sD S) := by
  have w1 := W.1
  have hL : sL S ≤ 60 := by omega
  obtain ⟨m1, hm1⟩ : ∃ m, m = dtSI μ 134 7 (Int32.ofNat (sL S)) := ⟨_, rfl⟩
  have F1 : Fr (fun k j => k = 134 ∧ j = 7) μ m1 := by
    rw [hm1]; exact Fr.SI ⟨rfl, rfl⟩
  have C1 := C.kept F1
  obtain ⟨m2, e2, F2, g2⟩ := da103 360 dtFuel 136 m1 (by omega) (dtFuel_gt (by decide)) C1
  have C2 := C1.kept F2
  have FF : Fr (fun k j => k = 134 ∧ (j = 7 ∨ (136 ≤ j ∧ j < 496))) μ m2 := (F1.wide (fun k j x => by omega)).tr (F2.wide (fun k j x => by omega))
  have l23 : opLI 1 μ 134 (2023 : Int32) = some (Int32.ofNat (sL S)) := by
    rw [show (2023 : Int32) = Int32.ofNat 2023 from rfl, o_LI C.s134 (by decide) (by decide), D.2.1]
  have e2' : f_X12_days_103 dtFuel 133 (136 : Int32) m1 = f_X12_days_132 133 m2 := e2
  have cp : ∀ x p q, 136 ≤ x → x < 496 → p = x → q = 2016 + x → dtI m2 134 p = dtI μ 134 q := fun x p q h1 h2 a b => by
    rw [a, b, g2 x h1 h2, F1.i (by omega)]
  refine ⟨m2, ?_, FF, fun h => absurd h (show ¬ (1 : Nat) = 0 by decide), fun _ => ⟨?_, fun k hk => ?_⟩⟩
  · have e77 : f_X12_days_77 133 μ = f_X12_days_132 133 m2 := by
      rw [f_X12_days_77, o_GI C.s133, h0.1, o_bind, if_pos (by decide), C.g133_0, o_bind, o_bind, l23, o_bind, show (7 : Int32) = Int32.ofNat 7 from rfl, o_SI C.s134 (by decide) (by decide), o_bind, ← hm1, e2']
    rw [f_X12_days_57, o_GI C.s133, h0.1, o_bind, if_pos (by decide), o_GI C.s133, D.2.2.1, hn, o_bind, if_pos (by decide), e77, f_X12_days_132, o_GI C2.s133, FF.i (by omega), D.1, o_bind, C2.v133, o_bind, n_taken0 C2 (by rw [FF.i (by omega)]; exact h0.1), o_call]
  · rw [F2.i (by omega), hm1, m_I_SI, if_pos ⟨rfl, rfl⟩]; rfl
  · have hk' : k < sL S := hk
    obtain ⟨⟨p0, p1, p2, p3, p4, p5⟩, q⟩ := D.2.2.2.2 k hk'
    refine ⟨?_, fun x => ?_, fun x => ?_, fun x => ?_, fun x => ?_, fun x => ?_, fun x => ?_⟩
    · exact (cp (136 + 6 * k) _ (2152 + 6 * k) (by omega) (by omega) (by omega) (by omega)).trans p0
    · exact (cp (136 + 6 * k + 1) _ (2152 + 6 * k + 1) (by omega) (by omega) (by omega) (by omega)).trans (p1 x)
    · exact (cp (136 + 6 * k + 2) _ (2152 + 6 * k + 2) (by omega) (by omega) (by omega) (by omega)).trans (p2 x)
    · exact (cp (136 + 6 * k + 1) _ (2152 + 6 * k + 1) (by omega) (by omega) (by omega) (by omega)).trans (p3 x)
    · exact (cp (136 + 6 * k + 3) _ (2152 + 6 * k + 3) (by omega) (by omega) (by omega) (by omega)).trans (p4 x)
    · exact (cp (136 + 6 * k + 5) _ (2152 + 6 * k + 5) (by omega) (by omega) (by omega) (by omega)).trans (p5 x)
    · refine (cp (136 + 6 * k + 4) _ (2152 + 6 * k + 4) (by omega) (by omega) (by omega) (by omega)).trans (q ?_ (fun i hi => absurd hi (by omega)))
      have x : sT S 0 k = 19 ∨ sT S 0 k = 21 ∨ sT S 0 k = 22 := x
      unfold nst
      omega
theorem n_finX {μ : dtM} {w : Nat} (C : CX μ) (h : dtI μ 133 18 = Int32.ofNat w) (hw : 1 ≤ w ∧ w < 100) : f_X12_days_57 133 μ = some (-Int32.ofNat 1, dtSI (dtSI μ 133 16 (Int32.ofNat w)) 133 2 (Int32.ofNat 9)) := by
  have nz : ¬ Int32.ofNat w = (0 : Int32) := by
    rw [show (0 : Int32) = Int32.ofNat 0 from rfl, z_eq (by omega) (by decide)]; omega
  rw [f_X12_days_57, o_GI C.s133, h, o_bind, if_neg nz, f_X12_days_77, o_GI C.s133, h, o_bind, if_neg nz, f_X12_days_132, o_GI C.s133, o_bind, C.v133, o_bind, n_taken9 C h hw, o_call]
theorem n_finF {μ : dtM} {n e : Nat} {B : Nat → Int32} {S : aY} (D : MDs μ S) (H : MTk μ n B e) (h0 : M0f μ) (hN : ¬ sN S = 0 ∧ sN S ≤ 3) : ∃ μ', f_X12_days_57 133 μ = some (-Int32.ofNat 1, dtSI (dtSI μ' 133 16 (Int32.ofNat (flt (tx B) n e 2).1)) 133 2 (Int32.ofNat 9)) ∧ Fr Mcl μ μ' ∧ MFl μ' (flt (tx B) n e 2) := by
  have C := H.1.1
  obtain ⟨μ1, e1, F1, R1⟩ := n_fails (w := 2) H h0 (by decide)
  have C1 := C.kept F1
  refine ⟨μ1, ?_, F1, R1⟩
  obtain ⟨k1, k2, k3, k4⟩ := R1
  have nz : ¬ Int32.ofNat (flt (tx B) n e 2).1 = (0 : Int32) := by
    rw [show (0 : Int32) = Int32.ofNat 0 from rfl, z_eq (by omega) (by decide)]; omega
  rw [f_X12_days_57, o_GI C.s133, h0.1, o_bind, if_pos (by decide), o_GI C.s133, D.2.2.1, o_bind, if_neg (show ¬ Int32.ofNat (sN S) ≤ (0 : Int32) by rw [show (0 : Int32) = Int32.ofNat 0 from rfl, z_le (by omega) (by decide)]; omega), C.v133, o_bind, show (2 : Int32) = Int32.ofNat 2 from rfl, e1, o_call, f_X12_days_77, o_GI C1.s133, k1, o_bind, if_neg nz, f_X12_days_132, o_GI C1.s133, o_bind, C1.v133, o_bind, n_taken9 C1 k1 ⟨k3, k4⟩, o_call]
abbrev MTz : Nat → Nat → Prop := fun k j => (k = 133 ∧ 10 ≤ j ∧ j ≤ 23 ∧ ¬ j = 16) ∨ (k = 134 ∧ 2016 ≤ j) ∨ k = 140 ∨ k = 141
theorem n_readD {μ : dtM} {B : aB} {A : aH} {n : Nat} (C : CX μ) (H : MB μ B) (HA : MH μ 0 0 A) (hn : n ≤ B.1) (h3 : n ≤ 300) : ∃ μ', f_X12_days 133 (Int32.ofNat n) μ = f_X12_days_57 133 μ' ∧ Fr MTz μ μ' ∧ dtI μ' 133 10 = Int32.ofNat 0 ∧ MRd μ' n B.2.1 (xDl (tx B.2.1) n A (n + 1) s00 0) := by
  have n9 := H.1.1
  obtain ⟨m1, e1, F1, t1, K1, h1⟩ := n_begin (most := 300) C H hn ⟨h3, by decide⟩
  have C1 := C.kept F1
  obtain ⟨m2, hm2⟩ : ∃ m, m = dtSI m1 134 2023 (Int32.ofNat 0) := ⟨_, rfl⟩
  have F2 : Fr (fun k j => k = 134 ∧ j = 2023) m1 m2 := by
    rw [hm2]; exact Fr.SI ⟨rfl, rfl⟩
  have C2 := C1.kept F2
  obtain ⟨m3, hm3⟩ : ∃ m, m = dtSI m2 133 22 (Int32.ofNat 0) := ⟨_, rfl⟩
  have F3 : Fr (fun k j => k = 133 ∧ j = 22) m2 m3 := by
    rw [hm3]; exact Fr.SI ⟨rfl, rfl⟩
  have C3 := C2.kept F3
  obtain ⟨m4, hm4⟩ : ∃ m, m = dtSI m3 133 23 (Int32.ofNat 0) := ⟨_, rfl⟩
  have F4 : Fr (fun k j => k = 133 ∧ j = 23) m3 m4 := by
    rw [hm4]; exact Fr.SI ⟨rfl, rfl⟩
  have C4 := C3.kept F4
  have F24 : Fr (fun k j => (k = 134 ∧ j = 2023) ∨ (k = 133 ∧ (j = 22 ∨ j = 23))) m1 m4 := (F2.wide (fun k j x => by omega)).tr ((F3.wide (fun k j x => by omega)).tr (F4.wide (fun k j x => by omega)))
  have K4 : MTk m4 n B.2.1 0 := K1.kept2 F24 (by intros; omega) (by intros; omega)
  have h4 : M0f m4 := h1.kept2 F24 (by omega)
  have HA4 : MH m4 0 0 A := (HA.keptAt F1 (by intros; omega) (by intros; omega)).keptAt F24 (by intros; omega) (by intros; omega)
  have D4 : MDs m4 s00 := by
    refine ⟨?_, ?_, ?_, fun i hi => absurd hi (Nat.not_lt_zero _), fun k hk => absurd hk (Nat.not_lt_zero _)⟩
    · rw [hm4, m_I_SI, if_pos ⟨rfl, rfl⟩]; rfl
    · rw [F4.i (by omega), F3.i (by omega), hm2, m_I_SI, if_pos ⟨rfl, rfl⟩]; rfl
    · rw [F4.i (by omega), hm3, m_I_SI, if_pos ⟨rfl, rfl⟩]; rfl
  obtain ⟨m5, e5, F5, R5⟩ := da38 (n := n) (B := B.2.1) (A := A) (n + 1) 0 dtFuel s00 m4 (by omega) (dtFuel_gt (by omega)) D4 s00_W HA4 K4 h4
  refine ⟨m5, ?_, ?_, ?_, R5⟩
  · have e5' : f_X12_days_38 dtFuel 133 (1 : Int32) m4 = f_X12_days_57 133 m5 := e5
    rw [f_X12_days, C.v133, o_bind, show (300 : Int32) = Int32.ofNat 300 from rfl, e1, o_call, if_neg (show ¬ bI true = 0 from (by decide : ¬ bI true = 0)), C1.g133_0, o_bind, show (2023 : Int32) = Int32.ofNat 2023 from rfl, show (0 : Int32) = Int32.ofNat 0 from rfl, o_SI C1.s134 (show 2023 < 2656 by decide) (by decide), o_bind, ← hm2, o_PI C2.s133, o_bind, ← hm3, o_PI C3.s133, o_bind, ← hm4, e5']
  · refine ((F1.wide (fun k j x => ?_)).tr (F24.wide (fun k j x => ?_))).tr (F5.wide (fun k j x => ?_))
    · omega
    · omega
    · rcases x with x | x | x | x
      · have := x.1
        have := x.2.1
        have := x.2.2
        omega
      · omega
      · omega
      · omega
  · rw [F5.i (fun x => by
      rcases x with x | x | x | x
      · have := x.2.1; omega
      · omega
      · omega
      · omega), F24.i (by omega)]
    exact t1
abbrev PTg (g : Nat) : Nat → Nat → Prop := fun k j => (g ≤ k ∧ k ≤ g + 6) ∨ (k = 119 ∧ 1 ≤ j) ∨ k = 121 ∨ (k = 118 ∧ j = 2) ∨ k = 10 ∨ (k = 0 ∧ j = 0)
theorem h9_no {μ : dtM} {w : aW} {f : aF} {A : aH} {z : aZ} {n : Nat} {e : Nat × Nat} (HP : RP μ w f A z) (hn : n ≤ (zB z).1) (h3 : n ≤ 300) (hr : xDays (tx (zB z).2.1) n A = .error e) : ∃ μ1, f_X11_days 0 (Int32.ofNat n) μ = some (-Int32.ofNat 1, μ1) ∧ Fw LPq μ μ1 ∧ RP μ1 w (Int32.ofNat 9, f.2) A (upX z (toB (zB z).2.1 (Int32.ofNat e.1) (Int32.ofNat e.2)) (zD z)) := by
  have C := HP.c
  have B := HP.pb
  have b9 := B.1.1
  have wo := HP.2.1.1
  obtain ⟨m4, e4, F4, R4, r4⟩ := p_readD (g := w.2.2.2) C B HP.ph (by have := wo.1; omega) (by have := wo.2; omega) hn
  rw [hr] at e4 R4
  have C4 := C.keptW F4
  have C5 : CX (dtSI m4 10 1 (Int32.ofNat 0)) := C4.SI
  have C6 : CX (tlM m4 (Int32.ofNat e.1) (Int32.ofNat e.2)) := C4.kept tlM_F
  have F5 : Fr (fun k j => k = 0 ∧ j = 0) (tlM m4 (Int32.ofNat e.1) (Int32.ofNat e.2)) (dtSI (tlM m4 (Int32.ofNat e.1) (Int32.ofNat e.2)) 0 0 (Int32.ofNat 9)) := Fr.SI ⟨rfl, rfl⟩
  have FF : Fw (PTg w.2.2.2) μ (dtSI (tlM m4 (Int32.ofNat e.1) (Int32.ofNat e.2)) 0 0 (Int32.ofNat 9)) := (F4.wide (fun k j x => by omega)).tr ((tlM_F.w.wide (fun k j x => by omega)).tr (F5.w.wide (fun k j x => by omega)))
  have CF := C.keptW FF
  have wi : f_X11_within (Int32.ofNat n) (0 : Int32) (Int32.ofNat (zB z).1) μ = some (bI true, μ) := by
    have := f_within0 (x := Int32.ofNat n) (n := (zB z).1) (μ := μ) (by omega)
    rw [inR_n (by omega) (by omega), decide_eq_true (by omega)] at this
    exact this
  refine ⟨_, ?_, FF.wide (fun k j x => by have := wo.2; unfold LPq; omega), HP.txt (w' := w) (FF.wide (fun k j x => by have := wo.2; omega)) ⟨wo, ?_, ?_, ?_, ?_⟩ (HP.ph.keptW (CF.pShw (by have := wo.1; omega)) FF (by have := wo.1; have := wo.2; intros; omega)) (tlM_B.kept F5 (by intros; omega)) (HP.pd.keptW FF (by have := wo.2; intros; omega)) (by rw [m_I_SI, if_pos ⟨rfl, rfl⟩])⟩
  · rw [f_X11_days, C.g0_4, o_bind, o_GI C.s10, B.2.1, o_bind, wi, o_call, if_neg (show ¬ bI true = 0 from (by decide : ¬ bI true = 0)), if_pos (show Int32.ofNat n ≤ (300 : Int32) by rw [show (300 : Int32) = Int32.ofNat 300 from rfl, z_le (by omega) (by decide)]; exact h3), C.g0_13, o_bind, HP.g8, o_bind, HP.g5, o_bind, C.g0_4, o_bind, C.g10_0, o_bind, o_Rv C.s118, o_bind, e4, o_call, C4.g0_4, o_bind, show (0 : Int32) = Int32.ofNat 0 from rfl, o_PI C4.s10, o_bind, C5.g0_4, o_bind, C5.g0_13, o_bind, C5.g118_0, o_bind, o_Rv C5.s10, o_bind, p_tell C4 (Or.inr rfl) R4.1 R4.2, o_bind, if_pos (show bI (xOk (Except.error e : aX (aY × Nat))) = Int32.ofNat 0 from (by decide : bI false = Int32.ofNat 0)), C6.v0, o_bind, show (9 : Int32) = Int32.ofNat 9 from rfl, p_fail C6, o_call]
  · exact (r4 5).trans HP.2.1.2.1
  · exact (r4 6).trans HP.2.1.2.2.1
  · exact (r4 7).trans HP.2.1.2.2.2.1
  · exact (r4 8).trans HP.2.1.2.2.2.2
theorem h9_ok {μ : dtM} {w : aW} {f : aF} {A : aH} {z : aZ} {n : Nat} {y : aY × Nat} (HP : RP μ w f A z) (hn : n ≤ (zB z).1) (h3 : n ≤ 300) (hr : xDays (tx (zB z).2.1) n A = .ok y) : ∃ μ1, f_X11_days 0 (Int32.ofNat n) μ = some (Int32.ofNat (sC y.1), μ1) ∧ Fw LPq μ μ1 ∧ RP μ1 (w.1, w.2.1, w.2.2.2, w.2.2.1) (Int32.ofNat 0, f.2) A (upX z (toB (zB z).2.1 (Int32.ofNat 0) (-Int32.ofNat 1)) (sD y.1)) := by
  have C := HP.c
  have B := HP.pb
  have b9 := B.1.1
  have wo := HP.2.1.1
  have hg : w.2.2.2 = 38 ∨ w.2.2.2 = 45 := by have := wo.2; omega
  obtain ⟨_, yn⟩ := xDays_W hr
  obtain ⟨m4, e4, F4, R4, r4⟩ := p_readD (g := w.2.2.2) C B HP.ph (by have := wo.1; omega) hg hn
  rw [hr] at e4 R4
  obtain ⟨D4, K4, d40⟩ := R4
  have P4 := D4.d yn d40
  have C4 := C.keptW F4
  have C5 : CX (dtSI m4 10 1 (Int32.ofNat 0)) := C4.SI
  have te := p_tell C4 (Or.inr rfl) K4.1.1.2.2.2.1 K4.1.1.2.2.2.2
  obtain ⟨m6, hm6⟩ : ∃ m, m = tlM m4 (Int32.ofNat 0) (-Int32.ofNat 1) := ⟨_, rfl⟩
  have T6 : Fr (fun k j => k = 10 ∧ 1 ≤ j ∧ j ≤ 3) m4 m6 := by rw [hm6]; exact tlM_F
  rw [← hm6] at te
  have C6 := C4.kept T6
  have R6 : dtR m6 = dtR m4 := T6.Ra
  have q7 : sRq 0 7 := by unfold sRq; omega
  have q8 : sRq 0 8 := by unfold sRq; omega
  obtain ⟨m7, hm7⟩ : ∃ m, m = dtSR m6 0 7 (some w.2.2.2) := ⟨_, rfl⟩
  have C7 : CX m7 := by rw [hm7]; exact C6.cSR q7
  obtain ⟨m8, hm8⟩ : ∃ m, m = dtSR m7 0 8 (some w.2.2.1) := ⟨_, rfl⟩
  have C8 : CX m8 := by rw [hm8]; exact C7.cSR q8
  have F68 : Fw (fun _ _ => False) m6 m8 := by
    rw [hm8, hm7]; exact (Fw.SR q7).tr (Fw.SR q8)
  have F0 : Fr (fun k j => k = 0 ∧ j = 0) m8 (dtSI m8 0 0 (Int32.ofNat 0)) := Fr.SI ⟨rfl, rfl⟩
  have F48 : Fw (fun k j => k = 10) m4 m8 := (T6.w.wide (fun k j x => x.1)).tr (F68.wide (fun k j x => x.elim))
  have FF : Fw (PTg w.2.2.2) μ (dtSI m8 0 0 (Int32.ofNat 0)) := (F4.wide (fun k j x => by omega)).tr ((F48.wide (fun k j x => by omega)).tr (F0.w.wide (fun k j x => by omega)))
  have CF := C8.kept F0
  have wi : f_X11_within (Int32.ofNat n) (0 : Int32) (Int32.ofNat (zB z).1) μ = some (bI true, μ) := by
    have := f_within0 (x := Int32.ofNat n) (n := (zB z).1) (μ := μ) (by omega)
    rw [inR_n (by omega) (by omega), decide_eq_true (by omega)] at this
    exact this
  have r87 : dtR m8 0 7 = some w.2.2.2 := by rw [hm8, m_R_SR, if_neg (by decide), hm7, m_R_SR, if_pos ⟨rfl, rfl⟩]
  have r88 : dtR m8 0 8 = some w.2.2.1 := by rw [hm8, m_R_SR, if_pos ⟨rfl, rfl⟩]
  have r8 : ∀ j, ¬ j = 7 → ¬ j = 8 → dtR m8 0 j = dtR μ 0 j := fun j a b => by rw [hm8, m_R_SR, if_neg (by omega), hm7, m_R_SR, if_neg (by omega), R6, r4]
  have wl1 : w.2.2.1 < 1000000 := by have := wo.2; omega
  have wl2 : w.2.2.2 < 1000000 := by have := wo.2; omega
  have g67 : opGR 11 7 m6 0 = some w.2.2.1 := o_GR C6.s0 (by rw [R6, r4]; exact HP.2.1.2.2.2.1)
  have g68 : opGR 11 8 m6 0 = some w.2.2.2 := o_GR C6.s0 (by rw [R6, r4]; exact HP.2.1.2.2.2.2)
  have g1 : opGI 0 1 m8 w.2.2.2 = some (Int32.ofNat (sC y.1)) := by rw [o_GI (C8.dShw hg).1, F48.i (by omega), D4.1]
  refine ⟨dtSI m8 0 0 (Int32.ofNat 0), ?_, FF.wide (fun k j x => by unfold LPq; omega), HP.txt (w' := (w.1, w.2.1, w.2.2.2, w.2.2.1)) (FF.wide (fun k j x => by omega)) ⟨⟨wo.1, by have := wo.2; show (w.2.2.2 = 38 ∧ w.2.2.1 = 45) ∨ (w.2.2.2 = 45 ∧ w.2.2.1 = 38); omega⟩, (r8 5 (by decide) (by decide)).trans HP.2.1.2.1, (r8 6 (by decide) (by decide)).trans HP.2.1.2.2.1, r87, r88⟩ (HP.ph.keptW (CF.pShw (by have := wo.1; omega)) FF (by have := wo.1; intros; omega)) ?_ ((P4.keptW F48 (by intros; omega)).kept F0 (by intros; omega)) (by rw [m_I_SI, if_pos ⟨rfl, rfl⟩])⟩
  · rw [f_X11_days, C.g0_4, o_bind, o_GI C.s10, B.2.1, o_bind, wi, o_call, if_neg (show ¬ bI true = 0 from (by decide : ¬ bI true = 0)), if_pos (show Int32.ofNat n ≤ (300 : Int32) by rw [show (300 : Int32) = Int32.ofNat 300 from rfl, z_le (by omega) (by decide)]; exact h3), C.g0_13, o_bind, HP.g8, o_bind, HP.g5, o_bind, C.g0_4, o_bind, C.g10_0, o_bind, o_Rv C.s118, o_bind, e4, o_call, C4.g0_4, o_bind, show (0 : Int32) = Int32.ofNat 0 from rfl, o_PI C4.s10, o_bind, C5.g0_4, o_bind, C5.g0_13, o_bind, C5.g118_0, o_bind, o_Rv C5.s10, o_bind, te, o_bind, if_neg (show ¬ bI (xOk (Except.ok y : aX (aY × Nat))) = Int32.ofNat 0 from (by decide : ¬ bI true = Int32.ofNat 0)), g67, o_bind, g68, o_bind, o_PR C6.s0 wl2, o_bind, ← hm7, o_PR C7.s0 wl1, o_bind, ← hm8, o_GR C8.s0 r87, o_bind, g1, o_bind, C8.v0, o_bind, p_ans C8, o_call]
  · refine PB.kept (PB.keptW (μ := m6) ?_ F68 (by intros; exact id)) F0 (by intros; omega)
    rw [hm6]; exact tlM_B
theorem cs9 {μ : dtM} {w : aW} {f : aF} {A : aH} {z : aZ} (HP : RP μ w f A z) (HM : RM μ f A z) (W : dWF A (zD z)) (x : Int32) : bothW (f_X11_days 0 x) (f_X12_days 133 x) μ := by
  have C := HP.c
  have B := HP.pb
  have b9 := B.1.1
  have no : (x < 0 ∨ ∃ k, k < 2147483648 ∧ x = Int32.ofNat k ∧ ((zB z).1 < k ∨ 300 < k)) → bothW (f_X11_days 0 x) (f_X12_days 133 x) μ := fun hx => by
    refine (both.no HP HM W (-Int32.ofNat 1) (Int32.ofNat 1) ?_ (fun μ1 R1 => ?_)).w
    · have e22 : f_X11_days_22 0 μ = some (-Int32.ofNat 1, dtSI μ 0 0 (Int32.ofNat 1)) := by
        rw [f_X11_days_22, C.v0, o_bind, show (1 : Int32) = Int32.ofNat 1 from rfl, p_fail C, o_call]
      have wi := f_within0 (x := x) (n := (zB z).1) (μ := μ) (by omega)
      have wi' : f_X11_within x (0 : Int32) (Int32.ofNat (zB z).1) μ = some (bI (inR x ((zB z).1 + 1)), μ) := wi
      rw [f_X11_days, C.g0_4, o_bind, o_GI C.s10, B.2.1, o_bind, wi', o_call]
      cases hq : inR x ((zB z).1 + 1) with
      | false => rw [if_pos (by decide), e22]
      | true =>
        obtain ⟨n, hn, rfl⟩ := inR_t (by omega) hq
        rcases hx with hx | ⟨k, hk, ek, hx⟩
        · exact absurd hx (by rw [show (0 : Int32) = Int32.ofNat 0 from rfl, z_lt0 (by omega)]; exact id)
        · have : n = k := z_inj (by omega) hk ek
          rw [if_neg (by decide), if_neg (show ¬ Int32.ofNat n ≤ (300 : Int32) by rw [show (300 : Int32) = Int32.ofNat 300 from rfl, z_le (by omega) (by decide)]; omega), e22]
    · have C1 := R1.c
      rw [f_X12_days, C1.v133, o_bind, show (300 : Int32) = Int32.ofNat 300 from rfl, n_beginX C1 R1.mb (by decide) hx, o_call, if_pos (by decide), C1.v133, o_bind, show (1 : Int32) = Int32.ofNat 1 from rfl, n_refuse C1, o_call]
  rcases z_cases x with hx | ⟨n, hn, rfl⟩
  · exact no (Or.inl hx)
  · by_cases q : (zB z).1 < n ∨ 300 < n
    · exact no (Or.inr ⟨n, hn, rfl, q⟩)
    · have hn1 : n ≤ (zB z).1 := by omega
      have hn3 : n ≤ 300 := by omega
      have modErr : ∀ e : Nat × Nat, xDays (tx (zB z).2.1) n A = .error e → ∀ μ1, RM μ1 f A z → ∃ μ2, f_X12_days 133 (Int32.ofNat n) μ1 = some (-Int32.ofNat 1, μ2) ∧ Fr LMq μ1 μ2 ∧ RM μ2 (Int32.ofNat 9, f.2) A (upX z (toB (zB z).2.1 (Int32.ofNat e.1) (Int32.ofNat e.2)) (zD z)) := fun e hr μ1 R1 => by
        have C1 := R1.c
        obtain ⟨m4, e4, F4, t4, R4⟩ := n_readD (A := A) C1 R1.mb R1.mh hn1 hn3
        obtain ⟨m5, e5, F5, k1, k2⟩ : ∃ m5, f_X12_days_57 133 m4 = some (-Int32.ofNat 1, dtSI (dtSI m5 133 16 (Int32.ofNat e.1)) 133 2 (Int32.ofNat 9)) ∧ Fr Mcl m4 m5 ∧ dtI m5 133 18 = Int32.ofNat e.1 ∧ dtI m5 133 17 = Int32.ofNat e.2 := by
          unfold xDays at hr
          cases r : xDl (tx (zB z).2.1) n A (n + 1) s00 0 with
          | error x =>
            rw [r, xB_e] at hr
            rw [r] at R4
            have xe : x = e := Except.error.inj hr
            subst xe
            obtain ⟨k1, k2, k3, k4⟩ := R4
            exact ⟨m4, n_finX (C1.kept F4) k1 ⟨k3, k4⟩, Fr.rf, k1, k2⟩
          | ok y =>
            rw [r, xB_o] at hr
            rw [r] at R4
            obtain ⟨D4, H4, h4⟩ := R4
            have W4 := xDl_W _ _ _ _ s00_W r
            by_cases q0 : sN y.1 = 0
            · rw [if_pos q0] at hr
              exact absurd hr (fun x => nomatch x)
            · rw [if_neg q0] at hr
              have xe : flt (tx (zB z).2.1) n y.2 2 = e := Except.error.inj hr
              obtain ⟨m5, e5, F5, k1, k2, _⟩ := n_finF D4 H4 h4 ⟨q0, W4.1.2.2⟩
              rw [xe] at e5 k1 k2
              exact ⟨m5, e5, F5, k1, k2⟩
        have C5 := (C1.kept F4).kept F5
        have Fs : Fr (fun k j => k = 133 ∧ (j = 16 ∨ j = 2)) m5 (dtSI (dtSI m5 133 16 (Int32.ofNat e.1)) 133 2 (Int32.ofNat 9)) := (Fr.SI ⟨rfl, Or.inl rfl⟩).tr (Fr.SI ⟨rfl, Or.inr rfl⟩)
        have FF : Fr (fun k j => (k = 133 ∧ (j = 2 ∨ (10 ≤ j ∧ j ≤ 23))) ∨ (k = 134 ∧ 2016 ≤ j) ∨ k = 140 ∨ k = 141) μ1 (dtSI (dtSI m5 133 16 (Int32.ofNat e.1)) 133 2 (Int32.ofNat 9)) := (F4.wide (fun k j x => by omega)).tr ((F5.wide (fun k j x => by have := x.1; have := x.2.1; have := x.2.2; omega)).tr (Fs.wide (fun k j x => by omega)))
        refine ⟨_, e4.trans e5, FF.wide (fun k j x => by unfold LMq; omega), R1.txt (FF.wide (fun k j x => by omega)) (R1.mh.keptAt FF (by intros; omega) (by intros; omega)) ⟨toB_W, ?_, fun j hj => absurd hj (Nat.not_lt_zero _), ?_, ?_⟩ (R1.md.kept W FF (by intros; omega)) (by rw [m_I_SI, if_pos ⟨rfl, rfl⟩])⟩
        · rw [Fs.i (by omega), F5.i (by omega)]; exact t4
        · rw [m_I_SI, if_neg (by omega), m_I_SI, if_pos ⟨rfl, rfl⟩]; rfl
        · rw [Fs.i (by omega)]; exact k2
      cases hr : xDays (tx (zB z).2.1) n A with
      | error e => exact bothW.mk (w := w) HM W (h9_no HP hn1 hn3 hr) (fun μ1 R1 => modErr e hr μ1 R1) W
      | ok y =>
        obtain ⟨yW, y0⟩ := xDays_W hr
        refine bothW.mk (w := w) HM W (h9_ok HP hn1 hn3 hr) (fun μ1 R1 => ?_) (sWF_d yW y0)
        have C1 := R1.c
        obtain ⟨m4, e4, F4, t4, R4⟩ := n_readD (A := A) C1 R1.mb R1.mh hn1 hn3
        unfold xDays at hr
        obtain ⟨v, hv, hr⟩ := xB_ok hr
        rw [hv] at R4
        obtain ⟨D4, H4, h4⟩ := R4
        have vy : v.1 = y.1 ∧ sN v.1 = 0 := by
          by_cases q0 : sN v.1 = 0
          · rw [if_pos q0] at hr
            have := Except.ok.inj hr
            exact ⟨by rw [← this], q0⟩
          · rw [if_neg q0] at hr
            exact absurd hr (fun x => nomatch x)
        rw [vy.1] at D4
        have C4 := C1.kept F4
        obtain ⟨m5, e5, F5, M5⟩ := n_finD C4 D4 yW y0 h4
        have Fs : Fr (fun k j => k = 133 ∧ (j = 16 ∨ j = 2)) m5 (dtSI (dtSI m5 133 16 (Int32.ofNat 0)) 133 2 (Int32.ofNat 0)) := (Fr.SI ⟨rfl, Or.inl rfl⟩).tr (Fr.SI ⟨rfl, Or.inr rfl⟩)
        have FF : Fr (fun k j => (k = 133 ∧ (j = 2 ∨ (10 ≤ j ∧ j ≤ 23))) ∨ (k = 134 ∧ (2016 ≤ j ∨ j = 7 ∨ (136 ≤ j ∧ j < 496))) ∨ k = 140 ∨ k = 141) μ1 (dtSI (dtSI m5 133 16 (Int32.ofNat 0)) 133 2 (Int32.ofNat 0)) := (F4.wide (fun k j x => by omega)).tr ((F5.wide (fun k j x => by omega)).tr (Fs.wide (fun k j x => by omega)))
        refine ⟨_, e4.trans e5, FF.wide (fun k j x => by unfold LMq; omega), R1.txt (FF.wide (fun k j x => by omega)) (R1.mh.keptAt FF (by intros; omega) (by intros; omega)) ⟨toB_W, ?_, fun j hj => absurd hj (Nat.not_lt_zero _), ?_, ?_⟩ (M5.kept (sWF_d yW y0) Fs (by intros; omega)) (by rw [m_I_SI, if_pos ⟨rfl, rfl⟩])⟩
        · rw [Fs.i (by omega), F5.i (by omega)]; exact t4
        · rw [m_I_SI, if_neg (by omega), m_I_SI, if_pos ⟨rfl, rfl⟩]; rfl
        · rw [Fs.i (by omega), F5.i (by omega)]; exact h4.2
