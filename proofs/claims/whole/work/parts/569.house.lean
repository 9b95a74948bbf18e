/-! PURE 9991: case house -/
def dD0 : aD := (0, 0, fun _ _ => 0)
theorem dD0_W {A : aH} : dWF A dD0 := ⟨Nat.zero_le _, fun h => absurd h (show ¬ (0 : Nat) = 1 by decide)⟩
theorem MTk.kept2 {P : Nat → Nat → Prop} {μ μ' : dtM} {n e : Nat} {B : Nat → Int32} (H : MTk μ n B e) (F : Fr P μ μ') (q : ∀ j, 11 ≤ j → j ≤ 15 → ¬ P 133 j) (q2 : ∀ j, ¬ P 140 j) : MTk μ' n B e := by
  obtain ⟨T, he, a, b, c, d, f⟩ := H
  refine ⟨T.kept F ⟨q 11 (by decide) (by decide), q2⟩, he, ?_, ?_, ?_, fun x => ?_, fun x => ?_⟩
  · rw [F.i (q 13 (by decide) (by decide))]; exact a
  · rw [F.i (q 14 (by decide) (by decide))]; exact b
  · rw [F.i (q 12 (by decide) (by decide))]; exact c
  · rw [F.i (q 15 (by decide) (by decide))]; exact d x
  · rw [F.i (q 15 (by decide) (by decide))]; exact f x
theorem M0f.kept2 {P : Nat → Nat → Prop} {μ μ' : dtM} (H : M0f μ) (F : Fr P μ μ') (q : ¬ P 133 18 ∧ ¬ P 133 17) : M0f μ' := ⟨by rw [F.i q.1]; exact H.1, by rw [F.i q.2]; exact H.2⟩
abbrev MTy : Nat → Nat → Prop := fun k j => (k = 133 ∧ 10 ≤ j ∧ j ≤ 20 ∧ ¬ j = 16) ∨ (k = 134 ∧ 2016 ≤ j) ∨ (k = 135 ∧ 76 ≤ j) ∨ k = 140
theorem n_readH {μ : dtM} {B : aB} {n : Nat} (C : CX μ) (H : MB μ B) (hn : n ≤ B.1) : ∃ μ', f_X12_house 133 (Int32.ofNat n) μ = f_X12_house_50 133 μ' ∧ Fr MTy μ μ' ∧ dtI μ' 133 10 = Int32.ofNat 0 ∧ dtI μ' 134 2023 = -Int32.ofNat 1 ∧ MRh μ' n B.2.1 (xHouse B.2.1 n) := by
  have n9 := H.1.1
  obtain ⟨m1, e1, F1, t1, K1, h1⟩ := n_begin (most := 900) C H hn ⟨by omega, by decide⟩
  have C1 := C.kept F1
  obtain ⟨m2, e2, F2, p4, p7, p0⟩ := n_plain (b := 2016) (by decide) C1
  have C2 := C1.kept F2
  have F3 : Fr (fun k j => k = 133 ∧ j = 20) m2 (dtSI m2 133 20 (Int32.ofNat 0)) := Fr.SI ⟨rfl, rfl⟩
  have C3 := C2.kept F3
  have M3 : MHN (dtSI m2 133 20 (Int32.ofNat 0)) hE (fun _ => []) := ⟨C3, MH.plain C3 (by rw [F3.i (by omega)]; exact p4) (fun j a b c => by rw [F3.i (by omega)]; exact p0 j a b c), fun k hk => absurd hk (Nat.not_lt_zero _)⟩
  have Z3 : MZ (dtSI m2 133 20 (Int32.ofNat 0)) hE := fun p a b => by
    rw [F3.i (by omega), show 2094 + 12 * p = 2016 + (78 + 12 * p) by omega]
    exact p0 _ (by omega) (by omega) (by omega)
  have K3 : MTk (dtSI m2 133 20 (Int32.ofNat 0)) n B.2.1 0 := (K1.kept2 F2 (by intros; omega) (by intros; omega)).kept2 F3 (by intros; omega) (by intros; omega)
  have h3 : M0f (dtSI m2 133 20 (Int32.ofNat 0)) := (h1.kept2 F2 (by omega)).kept2 F3 (by omega)
  obtain ⟨m4, e4, F4, R4⟩ := hl31 (n := n) (B := B.2.1) (n + 1) 0 dtFuel hE (fun _ => []) false _ (by omega) (dtFuel_gt (by omega)) M3 Z3 K3 h3 (by rw [m_I_SI, if_pos ⟨rfl, rfl⟩]; rfl)
  refine ⟨m4, ?_, ?_, ?_, ?_, R4⟩
  · have e4' : f_X12_house_31 dtFuel 133 (1 : Int32) (dtSI m2 133 20 (Int32.ofNat 0)) = f_X12_house_50 133 m4 := e4
    rw [f_X12_house, C.v133, o_bind, show (900 : Int32) = Int32.ofNat 900 from rfl, e1, o_call, if_neg (show ¬ bI true = 0 from (by decide : ¬ bI true = 0)), C1.v133, o_bind, show (2016 : Int32) = Int32.ofNat 2016 from rfl, e2, o_bind, show (0 : Int32) = Int32.ofNat 0 from rfl, o_PI C2.s133, o_bind, e4']
  · refine ((F1.wide (fun k j x => ?_)).tr ((F2.wide (fun k j x => ?_)).tr (F3.wide (fun k j x => ?_)))).tr (F4.wide (fun k j x => ?_))
    · omega
    · omega
    · omega
    · rcases x with (x | x | x) | x
      · have := x.1
        have := x.2.1
        have := x.2.2
        omega
      · omega
      · omega
      · omega
  · rw [F4.i (fun x => by
      rcases x with (x | x | x) | x
      · have := x.2.1; omega
      · omega
      · omega
      · omega), F3.i (by omega), F2.i (by omega)]
    exact t1
  · rw [F4.i (fun x => by
      rcases x with (x | x | x) | x
      · have := x.1; omega
      · omega
      · omega
      · omega), F3.i (by omega)]
    exact p7
theorem inR_no {x : Int32} {n : Nat} (hn : n < 2147483647) (h : inR x (n + 1) = false) : x < 0 ∨ ∃ k, k < 2147483648 ∧ x = Int32.ofNat k ∧ n < k := by
  rcases z_cases x with q | ⟨k, hk, rfl⟩
  · exact Or.inl q
  · refine Or.inr ⟨k, hk, rfl, ?_⟩
    rw [inR_n (by omega) hk] at h
    have := of_decide_eq_false h
    omega
abbrev PTh (h : Nat) : Nat → Nat → Prop := fun k j => (h ≤ k ∧ k ≤ h + 12) ∨ (k = 115 ∧ 1 ≤ j) ∨ k = 117 ∨ (k = 114 ∧ j = 2) ∨ k = 10 ∨ (k = 0 ∧ j = 0)
theorem h8_no {μ : dtM} {w : aW} {f : aF} {A : aH} {z : aZ} {n : Nat} {e : Nat × Nat} (HP : RP μ w f A z) (hn : n ≤ (zB z).1) (hr : xHouse (zB z).2.1 n = .error e) : ∃ μ1, f_X11_house 0 (Int32.ofNat n) μ = some (-Int32.ofNat 1, μ1) ∧ Fw LPq μ μ1 ∧ RP μ1 w (Int32.ofNat 9, f.2) A (upX z (toB (zB z).2.1 (Int32.ofNat e.1) (Int32.ofNat e.2)) (zD z)) := by
  have C := HP.c
  have B := HP.pb
  have b9 := B.1.1
  have wo := HP.2.1.1
  obtain ⟨m4, e4, F4, R4, r4⟩ := p_readH (h := w.2.1) C B (by have := wo.1; omega) hn
  rw [hr] at e4 R4
  have C4 := C.keptW F4
  have C5 : CX (dtSI m4 10 1 (Int32.ofNat 0)) := C4.SI
  have C6 : CX (tlM m4 (Int32.ofNat e.1) (Int32.ofNat e.2)) := C4.kept tlM_F
  have F5 : Fr (fun k j => k = 0 ∧ j = 0) (tlM m4 (Int32.ofNat e.1) (Int32.ofNat e.2)) (dtSI (tlM m4 (Int32.ofNat e.1) (Int32.ofNat e.2)) 0 0 (Int32.ofNat 9)) := Fr.SI ⟨rfl, rfl⟩
  have FF : Fw (PTh w.2.1) μ (dtSI (tlM m4 (Int32.ofNat e.1) (Int32.ofNat e.2)) 0 0 (Int32.ofNat 9)) := (F4.wide (fun k j x => by omega)).tr ((tlM_F.w.wide (fun k j x => by omega)).tr (F5.w.wide (fun k j x => by omega)))
  have CF := C.keptW FF
  have wi : f_X11_within (Int32.ofNat n) (0 : Int32) (Int32.ofNat (zB z).1) μ = some (bI true, μ) := by
    have := f_within0 (x := Int32.ofNat n) (n := (zB z).1) (μ := μ) (by omega)
    rw [inR_n (by omega) (by omega), decide_eq_true (by omega)] at this
    exact this
  refine ⟨_, ?_, FF.wide (fun k j x => by have := wo.1; unfold LPq; omega), HP.txt (w' := w) (FF.wide (fun k j x => by have := wo.1; omega)) ⟨wo, ?_, ?_, ?_, ?_⟩ (HP.ph.keptW (CF.pShw (by have := wo.1; omega)) FF (by have := wo.1; intros; omega)) (tlM_B.kept F5 (by intros; omega)) (HP.pd.keptW FF (by have := wo.1; have := wo.2; intros; omega)) (by rw [m_I_SI, if_pos ⟨rfl, rfl⟩])⟩
  · rw [f_X11_house, C.g0_4, o_bind, o_GI C.s10, B.2.1, o_bind, wi, o_call, if_neg (show ¬ bI true = 0 from (by decide : ¬ bI true = 0)), C.g0_12, o_bind, HP.g6, o_bind, C.g0_4, o_bind, C.g10_0, o_bind, o_Rv C.s114, o_bind, e4, o_call, C4.g0_4, o_bind, show (0 : Int32) = Int32.ofNat 0 from rfl, o_PI C4.s10, o_bind, C5.g0_4, o_bind, C5.g0_12, o_bind, C5.g114_0, o_bind, o_Rv C5.s10, o_bind, p_tell C4 (Or.inl rfl) R4.1 R4.2, o_bind, if_pos (show bI (xOk (Except.error e : aX ((aH × (Nat → List Nat)) × Nat))) = Int32.ofNat 0 from (by decide : bI false = Int32.ofNat 0)), C6.v0, o_bind, show (9 : Int32) = Int32.ofNat 9 from rfl, p_fail C6, o_call]
  · exact (r4 5).trans HP.2.1.2.1
  · exact (r4 6).trans HP.2.1.2.2.1
  · exact (r4 7).trans HP.2.1.2.2.2.1
  · exact (r4 8).trans HP.2.1.2.2.2.2
theorem h8_ok {μ : dtM} {w : aW} {f : aF} {A : aH} {z : aZ} {n : Nat} {y : (aH × (Nat → List Nat)) × Nat} (HP : RP μ w f A z) (hn : n ≤ (zB z).1) (hr : xHouse (zB z).2.1 n = .ok y) : ∃ μ1, f_X11_house 0 (Int32.ofNat n) μ = some (Int32.ofNat (hs y.1.1 3), μ1) ∧ Fw LPq μ μ1 ∧ RP μ1 (w.2.1, w.1, w.2.2.1, w.2.2.2) (Int32.ofNat 0, f.2) y.1.1 (upX z (toB (zB z).2.1 (Int32.ofNat 0) (-Int32.ofNat 1)) dD0) := by
  have C := HP.c
  have B := HP.pb
  have b9 := B.1.1
  have wo := HP.2.1.1
  obtain ⟨m4, e4, F4, R4, r4⟩ := p_readH (h := w.2.1) C B (by have := wo.1; omega) hn
  rw [hr] at e4 R4
  obtain ⟨⟨_, HA, _, _⟩, K4⟩ := R4
  have C4 := C.keptW F4
  have C5 : CX (dtSI m4 10 1 (Int32.ofNat 0)) := C4.SI
  have te := p_tell C4 (Or.inl rfl) K4.1.1.2.2.2.1 K4.1.1.2.2.2.2
  obtain ⟨m6, hm6⟩ : ∃ m, m = tlM m4 (Int32.ofNat 0) (-Int32.ofNat 1) := ⟨_, rfl⟩
  have T6 : Fr (fun k j => k = 10 ∧ 1 ≤ j ∧ j ≤ 3) m4 m6 := by rw [hm6]; exact tlM_F
  rw [← hm6] at te
  have C6 := C4.kept T6
  have R6 : dtR m6 = dtR m4 := T6.Ra
  obtain ⟨m7, hm7⟩ : ∃ m, m = dtSR m6 0 5 (some w.2.1) := ⟨_, rfl⟩
  have q5 : sRq 0 5 := by unfold sRq; omega
  have q6 : sRq 0 6 := by unfold sRq; omega
  have C7 : CX m7 := by rw [hm7]; exact C6.cSR q5
  obtain ⟨m8, hm8⟩ : ∃ m, m = dtSR m7 0 6 (some w.1) := ⟨_, rfl⟩
  have C8 : CX m8 := by rw [hm8]; exact C7.cSR q6
  have F68 : Fw (fun _ _ => False) m6 m8 := by
    rw [hm8, hm7]; exact (Fw.SR q5).tr (Fw.SR q6)
  have hg : w.2.2.1 = 38 ∨ w.2.2.1 = 45 := by have := wo.2; omega
  obtain ⟨m9, e9, F9, d0, d1, d2⟩ := p_clearD (C8.dShw hg).1
  have C9 := C8.kept F9
  have F0 : Fr (fun k j => k = 0 ∧ j = 0) m9 (dtSI m9 0 0 (Int32.ofNat 0)) := Fr.SI ⟨rfl, rfl⟩
  have FF : Fw PTx μ (dtSI m9 0 0 (Int32.ofNat 0)) := ((F4.wide (fun k j x => by have := wo.1; omega)).tr (T6.w.wide (fun k j x => by omega))).tr ((F68.wide (fun k j x => x.elim)).tr ((F9.w.wide (fun k j x => by omega)).tr (F0.w.wide (fun k j x => by omega))))
  have G49 : Fw (fun k j => k = 10 ∨ (k = w.2.2.1 ∧ j ≤ 2)) m4 m9 := (T6.w.wide (fun k j x => by omega)).tr ((F68.wide (fun k j x => x.elim)).tr (F9.w.wide (fun k j x => by omega)))
  have H9 : PH m9 w.2.1 y.1.1 := HA.keptW (C9.pShw (by have := wo.1; omega)) G49 (by have := wo.1; have := wo.2; intros; omega)
  have CF := C9.kept F0
  have wi : f_X11_within (Int32.ofNat n) (0 : Int32) (Int32.ofNat (zB z).1) μ = some (bI true, μ) := by
    have := f_within0 (x := Int32.ofNat n) (n := (zB z).1) (μ := μ) (by omega)
    rw [inR_n (by omega) (by omega), decide_eq_true (by omega)] at this
    exact this
  have r95 : dtR m9 0 5 = some w.2.1 := by rw [F9.Ra, hm8, m_R_SR, if_neg (by decide), hm7, m_R_SR, if_pos ⟨rfl, rfl⟩]
  have r96 : dtR m9 0 6 = some w.1 := by rw [F9.Ra, hm8, m_R_SR, if_pos ⟨rfl, rfl⟩]
  have r9 : ∀ j, ¬ j = 5 → ¬ j = 6 → dtR m9 0 j = dtR μ 0 j := fun j a b => by rw [F9.Ra, hm8, m_R_SR, if_neg (by omega), hm7, m_R_SR, if_neg (by omega), R6, r4]
  have r85 : dtR m8 0 7 = some w.2.2.1 := by rw [hm8, m_R_SR, if_neg (by decide), hm7, m_R_SR, if_neg (by decide), R6, r4]; exact HP.2.1.2.2.2.1
  have wl1 : w.1 < 1000000 := by have := wo.1; omega
  have wl2 : w.2.1 < 1000000 := by have := wo.1; omega
  have g65 : opGR 11 5 m6 0 = some w.1 := o_GR C6.s0 (by rw [R6, r4]; exact HP.2.1.2.1)
  have g66 : opGR 11 6 m6 0 = some w.2.1 := o_GR C6.s0 (by rw [R6, r4]; exact HP.2.1.2.2.1)
  refine ⟨dtSI m9 0 0 (Int32.ofNat 0), ?_, FF.wide (fun k j x => by unfold LPq; omega), HP.txt (w' := (w.2.1, w.1, w.2.2.1, w.2.2.2)) FF ⟨⟨by have := wo.1; show (w.2.1 = 12 ∧ w.1 = 25) ∨ (w.2.1 = 25 ∧ w.1 = 12); omega, wo.2⟩, r95, r96, (r9 7 (by decide) (by decide)).trans HP.2.1.2.2.2.1, (r9 8 (by decide) (by decide)).trans HP.2.1.2.2.2.2⟩ (H9.kept F0 (by have := wo.1; intros; omega)) ?_ ⟨?_, fun h => absurd h (show ¬ (0 : Nat) = 1 by decide)⟩ (by rw [m_I_SI, if_pos ⟨rfl, rfl⟩])⟩
  · rw [f_X11_house, C.g0_4, o_bind, o_GI C.s10, B.2.1, o_bind, wi, o_call, if_neg (show ¬ bI true = 0 from (by decide : ¬ bI true = 0)), C.g0_12, o_bind, HP.g6, o_bind, C.g0_4, o_bind, C.g10_0, o_bind, o_Rv C.s114, o_bind, e4, o_call, C4.g0_4, o_bind, show (0 : Int32) = Int32.ofNat 0 from rfl, o_PI C4.s10, o_bind, C5.g0_4, o_bind, C5.g0_12, o_bind, C5.g114_0, o_bind, o_Rv C5.s10, o_bind, te, o_bind, if_neg (show ¬ bI (xOk (Except.ok y : aX ((aH × (Nat → List Nat)) × Nat))) = Int32.ofNat 0 from (by decide : ¬ bI true = Int32.ofNat 0)), g65, o_bind, g66, o_bind, o_PR C6.s0 wl2, o_bind, ← hm7, o_PR C7.s0 wl1, o_bind, ← hm8, o_GR C8.s0 r85, o_bind, o_Rv (C8.dShw hg).1, o_bind, e9, o_bind, o_GR C9.s0 r95, o_bind, H9.g3, o_bind, C9.v0, o_bind, p_ans C9, o_call]
  · refine PB.kept (PB.keptW (PB.keptW (μ := m6) ?_ F68 (by intros; exact id)) F9.w (by intros; omega)) F0 (by intros; omega)
    rw [hm6]; exact tlM_B
  · show dtI (dtSI m9 0 0 (Int32.ofNat 0)) w.2.2.1 0 = Int32.ofNat 0
    rw [F0.i (by omega)]; exact d0
theorem cs8 {μ : dtM} {w : aW} {f : aF} {A : aH} {z : aZ} (HP : RP μ w f A z) (HM : RM μ f A z) (W : dWF A (zD z)) (x : Int32) : bothW (f_X11_house 0 x) (f_X12_house 133 x) μ := by
  have C := HP.c
  have B := HP.pb
  have b9 := B.1.1
  cases hq : inR x ((zB z).1 + 1) with
  | false =>
    refine (both.no HP HM W (-Int32.ofNat 1) (Int32.ofNat 1) ?_ (fun μ1 R1 => ?_)).w
    · have wi : f_X11_within x (0 : Int32) (Int32.ofNat (zB z).1) μ = some (bI false, μ) := by
        have := f_within0 (x := x) (n := (zB z).1) (μ := μ) (by omega)
        rw [hq] at this
        exact this
      rw [f_X11_house, C.g0_4, o_bind, o_GI C.s10, B.2.1, o_bind, wi, o_call, if_pos (by decide), C.v0, o_bind, show (1 : Int32) = Int32.ofNat 1 from rfl, p_fail C, o_call]
    · have C1 := R1.c
      rcases inR_no (by omega) hq with h | ⟨k, hk, rfl, h⟩
      · rw [f_X12_house, C1.v133, o_bind, show (900 : Int32) = Int32.ofNat 900 from rfl, n_beginX C1 R1.mb (by decide) (Or.inl h), o_call, if_pos (by decide), C1.v133, o_bind, show (1 : Int32) = Int32.ofNat 1 from rfl, n_refuse C1, o_call]
      · rw [f_X12_house, C1.v133, o_bind, show (900 : Int32) = Int32.ofNat 900 from rfl, n_beginX C1 R1.mb (by decide) (Or.inr ⟨k, hk, rfl, Or.inl h⟩), o_call, if_pos (by decide), C1.v133, o_bind, show (1 : Int32) = Int32.ofNat 1 from rfl, n_refuse C1, o_call]
  | true =>
    obtain ⟨n, hn, rfl⟩ := inR_t (by omega) hq
    cases hr : xHouse (zB z).2.1 n with
    | error e =>
      refine bothW.mk (w := w) HM W (h8_no HP (by omega) hr) (fun μ1 R1 => ?_) W
      have C1 := R1.c
      obtain ⟨m4, e4, F4, t4, p4, R4⟩ := n_readH C1 R1.mb (show n ≤ (zB z).1 by omega)
      rw [hr] at R4
      obtain ⟨k1, k2, k3, k4⟩ := R4
      have C4 := C1.kept F4
      have Fs : Fr (fun k j => k = 133 ∧ (j = 16 ∨ j = 2)) m4 (dtSI (dtSI m4 133 16 (Int32.ofNat e.1)) 133 2 (Int32.ofNat 9)) := (Fr.SI ⟨rfl, Or.inl rfl⟩).tr (Fr.SI ⟨rfl, Or.inr rfl⟩)
      have FF : Fr (fun k j => (k = 133 ∧ (j = 2 ∨ (10 ≤ j ∧ j ≤ 20))) ∨ (k = 134 ∧ 2016 ≤ j) ∨ (k = 135 ∧ 76 ≤ j) ∨ k = 140) μ1 (dtSI (dtSI m4 133 16 (Int32.ofNat e.1)) 133 2 (Int32.ofNat 9)) := (F4.wide (fun k j x => by omega)).tr (Fs.wide (fun k j x => by omega))
      refine ⟨_, (e4.trans (n_putsNo C4 k1 ⟨k3, k4⟩)), FF.wide (fun k j x => by unfold LMq; omega), R1.txt (FF.wide (fun k j x => by omega)) (R1.mh.keptAt FF (by intros; omega) (by intros; omega)) ⟨toB_W, ?_, fun j hj => absurd hj (Nat.not_lt_zero _), ?_, ?_⟩ (R1.md.kept W FF (by intros; omega)) (by rw [m_I_SI, if_pos ⟨rfl, rfl⟩])⟩
      · rw [Fs.i (by omega)]; exact t4
      · rw [m_I_SI, if_neg (by omega), m_I_SI, if_pos ⟨rfl, rfl⟩]; rfl
      · rw [Fs.i (by omega)]; exact k2
    | ok y =>
      refine bothW.mk (w := w) HM W (h8_ok HP (by omega) hr) (fun μ1 R1 => ?_) dD0_W
      have C1 := R1.c
      obtain ⟨m4, e4, F4, t4, p4, R4⟩ := n_readH C1 R1.mb (show n ≤ (zB z).1 by omega)
      rw [hr] at R4
      obtain ⟨⟨_, MA, _⟩, _, h0⟩ := R4
      have C4 := C1.kept F4
      obtain ⟨m5, e5, F5, M5, q7⟩ := n_puts C4 MA p4 h0.1
      have Fs : Fr (fun k j => k = 133 ∧ (j = 16 ∨ j = 2)) m5 (dtSI (dtSI m5 133 16 (Int32.ofNat 0)) 133 2 (Int32.ofNat 0)) := (Fr.SI ⟨rfl, Or.inl rfl⟩).tr (Fr.SI ⟨rfl, Or.inr rfl⟩)
      have FF : Fr MTx μ1 (dtSI (dtSI m5 133 16 (Int32.ofNat 0)) 133 2 (Int32.ofNat 0)) := ((F4.wide (fun k j x => by omega)).tr (F5.wide (fun k j x => by omega))).tr (Fs.wide (fun k j x => by omega))
      refine ⟨_, (e4.trans e5), FF.wide (fun k j x => by unfold LMq; omega), R1.txt FF (M5.keptAt Fs (by intros; omega) (by intros; omega)) ⟨toB_W, ?_, fun j hj => absurd hj (Nat.not_lt_zero _), ?_, ?_⟩ ⟨fun _ => ?_, fun h => absurd h (show ¬ (0 : Nat) = 1 by decide)⟩ (by rw [m_I_SI, if_pos ⟨rfl, rfl⟩])⟩
      · rw [Fs.i (by omega), F5.i (by omega)]; exact t4
      · rw [m_I_SI, if_neg (by omega), m_I_SI, if_pos ⟨rfl, rfl⟩]; rfl
      · rw [Fs.i (by omega), F5.i (by omega)]; exact h0.2
      · rw [Fs.i (by omega)]; exact q7
