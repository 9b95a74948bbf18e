/-! PURE 73: live -/
def upV (z : aZ) (V : aV) (l : Nat → Nat) : aZ := (zT z, zB z, zD z, zK z, V, l)
theorem RP.lv {w : aW} {f f' : aF} {A A' : aH} {z : aZ} {V : aV} {l : Nat → Nat} {μ μ' : dtM} (H : RP μ w f A z) (F : Fr (fun k j => ScHP w k j ∨ k = 131 ∨ k = 132 ∨ (k = 0 ∧ j < 3)) μ μ') (X : PX μ' f') (h : PH μ' w.1 A') (hv : PV μ' V) (hl : PL μ' l) : RP μ' w f' A' (upV z V l) := by
  obtain ⟨C, R, _, _, T, B, D, K, _, _⟩ := H
  obtain ⟨w1, w2⟩ := R.1
  refine ⟨C.kept F, R.kept F, X, h, T.kept F ?_, B.kept F ?_, D.kept F ?_, K.kept F ?_ ?_, hv, hl⟩
  all_goals (intros; unfold ScHP ScP; omega)
theorem RM.lv {f f' : aF} {A A' : aH} {z : aZ} {V : aV} {l : Nat → Nat} {μ μ' : dtM} (H : RM μ f A z) (F : Fr (fun k j => ScHM k j ∨ k = 151 ∨ k = 153 ∨ (k = 133 ∧ (j = 3 ∨ j = 4 ∨ j = 39))) μ μ') (X : MX μ' f') (h : MH μ' 0 0 A') (hd : MD μ' 0 (zD z)) (hv : MV μ' V) (hl : ML μ' l) : RM μ' f' A' (upV z V l) := by
  obtain ⟨C, _, _, T, B, _, K, _, _⟩ := H
  refine ⟨C.kept F, X, h, T.kept F ?_, B.kept F ?_ ⟨?_, ?_, ?_⟩, hd, K.kept F ?_ ?_ ?_, hv, hl⟩
  all_goals (intros; unfold ScHM ScM; omega)
theorem RP.pl {w : aW} {f : aF} {A : aH} {z : aZ} {μ : dtM} (H : RP μ w f A z) : PL μ (zL z) := H.2.2.2.2.2.2.2.2.2
theorem RM.ml {f : aF} {A : aH} {z : aZ} {μ : dtM} (H : RM μ f A z) : ML μ (zL z) := H.2.2.2.2.2.2.2.2
def rr (D : aD) (A : aH) (seed : Nat) (l : Nat → Nat) : aH × aQ × Nat := rN D 1000000 A (q0 seed l) 0
def lvV (r : aH × aQ × Nat) : aV := (1, fun j => if j = 0 then Int32.ofNat (qm r.2.1) else if j = 1 then Int32.ofNat (qk r.2.1) else if j = 2 then Int32.ofNat (qc r.2.1) else if j = 3 then Int32.ofNat (qp r.2.1) else Int32.ofNat r.2.2)
theorem RP.there {w : aW} {f : aF} {A : aH} {z : aZ} {μ : dtM} (H : RP μ w f A z) : opGI 0 0 μ w.2.2.1 = some (Int32.ofNat (zD z).1) := by
  rw [o_GI (H.c.dShw (H.2.1.1.2.elim (fun x => Or.inl x.1) (fun x => Or.inr x.1))).1, H.pd.1]
theorem lv_f {x : Int32} {μ : dtM} : f_X11_within x (0 : Int32) (9999 : Int32) μ = some (bI (inR x 10000), μ) := f_within0 (n := 9999) (by decide)
theorem lv_g {x : Int32} {μ : dtM} : f_X12_isFrom x.toInt64 (0 : Int64) (9999 : Int64) μ = some (bI (inR x 10000), μ) := f_isFrom (n := 9999) (by decide)
theorem lm43 : ∀ (n f i : Nat) (μ : dtM), i + n = 5 → n < f → CX μ → ∃ μ', f_X12_live_43 f 133 (Int32.ofNat i) μ = some (dtI μ 133 35, dtSI (dtSI μ' 133 39 (Int32.ofNat 1)) 133 2 (Int32.ofNat 0)) ∧ Fr (fun a b => a = 153 ∧ i ≤ b) μ μ' ∧ ∀ j, i ≤ j → j < 5 → dtI μ' 153 j = dtI μ 152 j := by
  intro n
  induction n with
  | zero =>
    intro f i μ e hf C
    cases f with
    | zero => omega
    | succ f =>
      have C1 : CX (dtSI μ 133 39 (Int32.ofNat 1)) := C.SI
      refine ⟨μ, ?_, Fr.rf, fun j h1 h2 => by omega⟩
      rw [f_X12_live_43, if_pos (show (5 : Int32) ≤ Int32.ofNat i by rw [show (5 : Int32) = Int32.ofNat 5 from rfl, z_le (by decide) (by omega)]; omega), show opPZ 12 39 μ 133 (1 : Int32) = some (dtSI μ 133 39 (Int32.ofNat 1)) from o_PZ1 C.s133, o_bind, o_GI C1.s133, o_bind, C1.v133, o_bind, n_gives C1, o_call, m_I_SI, if_neg (by omega)]
  | succ n ih =>
    intro f i μ e hf C
    cases f with
    | zero => omega
    | succ f =>
      have F1 : Fr (fun a b => a = 153 ∧ i ≤ b) μ (dtSI μ 153 i (dtI μ 152 i)) := Fr.SI ⟨rfl, Nat.le_refl _⟩
      obtain ⟨μ2, e2, F2, g2⟩ := ih f (i + 1) _ (by omega) (by omega) (C.kept F1)
      refine ⟨μ2, ?_, F1.tr (F2.wide (fun a b x => ⟨x.1, by omega⟩)), fun j h1 h2 => ?_⟩
      · rw [f_X12_live_43, if_neg (show ¬ (5 : Int32) ≤ Int32.ofNat i by rw [show (5 : Int32) = Int32.ofNat 5 from rfl, z_le (by decide) (by omega)]; omega), C.g133_38, o_bind, C.g133_37, o_bind, o_LI C.s152 (show i < 5 by omega) (by decide), o_bind, o_SI C.s153 (show i < 5 by omega) (by decide), o_bind, show (1 : Int32) = Int32.ofNat 1 from rfl, z_add, e2, m_I_SI, if_neg (by omega)]
      · by_cases x : j = i
        · subst x
          rw [F2.i (by omega), m_I_SI, if_pos ⟨rfl, rfl⟩]
        · rw [g2 j (by omega) h2, m_I_SI, if_neg (by omega)]
theorem cs51 {μ : dtM} {w : aW} {f : aF} {A : aH} {z : aZ} (HP : RP μ w f A z) (HM : RM μ f A z) (W : dWF A (zD z)) (x : Int32) : both (f_X11_live 0 x) (f_X12_live 133 x) μ := by
  have C := HP.c
  have HH := HP.ph
  have g5 := HP.g5
  have g7 := HP.g7
  have wo := HP.2.1.1
  cases hq : inR x 10000
  · refine both.no HP HM W (-Int32.ofNat 1) (Int32.ofNat 1) ?_ (fun μ1 R1 => ?_)
    · rw [f_X11_live, lv_f, hq, o_call, if_pos (by decide), C.v0, o_bind, show (1 : Int32) = Int32.ofNat 1 from rfl, p_fail C, o_call]
    · have C1 := R1.c
      rw [f_X12_live, lv_g, hq, o_call, if_pos (by decide), C1.v133, o_bind, show (1 : Int32) = Int32.ofNat 1 from rfl, n_refuse C1, o_call]
  · obtain ⟨s, hs9, rfl⟩ := inR_t (by decide) hq
    have hD : (zD z).1 = 0 ∨ (zD z).1 = 1 := by have := W.1; omega
    have gt := HP.there
    have m7 : ∀ μ1, RM μ1 f A z → opLI 1 μ1 134 (7 : Int32) = some (dtI μ1 134 7) := fun μ1 R1 => o_LI (i := 7) R1.c.s134 (by decide) (by decide)
    rcases hD with h0 | h1
    · refine both.no HP HM W (-Int32.ofNat 1) (Int32.ofNat 6) ?_ (fun μ1 R1 => ?_)
      · rw [f_X11_live, lv_f, hq, o_call, if_neg (by decide), g7, o_bind, gt, h0, o_bind, if_pos (by decide), C.v0, o_bind, show (6 : Int32) = Int32.ofNat 6 from rfl, p_fail C, o_call]
      · have C1 := R1.c
        have e7 : dtI μ1 134 7 = (-1 : Int32) := R1.md.1 h0
        rw [f_X12_live, lv_g, hq, o_call, if_neg (by decide), C1.g133_0, o_bind, m7 μ1 R1, o_bind, if_pos e7, C1.v133, o_bind, show (6 : Int32) = Int32.ofNat 6 from rfl, n_refuse C1, o_call]
    · have h60 := (W.2 h1).1
      have hw : (w.1 = 12 ∨ w.1 = 25) ∧ (w.2.2.1 = 38 ∨ w.2.2.1 = 45) := ⟨wo.1.elim (fun x => Or.inl x.1) (fun x => Or.inr x.1), wo.2.elim (fun x => Or.inl x.1) (fun x => Or.inr x.1)⟩
      obtain ⟨μ1, e1, E1⟩ := p_run0 C HH HP.pl hw h1 HP.pd (C.dShw hw.2) W (show s < 65536 by omega)
      obtain ⟨r, hr⟩ : ∃ r, rr (zD z) A s (zL z) = r := ⟨_, rfl⟩
      have er : rN (zD z) 1000000 A (q0 s (zL z)) 0 = r := hr
      rw [er] at E1
      obtain ⟨F1, H1, em, ec, ok1, W1, c1⟩ := E1
      have C1 := H1.c
      obtain ⟨_, HH1, _, ⟨a1, a2, a3, a4, a5⟩, L1⟩ := H1
      refine both.mk HP HM W (v := Int32.ofNat (qn r.2.1)) (w' := w) (f' := (Int32.ofNat 0, f.2)) (A' := r.1) (z' := upV z (lvV r) (ql r.2.1)) ?_ (fun μx Rx => ?_) W1
      · have g17 : ∀ ν, CX ν → opGR 11 17 ν 0 = some 130 := fun ν Cν => o_GR Cν.s0 Cν.r0_17
        have g18 : ∀ ν, CX ν → opGR 11 18 ν 0 = some 132 := fun ν Cν => o_GR Cν.s0 Cν.r0_18
        have s5 : ∀ (ν : dtM) (j : Nat) (v : Int32), CX ν → j < 5 → opSI ν 132 (Int32.ofNat j) v = some (dtSI ν 132 j v) := fun ν j v Cν hj => o_SI Cν.s132 hj (by decide)
        have gi : ∀ (ν : dtM) (j : Nat) (v : Int32), CX ν → dtI ν 130 j = v → opGI 6 j ν 130 = some v := fun ν j v Cν e => by rw [o_GI Cν.s130, e]
        have ci : ∀ (ν : dtM) (j j2 : Nat) (u v : Int32), dtI ν 130 j = v → dtI (dtSI ν 132 j2 u) 130 j = v := fun ν j j2 u v e => by rw [m_I_SI, if_neg (by omega)]; exact e
        have Ca : CX (dtSI μ1 132 0 (Int32.ofNat (qm r.2.1))) := C1.SI
        have Cb : CX (dtSI (dtSI μ1 132 0 (Int32.ofNat (qm r.2.1))) 132 1 (Int32.ofNat (qk r.2.1))) := Ca.SI
        have Cc : CX (dtSI (dtSI (dtSI μ1 132 0 (Int32.ofNat (qm r.2.1))) 132 1 (Int32.ofNat (qk r.2.1))) 132 2 (Int32.ofNat (qc r.2.1))) := Cb.SI
        have Cd : CX (dtSI (dtSI (dtSI (dtSI μ1 132 0 (Int32.ofNat (qm r.2.1))) 132 1 (Int32.ofNat (qk r.2.1))) 132 2 (Int32.ofNat (qc r.2.1))) 132 3 (Int32.ofNat (qp r.2.1))) := Cc.SI
        have Ce : CX (dtSI (dtSI (dtSI (dtSI (dtSI μ1 132 0 (Int32.ofNat (qm r.2.1))) 132 1 (Int32.ofNat (qk r.2.1))) 132 2 (Int32.ofNat (qc r.2.1))) 132 3 (Int32.ofNat (qp r.2.1))) 132 4 (Int32.ofNat r.2.2)) := Cd.SI
        have e126 : (if Int32.ofNat r.2.2 = 0 then (f_X11_live_126 0 132 (4 : Int32) (0 : Int32) (dtSI (dtSI (dtSI (dtSI μ1 132 0 (Int32.ofNat (qm r.2.1))) 132 1 (Int32.ofNat (qk r.2.1))) 132 2 (Int32.ofNat (qc r.2.1))) 132 3 (Int32.ofNat (qp r.2.1)))) else (f_X11_live_126 0 132 (4 : Int32) (1 : Int32) (dtSI (dtSI (dtSI (dtSI μ1 132 0 (Int32.ofNat (qm r.2.1))) 132 1 (Int32.ofNat (qk r.2.1))) 132 2 (Int32.ofNat (qc r.2.1))) 132 3 (Int32.ofNat (qp r.2.1))))) = some (Int32.ofNat (qn r.2.1), dtSI (dtSI (dtSI (dtSI (dtSI (dtSI μ1 132 0 (Int32.ofNat (qm r.2.1))) 132 1 (Int32.ofNat (qk r.2.1))) 132 2 (Int32.ofNat (qc r.2.1))) 132 3 (Int32.ofNat (qp r.2.1))) 132 4 (Int32.ofNat r.2.2)) 0 0 (Int32.ofNat 0)) := by
          have tl : f_X11_live_126 0 132 (4 : Int32) (Int32.ofNat r.2.2) (dtSI (dtSI (dtSI (dtSI μ1 132 0 (Int32.ofNat (qm r.2.1))) 132 1 (Int32.ofNat (qk r.2.1))) 132 2 (Int32.ofNat (qc r.2.1))) 132 3 (Int32.ofNat (qp r.2.1))) = some (Int32.ofNat (qn r.2.1), dtSI (dtSI (dtSI (dtSI (dtSI (dtSI μ1 132 0 (Int32.ofNat (qm r.2.1))) 132 1 (Int32.ofNat (qk r.2.1))) 132 2 (Int32.ofNat (qc r.2.1))) 132 3 (Int32.ofNat (qp r.2.1))) 132 4 (Int32.ofNat r.2.2)) 0 0 (Int32.ofNat 0)) := by
            rw [f_X11_live_126, show (4 : Int32) = Int32.ofNat 4 from rfl, s5 _ 4 _ Cd (by decide), o_bind, g17 _ Ce, o_bind, gi _ 2 _ Ce (ci _ _ _ _ _ (ci _ _ _ _ _ (ci _ _ _ _ _ (ci _ _ _ _ _ (ci _ _ _ _ _ a2))))), o_bind, Ce.v0, o_bind, p_ans Ce, o_call]
          have c01 : r.2.2 = 0 ∨ r.2.2 = 1 := by omega
          rcases c01 with c | c
          · rw [c] at tl ⊢
            rw [if_pos (by decide)]; exact tl
          · rw [c] at tl ⊢
            rw [if_neg (by decide)]; exact tl
        refine ⟨dtSI (dtSI (dtSI (dtSI (dtSI (dtSI μ1 132 0 (Int32.ofNat (qm r.2.1))) 132 1 (Int32.ofNat (qk r.2.1))) 132 2 (Int32.ofNat (qc r.2.1))) 132 3 (Int32.ofNat (qp r.2.1))) 132 4 (Int32.ofNat r.2.2)) 0 0 (Int32.ofNat 0), ?_, ?_, ?_⟩
        rotate_left
        · exact (((((((F1.wide (Q := LPq) (fun k j x => by have y : (w.1 ≤ k ∧ k ≤ w.1 + 12) ∨ k = 123 ∨ k = 130 ∨ k = 131 := x; show k < 133; omega)).tr (Fr.SI (show 132 < 133 by decide))).tr (Fr.SI (show 132 < 133 by decide))).tr (Fr.SI (show 132 < 133 by decide))).tr (Fr.SI (show 132 < 133 by decide))).tr (Fr.SI (show 132 < 133 by decide))).tr (Fr.SI (show 0 < 133 by decide)))
        · have F2 : Fr (fun k j => k = 132 ∨ (k = 0 ∧ j = 0)) μ1 (dtSI (dtSI (dtSI (dtSI (dtSI (dtSI μ1 132 0 (Int32.ofNat (qm r.2.1))) 132 1 (Int32.ofNat (qk r.2.1))) 132 2 (Int32.ofNat (qc r.2.1))) 132 3 (Int32.ofNat (qp r.2.1))) 132 4 (Int32.ofNat r.2.2)) 0 0 (Int32.ofNat 0)) := (((((Fr.SI (Or.inl rfl)).tr (Fr.SI (Or.inl rfl))).tr (Fr.SI (Or.inl rfl))).tr (Fr.SI (Or.inl rfl))).tr (Fr.SI (Or.inl rfl))).tr (Fr.SI (Or.inr ⟨rfl, rfl⟩))
          refine HP.lv ((F1.wide (fun k j x => ?_)).tr (F2.wide (fun k j x => ?_))) ⟨by rw [m_I_SI, if_pos ⟨rfl, rfl⟩], ?_, ?_⟩ (HH1.kept F2 (by intros; omega)) ⟨Nat.le_refl _, fun x => absurd x (show ¬ (1 : Nat) = 0 by decide), fun _ => ⟨?_, fun j hj => ?_⟩⟩ (L1.kept F2 (by intros; omega))
          · have y : (w.1 ≤ k ∧ k ≤ w.1 + 12) ∨ k = 123 ∨ k = 130 ∨ k = 131 := x
            unfold ScHP ScP; omega
          · unfold ScHP ScP; omega
          · rw [F2.j (by omega), F1.j (fun x => by have y : (w.1 ≤ 0 ∧ 0 ≤ w.1 + 12) ∨ 0 = 123 ∨ 0 = 130 ∨ 0 = 131 := x; omega)]; exact HP.2.2.1.2.1
          · rw [F2.j (by omega), F1.j (fun x => by have y : (w.1 ≤ 0 ∧ 0 ≤ w.1 + 12) ∨ 0 = 123 ∨ 0 = 130 ∨ 0 = 131 := x; omega)]; exact HP.2.2.1.2.2
          · show ¬ Int32.ofNat (qm r.2.1) = -Int32.ofNat 1
            have := ok1.2.1
            have := ok1.2.2
            rw [z_neg (by omega)]; exact id
          · have h5 : j = 0 ∨ j = 1 ∨ j = 2 ∨ j = 3 ∨ j = 4 := by omega
            rcases h5 with rfl | rfl | rfl | rfl | rfl
            · rw [m_I_SI, if_neg (by omega), m_I_SI, if_neg (by omega), m_I_SI, if_neg (by omega), m_I_SI, if_neg (by omega), m_I_SI, if_neg (by omega), m_I_SI, if_pos ⟨rfl, rfl⟩]; rfl
            · rw [m_I_SI, if_neg (by omega), m_I_SI, if_neg (by omega), m_I_SI, if_neg (by omega), m_I_SI, if_neg (by omega), m_I_SI, if_pos ⟨rfl, rfl⟩]; rfl
            · rw [m_I_SI, if_neg (by omega), m_I_SI, if_neg (by omega), m_I_SI, if_neg (by omega), m_I_SI, if_pos ⟨rfl, rfl⟩]; rfl
            · rw [m_I_SI, if_neg (by omega), m_I_SI, if_neg (by omega), m_I_SI, if_pos ⟨rfl, rfl⟩]; rfl
            · rw [m_I_SI, if_neg (by omega), m_I_SI, if_pos ⟨rfl, rfl⟩]; rfl
        · rw [f_X11_live, lv_f, hq, o_call, if_neg (by decide), g7, o_bind, gt, h1, o_bind, if_neg (by decide), g17 _ C, o_bind, g5, o_bind, o_bind, C.g0_14, o_bind, o_Rv C.s130, o_bind, e1, o_bind, g18 _ C1, o_bind, g17 _ C1, o_bind, gi _ 3 _ C1 a3, o_bind, show (0 : Int32) = Int32.ofNat 0 from rfl, s5 _ 0 _ C1 (by decide), o_bind, g18 _ Ca, o_bind, g17 _ Ca, o_bind, gi _ 4 _ Ca (ci _ _ _ _ _ em), o_bind, show (1 : Int32) = Int32.ofNat 1 from rfl, s5 _ 1 _ Ca (by decide), o_bind, g18 _ Cb, o_bind, g17 _ Cb, o_bind, gi _ 5 _ Cb (ci _ _ _ _ _ (ci _ _ _ _ _ a4)), o_bind, show (2 : Int32) = Int32.ofNat 2 from rfl, s5 _ 2 _ Cb (by decide), o_bind, g18 _ Cc, o_bind, g17 _ Cc, o_bind, gi _ 6 _ Cc (ci _ _ _ _ _ (ci _ _ _ _ _ (ci _ _ _ _ _ a5))), o_bind, show (3 : Int32) = Int32.ofNat 3 from rfl, s5 _ 3 _ Cc (by decide), o_bind, g18 _ Cd, o_bind, g17 _ Cd, o_bind, gi _ 7 _ Cd (ci _ _ _ _ _ (ci _ _ _ _ _ (ci _ _ _ _ _ (ci _ _ _ _ _ ec)))), o_bind]
          exact e126
      · have Cx := Rx.c
        obtain ⟨μa, ea, Ea⟩ := n_lives Cx Rx.mh Rx.ml h1 Rx.md W (show s < 65536 by omega)
        rw [er] at Ea
        obtain ⟨Fa, Ma, m35, ⟨b0, b1, b2, b3, b4⟩, La⟩ := Ea
        have Ca := Cx.kept Fa
        obtain ⟨μb, eb, Fb, gb⟩ := lm43 5 dtFuel 0 μa (by omega) (dtFuel_gt (by decide)) Ca
        have e7 : dtI μx 134 7 = Int32.ofNat (dLen (zD z)) := (Rx.md.2 h1).1
        have Fc : Fr (fun k j => k = 133 ∧ (j = 2 ∨ j = 39)) μb (dtSI (dtSI μb 133 39 (Int32.ofNat 1)) 133 2 (Int32.ofNat 0)) := (Fr.SI ⟨rfl, Or.inr rfl⟩).tr (Fr.SI ⟨rfl, Or.inl rfl⟩)
        have Fbc : Fr (fun k j => k = 153 ∨ (k = 133 ∧ (j = 2 ∨ j = 39))) μa (dtSI (dtSI μb 133 39 (Int32.ofNat 1)) 133 2 (Int32.ofNat 0)) := (Fb.wide (fun k j x => Or.inl x.1)).tr (Fc.wide (fun k j x => Or.inr x))
        refine ⟨dtSI (dtSI μb 133 39 (Int32.ofNat 1)) 133 2 (Int32.ofNat 0), ?_, ?_, ?_⟩
        rotate_left
        · refine (Fa.wide (fun k j x => ?_)).tr (Fbc.wide (fun k j x => ?_))
          · have y : (k = 134 ∧ (j < 136 ∧ ¬ j = 7)) ∨ k = 142 ∨ k = 152 ∨ k = 151 ∨ (k = 133 ∧ (j = 34 ∨ j = 35)) := x
            show 133 ≤ k ∧ k < 154; omega
          · show 133 ≤ k ∧ k < 154; omega
        · refine Rx.lv ((Fa.wide (fun k j x => ?_)).tr (Fbc.wide (fun k j x => ?_))) ⟨by rw [m_I_SI, if_pos ⟨rfl, rfl⟩], ?_, ?_⟩ (Ma.keptAt Fbc (by intros; omega) (by intros; omega)) ((Rx.md.ru W Fa).kept W Fbc (by intros; omega)) ⟨Nat.le_refl _, ?_, fun _ j hj => ?_⟩ (La.kept Fbc (by intros; omega))
          · have y : (k = 134 ∧ (j < 136 ∧ ¬ j = 7)) ∨ k = 142 ∨ k = 152 ∨ k = 151 ∨ (k = 133 ∧ (j = 34 ∨ j = 35)) := x
            unfold ScHM ScM; omega
          · unfold ScHM ScM; omega
          · rw [Fbc.j (by omega), Fa.j (fun x => by have y : (133 = 134 ∧ (3 < 136 ∧ ¬ 3 = 7)) ∨ 133 = 142 ∨ 133 = 152 ∨ 133 = 151 ∨ (133 = 133 ∧ (3 = 34 ∨ 3 = 35)) := x; omega)]; exact Rx.2.1.2.1
          · rw [Fbc.j (by omega), Fa.j (fun x => by have y : (133 = 134 ∧ (4 < 136 ∧ ¬ 4 = 7)) ∨ 133 = 142 ∨ 133 = 152 ∨ 133 = 151 ∨ (133 = 133 ∧ (4 = 34 ∨ 4 = 35)) := x; omega)]; exact Rx.2.1.2.2
          · rw [m_I_SI, if_neg (by omega), m_I_SI, if_pos ⟨rfl, rfl⟩]; rfl
          · rw [Fc.i (by omega), gb j (Nat.zero_le _) hj]
            have h5 : j = 0 ∨ j = 1 ∨ j = 2 ∨ j = 3 ∨ j = 4 := by omega
            rcases h5 with rfl | rfl | rfl | rfl | rfl
            · exact b0
            · exact b1
            · exact b2
            · exact b3
            · exact b4
        · rw [f_X12_live, lv_g, hq, o_call, if_neg (by decide), Cx.g133_0, o_bind, m7 μx Rx, o_bind, e7, if_neg (show ¬ Int32.ofNat (dLen (zD z)) = (-1 : Int32) by rw [show (-1 : Int32) = -Int32.ofNat 1 from rfl, z_neg (by omega)]; exact id), Cx.v133, o_bind, ea, o_bind, show (0 : Int32) = Int32.ofNat 0 from rfl, eb, m35]
/-! mean -/
def mnF (D : aD) (A : aH) (seed : Nat) : Nat → Nat → (Nat → Nat) → Nat → (Nat → Nat) × Nat
  | 0, _, l, s => (l, s)
  | n + 1, i, l, s => mnF D A seed n (i + 1) (ql (rr D A (seed + i) l).2.1) (s + pc (hs (rr D A (seed + i) l).1 5))
theorem mnF_le {D : aD} {A : aH} {seed : Nat} : ∀ (n i : Nat) (l : Nat → Nat) (s : Nat), (mnF D A seed n i l s).2 ≤ s + 10 * n
  | 0, _, _, _ => Nat.le_refl _
  | n + 1, i, l, s => by
    rw [mnF]
    have := mnF_le (D := D) (A := A) (seed := seed) n (i + 1) (ql (rr D A (seed + i) l).2.1) (s + pc (hs (rr D A (seed + i) l).1 5))
    have := pc_le (s := hs (rr D A (seed + i) l).1 5)
    omega
theorem CX.pShw {μ : dtM} (C : CX μ) {h : Nat} (hh : h = 12 ∨ h = 25) : pSh μ h := by
  rcases hh with rfl | rfl
  · exact C.pSh12
  · exact C.pSh25
/-- the program's side of a mean: between two runs -/
abbrev Pmn (w : aW) : Nat → Nat → Prop := fun k _ => (w.2.1 ≤ k ∧ k ≤ w.2.1 + 12) ∨ k = 123 ∨ k = 130 ∨ k = 131
theorem mp60 {w : aW} {f : aF} {A : aH} {z : aZ} (W : dWF A (zD z)) (h1 : (zD z).1 = 1) {seed N : Nat} (hN : N ≤ 20) (hseed : seed < 10000) {μ0 : dtM} (HP : RP μ0 w f A z) : ∀ (n fu i : Nat) (l : Nat → Nat) (s : Nat) (μ : dtM), i + n = N → n < fu → s ≤ 10 * i → Fr (Pmn w) μ0 μ → PL μ l → ∃ μ', f_X11_mean_60 fu 0 (Int32.ofNat seed) (Int32.ofNat N) (Int64.ofNat s) (Int32.ofNat i) μ = (f_X11_tellFraction 0 (Int64.ofNat (mnF (zD z) A seed n i l s).2) (Int32.ofNat N).toInt64 μ').bind (fun μ5 => (opRv 11 μ5 0).bind fun _ => opCall (f_X11_agree 0 μ5) fun x10 μ8 => opRet x10 μ8) ∧ Fr (Pmn w) μ0 μ' ∧ PL μ' (mnF (zD z) A seed n i l s).1 := by
  have wo := HP.2.1.1
  intro n
  induction n with
  | zero =>
    intro fu i l s μ e hf hs' F L
    cases fu with
    | zero => omega
    | succ fu =>
      have C := HP.c.kept F
      refine ⟨μ, ?_, F, L⟩
      rw [f_X11_mean_60, if_pos (show Int32.ofNat N ≤ Int32.ofNat i by rw [z_le (by omega) (by omega)]; omega), C.v0, o_bind]; rfl
  | succ n ih =>
    intro fu i l s μ e hf hs' F L
    cases fu with
    | zero => omega
    | succ fu =>
      have C := HP.c.kept F
      have HH : PH μ w.1 A := HP.ph.kept F (fun k a b j x => by
        have y : (w.2.1 ≤ k ∧ k ≤ w.2.1 + 12) ∨ k = 123 ∨ k = 130 ∨ k = 131 := x
        have := wo.1; omega)
      have Dd : PD μ w.2.2.1 (zD z) := HP.pd.kept F (fun k j a b x => by
        have y : (w.2.1 ≤ k ∧ k ≤ w.2.1 + 12) ∨ k = 123 ∨ k = 130 ∨ k = 131 := x
        have := wo.1; have := wo.2; omega)
      have hw2 : w.2.1 = 12 ∨ w.2.1 = 25 := by have := wo.1; omega
      have hw : (w.2.1 = 12 ∨ w.2.1 = 25) ∧ (w.2.2.1 = 38 ∨ w.2.2.1 = 45) := ⟨hw2, wo.2.elim (fun x => Or.inl x.1) (fun x => Or.inr x.1)⟩
      obtain ⟨μ1, e1, F1, H1⟩ := HH.copyFrom (p := w.2.1) (C.pShw hw2) (by have := wo.1; omega)
      have C1 := C.kept F1
      have L1 : PL μ1 l := L.kept F1 (by intros; have := wo.1; omega)
      have D1 : PD μ1 w.2.2.1 (zD z) := Dd.kept F1 (by intros; have := wo.1; have := wo.2; omega)
      obtain ⟨μ2, e2, E2⟩ := p_run0 (seed := seed + i) C1 H1 L1 hw h1 D1 (C1.dShw hw.2) W (by omega)
      have er : rN (zD z) 1000000 A (q0 (seed + i) l) 0 = rr (zD z) A (seed + i) l := rfl
      rw [er] at E2
      rw [mnF]
      obtain ⟨F2, H2, _⟩ := E2
      have C2 := C1.kept F2
      have F01 : Fr (Pmn w) μ0 μ1 := F.tr (F1.wide (fun k j x => Or.inl x))
      have F02 : Fr (Pmn w) μ0 μ2 := F01.tr F2
      have rg : ∀ ν, Fr (Pmn w) μ0 ν → opGR 11 5 ν 0 = some w.1 ∧ opGR 11 6 ν 0 = some w.2.1 ∧ opGR 11 7 ν 0 = some w.2.2.1 := fun ν G => ⟨o_GR (HP.c.kept G).s0 (by rw [G.Ra]; exact HP.2.1.2.1), o_GR (HP.c.kept G).s0 (by rw [G.Ra]; exact HP.2.1.2.2.1), o_GR (HP.c.kept G).s0 (by rw [G.Ra]; exact HP.2.1.2.2.2.1)⟩
      have hop := H2.ph.op1
      obtain ⟨μ3, e3, F3, L3⟩ := ih fu (i + 1) (ql (rr (zD z) A (seed + i) l).2.1) (s + pc (hs (rr (zD z) A (seed + i) l).1 5)) μ2 (by omega) (by omega) (by have := pc_le (s := hs (rr (zD z) A (seed + i) l).1 5); omega) F02 H2.2.2.2.2
      refine ⟨μ3, ?_, F3, L3⟩
      rw [← e3, f_X11_mean_60, if_neg (show ¬ Int32.ofNat N ≤ Int32.ofNat i by rw [z_le (by omega) (by omega)]; omega), (rg μ F).2.1, o_bind, (rg μ F).1, o_bind, o_Rv (C.pShw hw2).1.1, o_bind, e1, o_bind, o_GR C1.s0 C1.r0_17, o_bind, (rg μ1 F01).2.1, o_bind, (rg μ1 F01).2.2, o_bind, C1.g0_14, o_bind, o_Rv C1.s130, o_bind, z_add, e2, o_bind, (rg μ2 F02).2.1, o_bind, H2.ph.g5, o_bind, f_bitCount hop, o_call, j_of (show pc (hs (rr (zD z) A (seed + i) l).1 5) < 2147483648 by have := pc_le (s := hs (rr (zD z) A (seed + i) l).1 5); omega), j_add, o_bind, show (1 : Int32) = Int32.ofNat 1 from rfl, z_add]
theorem mm61 {x y : Int32} : ∀ (n f i : Nat) (μ : dtM), i + n = 136 → n < f → CX μ → ∃ μ', f_X12_mean_61 f 133 x y (Int32.ofNat i) μ = f_X12_mean_95 dtFuel 133 x y (0 : Int64) (0 : Int32) μ' ∧ Fr (fun k j => k = 134 ∧ 2520 + i ≤ j) μ μ' ∧ ∀ k, i ≤ k → k < 136 → dtI μ' 134 (2520 + k) = dtI μ 134 k := by
  intro n
  induction n with
  | zero =>
    intro f i μ e hf C
    cases f with
    | zero => omega
    | succ f =>
      refine ⟨μ, ?_, Fr.rf, fun k h1 h2 => by omega⟩
      rw [f_X12_mean_61, if_pos (show (136 : Int32) ≤ Int32.ofNat i by rw [show (136 : Int32) = Int32.ofNat 136 from rfl, z_le (by decide) (by omega)]; omega)]
  | succ n ih =>
    intro f i μ e hf C
    cases f with
    | zero => omega
    | succ f =>
      have F1 : Fr (fun k j => k = 134 ∧ 2520 + i ≤ j) μ (dtSI μ 134 (2520 + i) (dtI μ 134 i)) := Fr.SI ⟨rfl, Nat.le_refl _⟩
      obtain ⟨μ2, e2, F2, g2⟩ := ih f (i + 1) _ (by omega) (by omega) (C.kept F1)
      refine ⟨μ2, ?_, F1.tr (F2.wide (fun k j x => ⟨x.1, by omega⟩)), fun k h1 h2 => ?_⟩
      · rw [← e2, f_X12_mean_61, if_neg (show ¬ (136 : Int32) ≤ Int32.ofNat i by rw [show (136 : Int32) = Int32.ofNat 136 from rfl, z_le (by decide) (by omega)]; omega), C.g133_0, o_bind, o_bind, o_LI C.s134 (show i < 2656 by omega) (by decide), o_bind, show (2520 : Int32) = Int32.ofNat 2520 from rfl, z_add, o_SI C.s134 (show 2520 + i < 2656 by omega) (by decide), o_bind, show (1 : Int32) = Int32.ofNat 1 from rfl, z_add]
      · by_cases x : k = i
        · subst x
          rw [F2.i (by omega), m_I_SI, if_pos ⟨rfl, rfl⟩]
        · rw [g2 k (by omega) h2, m_I_SI, if_neg (by omega)]
theorem mm125 {x y : Int32} {s : Int64} {c : Nat} (K : Nat → Int32 → Int32 → Int64 → Int32 → dtM → Option (Int32 × dtM)) : ∀ (n f i : Nat) (μ : dtM), i + n = 136 → n < f → CX μ → ∃ μ', f_X12_mean_125 K f 133 x y s (Int32.ofNat c) (Int32.ofNat i) μ = K 133 x y s (Int32.ofNat (c + 1)) μ' ∧ Fr (fun k j => k = 134 ∧ i ≤ j ∧ j < 136) μ μ' ∧ ∀ k, i ≤ k → k < 136 → dtI μ' 134 k = dtI μ 134 (2520 + k) := by
  intro n
  induction n with
  | zero =>
    intro f i μ e hf C
    cases f with
    | zero => omega
    | succ f =>
      refine ⟨μ, ?_, Fr.rf, fun k h1 h2 => by omega⟩
      rw [f_X12_mean_125, if_pos (show (136 : Int32) ≤ Int32.ofNat i by rw [show (136 : Int32) = Int32.ofNat 136 from rfl, z_le (by decide) (by omega)]; omega), show (1 : Int32) = Int32.ofNat 1 from rfl, z_add]
  | succ n ih =>
    intro f i μ e hf C
    cases f with
    | zero => omega
    | succ f =>
      have F1 : Fr (fun k j => k = 134 ∧ i ≤ j ∧ j < 136) μ (dtSI μ 134 i (dtI μ 134 (2520 + i))) := Fr.SI ⟨rfl, Nat.le_refl _, by omega⟩
      obtain ⟨μ2, e2, F2, g2⟩ := ih f (i + 1) _ (by omega) (by omega) (C.kept F1)
      refine ⟨μ2, ?_, F1.tr (F2.wide (fun k j x => ⟨x.1, by omega, x.2.2⟩)), fun k h1 h2 => ?_⟩
      · rw [← e2, f_X12_mean_125, if_neg (show ¬ (136 : Int32) ≤ Int32.ofNat i by rw [show (136 : Int32) = Int32.ofNat 136 from rfl, z_le (by decide) (by omega)]; omega), C.g133_0, o_bind, o_bind, show (2520 : Int32) = Int32.ofNat 2520 from rfl, z_add, o_LI C.s134 (show 2520 + i < 2656 by omega) (by decide), o_bind, o_SI C.s134 (show i < 2656 by omega) (by decide), o_bind, show (1 : Int32) = Int32.ofNat 1 from rfl, z_add]
      · by_cases x : k = i
        · subst x
          rw [F2.i (by omega), m_I_SI, if_pos ⟨rfl, rfl⟩]
        · rw [g2 k (by omega) h2, m_I_SI, if_neg (by omega)]
/-- the model's side of a mean: between two runs -/
abbrev Mmn : Nat → Nat → Prop := fun k j => (k = 134 ∧ (j < 136 ∨ 2016 ≤ j)) ∨ k = 142 ∨ k = 152 ∨ k = 151 ∨ (k = 133 ∧ (j = 34 ∨ j = 35))
def mnI (μ0 μ : dtM) : Prop := Fr Mmn μ0 μ ∧ (∀ j, j < 136 → dtI μ 134 j = dtI μ0 134 j) ∧ ∀ k, k < 136 → dtI μ 134 (2520 + k) = dtI μ0 134 k
theorem mnI.x {μ0 μ : dtM} (I : mnI μ0 μ) : ∀ x, x < 504 → dtI μ 134 (504 * 0 + x) = dtI μ0 134 (504 * 0 + x) := fun x hx => by
  rw [Nat.mul_zero, Nat.zero_add]
  by_cases h : x < 136
  · exact I.2.1 x h
  · exact I.1.i (fun y => by
      have z : (134 = 134 ∧ (x < 136 ∨ 2016 ≤ x)) ∨ 134 = 142 ∨ 134 = 152 ∨ 134 = 151 ∨ (134 = 133 ∧ (x = 34 ∨ x = 35)) := y
      omega)
theorem mnI.mh {μ0 μ : dtM} {A : aH} (I : mnI μ0 μ) (M : MH μ0 0 0 A) : MH μ 0 0 A := MH.copied (a := 0) (b := 0) M I.1 I.x (fun x _ => I.1.j (fun y => by
  have z : (135 = 134 ∧ (19 * 0 + x < 136 ∨ 2016 ≤ 19 * 0 + x)) ∨ 135 = 142 ∨ 135 = 152 ∨ 135 = 151 ∨ (135 = 133 ∧ (19 * 0 + x = 34 ∨ 19 * 0 + x = 35)) := y
  omega))
theorem mnI.md {μ0 μ : dtM} {A : aH} {D : aD} (I : mnI μ0 μ) (M : MD μ0 0 D) (W : dWF A D) : MD μ 0 D := MD.copied (a := 0) (b := 0) M W I.x
theorem mm95 {f : aF} {A : aH} {z : aZ} (W : dWF A (zD z)) (h1 : (zD z).1 = 1) {seed N : Nat} (hN : N ≤ 20) (hseed : seed < 10000) {μ0 : dtM} (HM : RM μ0 f A z) : ∀ (n fu i : Nat) (l : Nat → Nat) (s : Nat) (μ : dtM), i + n = N → n < fu → s ≤ 10 * i → mnI μ0 μ → ML μ l → ∃ μ', f_X12_mean_95 fu 133 (Int32.ofNat seed) (Int32.ofNat N) (Int64.ofNat s) (Int32.ofNat i) μ = opCall (f_X12_tellsBy 133 (Int64.ofNat (mnF (zD z) A seed n i l s).2) (Int32.ofNat N).toInt64 μ') (fun x7 μ5 => opRet x7 μ5) ∧ mnI μ0 μ' ∧ ML μ' (mnF (zD z) A seed n i l s).1 := by
  intro n
  induction n with
  | zero =>
    intro fu i l s μ e hf hs' I L
    cases fu with
    | zero => omega
    | succ fu =>
      have C := HM.c.kept I.1
      refine ⟨μ, ?_, I, L⟩
      rw [f_X12_mean_95, if_pos (show Int32.ofNat N ≤ Int32.ofNat i by rw [z_le (by omega) (by omega)]; omega), C.v133, o_bind]; rfl
  | succ n ih =>
    intro fu i l s μ e hf hs' I L
    cases fu with
    | zero => omega
    | succ fu =>
      have C := HM.c.kept I.1
      obtain ⟨μ1, e1, E1⟩ := n_lives (seed := seed + i) C (I.mh HM.mh) L h1 (I.md HM.md W) W (by omega)
      have er : rN (zD z) 1000000 A (q0 (seed + i) l) 0 = rr (zD z) A (seed + i) l := rfl
      rw [er] at E1
      rw [mnF]
      obtain ⟨F1, M1, _, _, L1⟩ := E1
      have C1 := C.kept F1
      have hop : hs (rr (zD z) A (seed + i) l).1 5 < 1024 := Nat.lt_of_lt_of_le M1.2.2.1.2.2.2.2.2 (Nat.pow_le_pow_right (n := 2) (by decide) M1.nd)
      have g5 : opLI 1 μ1 134 (5 : Int32) = some (Int32.ofNat (hs (rr (zD z) A (seed + i) l).1 5)) := M1.gj (j := 5) (by decide)
      obtain ⟨μ2, e2, F2, g2⟩ := mm125 (x := Int32.ofNat seed) (y := Int32.ofNat N) (s := Int64.ofNat (s + pc (hs (rr (zD z) A (seed + i) l).1 5))) (c := i) (f_X12_mean_95 fu) 136 dtFuel 0 μ1 (by omega) (dtFuel_gt (by decide)) C1
      have I2 : mnI μ0 μ2 := by
        refine ⟨(I.1.tr (F1.wide (fun k j x => ?_))).tr (F2.wide (fun k j x => ?_)), fun j hj => ?_, fun k hk => ?_⟩
        · have y : (k = 134 ∧ (j < 136 ∧ ¬ j = 7)) ∨ k = 142 ∨ k = 152 ∨ k = 151 ∨ (k = 133 ∧ (j = 34 ∨ j = 35)) := x
          show (k = 134 ∧ (j < 136 ∨ 2016 ≤ j)) ∨ k = 142 ∨ k = 152 ∨ k = 151 ∨ (k = 133 ∧ (j = 34 ∨ j = 35))
          omega
        · show (k = 134 ∧ (j < 136 ∨ 2016 ≤ j)) ∨ k = 142 ∨ k = 152 ∨ k = 151 ∨ (k = 133 ∧ (j = 34 ∨ j = 35))
          omega
        · rw [g2 j (Nat.zero_le _) hj, F1.i (fun x => by
            have y : (134 = 134 ∧ (2520 + j < 136 ∧ ¬ 2520 + j = 7)) ∨ 134 = 142 ∨ 134 = 152 ∨ 134 = 151 ∨ (134 = 133 ∧ (2520 + j = 34 ∨ 2520 + j = 35)) := x
            omega)]
          exact I.2.2 j hj
        · rw [F2.i (by omega), F1.i (fun x => by
            have y : (134 = 134 ∧ (2520 + k < 136 ∧ ¬ 2520 + k = 7)) ∨ 134 = 142 ∨ 134 = 152 ∨ 134 = 151 ∨ (134 = 133 ∧ (2520 + k = 34 ∨ 2520 + k = 35)) := x
            omega)]
          exact I.2.2 k hk
      obtain ⟨μ3, e3, I3, L3⟩ := ih fu (i + 1) (ql (rr (zD z) A (seed + i) l).2.1) (s + pc (hs (rr (zD z) A (seed + i) l).1 5)) μ2 (by omega) (by omega) (by have := pc_le (s := hs (rr (zD z) A (seed + i) l).1 5); omega) I2 (L1.kept F2 (by intros; omega))
      refine ⟨μ3, ?_, I3, L3⟩
      rw [← e3, ← e2, f_X12_mean_95, if_neg (show ¬ Int32.ofNat N ≤ Int32.ofNat i by rw [z_le (by omega) (by omega)]; omega), C.v133, o_bind, z_add, e1, o_bind, C1.g133_0, o_bind, g5, o_bind, f_bits hop, o_call, j_of (show pc (hs (rr (zD z) A (seed + i) l).1 5) < 2147483648 by have := pc_le (s := hs (rr (zD z) A (seed + i) l).1 5); omega), j_add, o_bind]; rfl
theorem mn_w {μ : dtM} {x : Int32} : f_X11_within x (1 : Int32) (20 : Int32) μ = some (bI (inR x 21 && !decide (x = Int32.ofNat 0)), μ) := f_within1 (n := 20) (by decide)
theorem mn_f {μ : dtM} {x : Int32} : f_X12_isFrom x.toInt64 (1 : Int64) (20 : Int64) μ = some (bI (inR x 21 && !decide (x = Int32.ofNat 0)), μ) := f_isFrom1 (n := 20) (by decide)
theorem mn_32 {μ : dtM} (C : CX μ) : f_X11_mean_32 0 μ = some (bI false, dtSI μ 0 0 (Int32.ofNat 1)) := by
  rw [f_X11_mean_32, C.v0, o_bind, show (1 : Int32) = Int32.ofNat 1 from rfl, p_refuse C, o_call, o_bI]
theorem mn_35 {μ : dtM} (C : CX μ) : f_X12_mean_35 133 μ = some (bI false, dtSI μ 133 2 (Int32.ofNat 1)) := by
  rw [f_X12_mean_35, C.v133, o_bind, show (1 : Int32) = Int32.ofNat 1 from rfl, n_isW C (by decide), o_call, o_bI]
theorem cs53 {μ : dtM} {w : aW} {f : aF} {A : aH} {z : aZ} (HP : RP μ w f A z) (HM : RM μ f A z) (W : dWF A (zD z)) (x y : Int32) : both (f_X11_mean 0 x y) (f_X12_mean 133 x y) μ := by
  have C := HP.c
  have HH := HP.ph
  have g7 := HP.g7
  have gt := HP.there
  have wo := HP.2.1.1
  cases hq : inR x 10000
  · refine both.no HP HM W (bI false) (Int32.ofNat 1) ?_ (fun μ1 R1 => ?_)
    · rw [f_X11_mean, lv_f, hq, o_call, if_pos (by decide), mn_32 C]
    · rw [f_X12_mean, lv_g, hq, o_call, if_pos (by decide), mn_35 R1.c]
  · obtain ⟨s, hs9, rfl⟩ := inR_t (by decide) hq
    cases hy : (inR y 21 && !decide (y = Int32.ofNat 0))
    · refine both.no HP HM W (bI false) (Int32.ofNat 1) ?_ (fun μ1 R1 => ?_)
      · rw [f_X11_mean, lv_f, hq, o_call, if_neg (by decide), mn_w, hy, o_call, if_pos (by decide), mn_32 C]
      · rw [f_X12_mean, lv_g, hq, o_call, if_neg (by decide), mn_f, hy, o_call, if_pos (by decide), mn_35 R1.c]
    · have hy2 := hy
      rw [Bool.and_eq_true] at hy2
      obtain ⟨n, hn, rfl⟩ := inR_t (by decide) hy2.1
      have n1 : 1 ≤ n := by
        by_cases e : n = 0
        · subst e; exact absurd hy2.2 (by decide)
        · omega
      have es : Int32.ofNat s + Int32.ofNat n - 1 = Int32.ofNat (s + n - 1) := by
        rw [z_add, show (1 : Int32) = Int32.ofNat 1 from rfl, z_sub (by omega)]
      by_cases h9 : s + n - 1 ≤ 9999
      · have hD : (zD z).1 = 0 ∨ (zD z).1 = 1 := by have := W.1; omega
        have m7 : ∀ μ1, RM μ1 f A z → opLI 1 μ1 134 (7 : Int32) = some (dtI μ1 134 7) := fun μ1 R1 => o_LI (i := 7) R1.c.s134 (by decide) (by decide)
        have l9 : Int32.ofNat (s + n - 1) ≤ (9999 : Int32) := by rw [show (9999 : Int32) = Int32.ofNat 9999 from rfl, z_le (by omega) (by decide)]; exact h9
        rcases hD with h0 | h1
        · refine both.no HP HM W (bI false) (Int32.ofNat 6) ?_ (fun μ1 R1 => ?_)
          · rw [f_X11_mean, lv_f, hq, o_call, if_neg (by decide), mn_w, hy, o_call, if_neg (by decide), es, if_pos l9, g7, o_bind, gt, h0, o_bind, if_pos (by decide), C.v0, o_bind, show (6 : Int32) = Int32.ofNat 6 from rfl, p_refuse C, o_call, o_bI]
          · have C1 := R1.c
            have e7 : dtI μ1 134 7 = (-1 : Int32) := R1.md.1 h0
            rw [f_X12_mean, lv_g, hq, o_call, if_neg (by decide), mn_f, hy, o_call, if_neg (by decide), es, if_pos l9, C1.g133_0, o_bind, m7 μ1 R1, o_bind, if_pos e7, C1.v133, o_bind, show (6 : Int32) = Int32.ofNat 6 from rfl, n_isW C1 (by decide), o_call, o_bI]
        · have h60 := (W.2 h1).1
          have hsum := mnF_le (D := zD z) (A := A) (seed := s) n 0 (zL z) 0
          obtain ⟨r, hr⟩ : ∃ r, mnF (zD z) A s n 0 (zL z) 0 = r := ⟨_, rfl⟩
          rw [hr] at hsum
          refine both.mk HP HM W (v := bI true) (w' := w) (f' := (Int32.ofNat 0, Int64.ofNat (r.2 / Nat.gcd n r.2), Int64.ofNat (n / Nat.gcd n r.2))) (A' := A) (z' := upV z (zV z) r.1) ?_ (fun μx Rx => ?_) W
          · obtain ⟨μ1, e1, F1, L1⟩ := mp60 W h1 (show n ≤ 20 by omega) hs9 HP n dtFuel 0 (zL z) 0 μ (by omega) (dtFuel_gt (by omega)) (Nat.le_refl _) Fr.rf HP.pl
            rw [hr] at e1 L1
            have C1 := C.kept F1
            have ft := f_tell (n := r.2) (d := n) C1.s0 (by omega) ⟨by omega, by omega⟩
            have C2 : CX (tF μ1 r.2 n (Nat.gcd n r.2)) := C1.SJ.SJ
            have F2 : Fr (fun k j => k = 0 ∧ j < 3) μ1 (dtSI (tF μ1 r.2 n (Nat.gcd n r.2)) 0 0 (Int32.ofNat 0)) := ((Fr.SJ ⟨rfl, by decide⟩).tr (Fr.SJ ⟨rfl, by decide⟩)).tr (Fr.SI ⟨rfl, by decide⟩)
            refine ⟨dtSI (tF μ1 r.2 n (Nat.gcd n r.2)) 0 0 (Int32.ofNat 0), ?_, ?_, ?_⟩
            rotate_left
            · refine (F1.wide (fun k j x => ?_)).tr (F2.wide (fun k j x => ?_))
              · have y : (w.2.1 ≤ k ∧ k ≤ w.2.1 + 12) ∨ k = 123 ∨ k = 130 ∨ k = 131 := x
                show k < 133
                have := wo.1; omega
              · show k < 133; omega
            · refine HP.lv ((F1.wide (fun k j x => ?_)).tr (F2.wide (fun k j x => Or.inr (Or.inr (Or.inr x))))) ⟨by rw [m_I_SI, if_pos ⟨rfl, rfl⟩], ?_, ?_⟩ ((HH.kept F1 ?_).kept F2 (by intros; have := wo.1; omega)) ((HP.pv.kept F1 ?_).kept F2 (by intros; omega)) (L1.kept F2 (by intros; omega))
              · have y : (w.2.1 ≤ k ∧ k ≤ w.2.1 + 12) ∨ k = 123 ∨ k = 130 ∨ k = 131 := x
                unfold ScHP ScP
                omega
              · show dtJ (dtSJ (dtSJ μ1 0 1 _) 0 2 _) 0 1 = _
                rw [m_J_SJ, if_neg (by decide), m_J_SJ, if_pos ⟨rfl, rfl⟩]
              · show dtJ (dtSJ (dtSJ μ1 0 1 _) 0 2 _) 0 2 = _
                rw [m_J_SJ, if_pos ⟨rfl, rfl⟩]
              · intro k a b j x
                have y : (w.2.1 ≤ k ∧ k ≤ w.2.1 + 12) ∨ k = 123 ∨ k = 130 ∨ k = 131 := x
                have := wo.1; omega
              · intro j x
                have y : (w.2.1 ≤ 132 ∧ 132 ≤ w.2.1 + 12) ∨ 132 = 123 ∨ 132 = 130 ∨ 132 = 131 := x
                have := wo.1; omega
            · rw [f_X11_mean, lv_f, hq, o_call, if_neg (by decide), mn_w, hy, o_call, if_neg (by decide), es, if_pos l9, g7, o_bind, gt, h1, o_bind, if_neg (by decide), show (0 : Int64) = Int64.ofNat 0 from rfl, show (0 : Int32) = Int32.ofNat 0 from rfl, e1, j_of (by omega), ft, o_bind, C2.v0, o_bind, p_agree C2, o_call, o_bI]
          · have Cx := Rx.c
            obtain ⟨μ1, e1, F1, g1⟩ := mm61 (x := Int32.ofNat s) (y := Int32.ofNat n) 136 dtFuel 0 μx (by omega) (dtFuel_gt (by decide)) Cx
            have I1 : mnI μx μ1 := by
              refine ⟨F1.wide (fun k j x => ?_), fun j hj => F1.i (by omega), fun k hk => g1 k (Nat.zero_le _) hk⟩
              show (k = 134 ∧ (j < 136 ∨ 2016 ≤ j)) ∨ k = 142 ∨ k = 152 ∨ k = 151 ∨ (k = 133 ∧ (j = 34 ∨ j = 35))
              omega
            obtain ⟨μ2, e2, I2, L2⟩ := mm95 W h1 (show n ≤ 20 by omega) hs9 Rx n dtFuel 0 (zL z) 0 μ1 (by omega) (dtFuel_gt (by omega)) (Nat.le_refl _) I1 (Rx.ml.kept F1 (by intros; omega))
            rw [hr] at e2 L2
            have C2 := Cx.kept I2.1
            have ft := f_tells (n := r.2) (d := n) C2.s133 (by omega) ⟨by omega, by omega⟩
            have e7 : dtI μx 134 7 = Int32.ofNat (dLen (zD z)) := (Rx.md.2 h1).1
            have F3 : Fr (fun k j => k = 133 ∧ (j = 2 ∨ j = 3 ∨ j = 4)) μ2 (tM μ2 r.2 n (Nat.gcd n r.2)) := ((Fr.SJ ⟨rfl, Or.inr (Or.inl rfl)⟩).tr (Fr.SJ ⟨rfl, Or.inr (Or.inr rfl)⟩)).tr (Fr.SI ⟨rfl, Or.inl rfl⟩)
            refine ⟨tM μ2 r.2 n (Nat.gcd n r.2), ?_, ?_, ?_⟩
            rotate_left
            · refine (I2.1.wide (fun k j x => ?_)).tr (F3.wide (fun k j x => ?_))
              · have y : (k = 134 ∧ (j < 136 ∨ 2016 ≤ j)) ∨ k = 142 ∨ k = 152 ∨ k = 151 ∨ (k = 133 ∧ (j = 34 ∨ j = 35)) := x
                show 133 ≤ k ∧ k < 154; omega
              · show 133 ≤ k ∧ k < 154; omega
            · have mb : MV μ2 (zV z) := Rx.mv.kept I2.1 (fun j x => by
                have y : (153 = 134 ∧ (j < 136 ∨ 2016 ≤ j)) ∨ 153 = 142 ∨ 153 = 152 ∨ 153 = 151 ∨ (153 = 133 ∧ (j = 34 ∨ j = 35)) := x
                omega) (fun x => by
                have y : (133 = 134 ∧ (39 < 136 ∨ 2016 ≤ 39)) ∨ 133 = 142 ∨ 133 = 152 ∨ 133 = 151 ∨ (133 = 133 ∧ (39 = 34 ∨ 39 = 35)) := x
                omega)
              -- the names of the work row and of the houses stand where they stood
              obtain ⟨_, _, _, T, B, _, K, _, _⟩ := id Rx
              have n2 : ∀ k j, ¬ k = 134 → ¬ k = 142 → ¬ k = 152 → ¬ k = 151 → ¬ (k = 133 ∧ (j = 34 ∨ j = 35)) → ¬ Mmn k j := fun k j a b c d e x => by
                have y : (k = 134 ∧ (j < 136 ∨ 2016 ≤ j)) ∨ k = 142 ∨ k = 152 ∨ k = 151 ∨ (k = 133 ∧ (j = 34 ∨ j = 35)) := x
                omega
              refine ⟨C2.kept F3, ⟨?_, ?_, ?_⟩, (I2.mh Rx.mh).keptAt F3 (by intros; omega) (by intros; omega), (T.kept I2.1 (fun k j a b => n2 k j (by omega) (by omega) (by omega) (by omega) (by omega))).kept F3 (by intros; omega), (B.kept I2.1 (fun j => n2 139 j (by omega) (by omega) (by omega) (by omega) (by omega)) ⟨n2 _ _ (by omega) (by omega) (by omega) (by omega) (by omega), n2 _ _ (by omega) (by omega) (by omega) (by omega) (by omega), n2 _ _ (by omega) (by omega) (by omega) (by omega) (by omega)⟩).kept F3 (by intros; omega) ⟨by omega, by omega, by omega⟩, (I2.md Rx.md W).kept W F3 (by intros; omega), (K.kept I2.1 (fun j a b x => by
                  have y : (134 = 134 ∧ (j < 136 ∨ 2016 ≤ j)) ∨ 134 = 142 ∨ 134 = 152 ∨ 134 = 151 ∨ (134 = 133 ∧ (j = 34 ∨ j = 35)) := x
                  omega) (fun j a b => n2 135 j (by omega) (by omega) (by omega) (by omega) (by omega)) (n2 _ _ (by omega) (by omega) (by omega) (by omega) (by omega))).kept F3 (by intros; omega) (by intros; omega) (by omega), mb.kept F3 (by intros; omega) (by omega), L2.kept F3 (by intros; omega)⟩
              · show dtI (dtSI (dtSJ (dtSJ μ2 133 3 _) 133 4 _) 133 2 _) 133 2 = _
                rw [m_I_SI, if_pos ⟨rfl, rfl⟩]
              · show dtJ (dtSJ (dtSJ μ2 133 3 _) 133 4 _) 133 3 = _
                rw [m_J_SJ, if_neg (by decide), m_J_SJ, if_pos ⟨rfl, rfl⟩]
              · show dtJ (dtSJ (dtSJ μ2 133 3 _) 133 4 _) 133 4 = _
                rw [m_J_SJ, if_pos ⟨rfl, rfl⟩]
            · rw [f_X12_mean, lv_g, hq, o_call, if_neg (by decide), mn_f, hy, o_call, if_neg (by decide), es, if_pos l9, Cx.g133_0, o_bind, m7 μx Rx, o_bind, e7, if_neg (show ¬ Int32.ofNat (dLen (zD z)) = (-1 : Int32) by rw [show (-1 : Int32) = -Int32.ofNat 1 from rfl, z_neg (by omega)]; exact id), show (0 : Int32) = Int32.ofNat 0 from rfl, e1, show (0 : Int64) = Int64.ofNat 0 from rfl, show (0 : Int32) = Int32.ofNat 0 from rfl, e2, j_of (by omega), ft, o_call, o_bI]
      · have l9 : ¬ Int32.ofNat (s + n - 1) ≤ (9999 : Int32) := by rw [show (9999 : Int32) = Int32.ofNat 9999 from rfl, z_le (by omega) (by decide)]; exact h9
        refine both.no HP HM W (bI false) (Int32.ofNat 1) ?_ (fun μ1 R1 => ?_)
        · rw [f_X11_mean, lv_f, hq, o_call, if_neg (by decide), mn_w, hy, o_call, if_neg (by decide), es, if_neg l9, mn_32 C]
        · rw [f_X12_mean, lv_g, hq, o_call, if_neg (by decide), mn_f, hy, o_call, if_neg (by decide), es, if_neg l9, mn_35 R1.c]
