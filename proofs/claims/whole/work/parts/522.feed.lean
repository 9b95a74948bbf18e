/-! PURE 62: feed -/
def ap1 (B : aB) (v : Int32) : aB := (B.1 + 1, (fun j => if j = B.1 then vp_nar .byte v else B.2.1 j), B.2.2)
theorem ap1_W {B : aB} {v : Int32} (W : bWF B) (h : B.1 < 900) : bWF (ap1 B v) := by
  refine ⟨by show B.1 + 1 ≤ 900; omega, fun j hj => ?_⟩
  have hj' : j < B.1 + 1 := hj
  show ∃ x, (if j = B.1 then vp_nar .byte v else B.2.1 j) = vp_nar .byte x
  by_cases e : j = B.1
  · rw [if_pos e]; exact ⟨v, rfl⟩
  · rw [if_neg e]; exact W.2 j (by omega)
abbrev Pbf : Nat → Nat → Prop := fun k j => (k = 10 ∧ j = 1) ∨ k = 11
abbrev Mbf : Nat → Nat → Prop := fun k j => (k = 133 ∧ j = 10) ∨ k = 139
theorem PB.ap {μ : dtM} {B : aB} (H : PB μ B) {v : Int32} (h : B.1 < 900) : PB (dtSI (dtSI μ 11 B.1 (vp_nar .byte v)) 10 1 (Int32.ofNat (B.1 + 1))) (ap1 B v) := by
  refine ⟨ap1_W H.1 h, ?_, fun j hj => ?_, ?_, ?_⟩
  · rw [m_I_SI, if_pos ⟨rfl, rfl⟩]; rfl
  · have hj' : j < B.1 + 1 := hj
    show _ = (if j = B.1 then vp_nar .byte v else B.2.1 j)
    rw [m_I_SI, if_neg (by omega), m_I_SI]
    by_cases e : j = B.1
    · rw [if_pos ⟨rfl, e⟩, if_pos e]
    · rw [if_neg (fun x => e x.2), if_neg e]; exact H.2.2.1 j (by omega)
  · rw [m_I_SI, if_neg (by omega), m_I_SI, if_neg (by omega)]; exact H.2.2.2.1
  · rw [m_I_SI, if_neg (by omega), m_I_SI, if_neg (by omega)]; exact H.2.2.2.2
theorem MB.ap {μ : dtM} {B : aB} (H : MB μ B) {v : Int32} (h : B.1 < 900) : MB (dtSI (dtSI μ 139 B.1 (vp_nar .byte v)) 133 10 (Int32.ofNat (B.1 + 1))) (ap1 B v) := by
  refine ⟨ap1_W H.1 h, ?_, fun j hj => ?_, ?_, ?_⟩
  · rw [m_I_SI, if_pos ⟨rfl, rfl⟩]; rfl
  · have hj' : j < B.1 + 1 := hj
    show _ = (if j = B.1 then vp_nar .byte v else B.2.1 j)
    rw [m_I_SI, if_neg (by omega), m_I_SI]
    by_cases e : j = B.1
    · rw [if_pos ⟨rfl, e⟩, if_pos e]
    · rw [if_neg (fun x => e x.2), if_neg e]; exact H.2.2.1 j (by omega)
  · rw [m_I_SI, if_neg (by omega), m_I_SI, if_neg (by omega)]; exact H.2.2.2.1
  · rw [m_I_SI, if_neg (by omega), m_I_SI, if_neg (by omega)]; exact H.2.2.2.2
def byS (x sh : Int32) : Int32 := (x >>> (sh &&& 31)).toInt8.toInt32
theorem ap_st {μ : dtM} {B : aB} (H : PB μ B) (C : CX μ) (h : B.1 < 900) {f : Nat} (hf : 0 < f) {x sh : Int32} (hs' : ¬ sh < 0) : f_X7_append_3 f 10 x sh μ = f_X7_append_3 (f - 1) 10 x (sh + (-8)) (dtSI (dtSI μ 11 B.1 (vp_nar .byte (byS x sh))) 10 1 (Int32.ofNat (B.1 + 1))) := by
  cases f with
  | zero => omega
  | succ f =>
    have C1 : CX (dtSI μ 11 B.1 (vp_nar .byte (byS x sh))) := C.SI
    have g : opGI 7 1 μ 10 = some (Int32.ofNat B.1) := by rw [o_GI C.s10, H.2.1]
    have g1 : opGI 7 1 (dtSI μ 11 B.1 (vp_nar .byte (byS x sh))) 10 = some (Int32.ofNat B.1) := by rw [o_GI C1.s10, m_I_SI, if_neg (by omega), H.2.1]
    have sb : opSB μ 11 (Int32.ofNat B.1) ((x >>> (sh &&& 31)).toInt8.toInt32) = some (dtSI μ 11 B.1 (vp_nar .byte (byS x sh))) := o_SB C.s11 h (by decide)
    rw [f_X7_append_3, if_neg hs', g, o_bind, C.g10_0, o_bind, o_AL C.s11 (by decide), o_bind, if_neg (show ¬ Int32.ofNat 900 ≤ Int32.ofNat B.1 by rw [z_le (by decide) (by omega)]; omega), o_bind, o_bind, sb, o_bind, g1, o_bind, show (1 : Int32) = Int32.ofNat 1 from rfl, z_add, o_PI C1.s10, o_bind]
    rfl
theorem fo_st {μ : dtM} {B : aB} (H : MB μ B) (C : CX μ) (h : B.1 < 900) {f : Nat} (hf : 0 < f) {x sh : Int32} (hs' : ¬ sh < 0) : f_X12_four_3 f 133 x sh μ = f_X12_four_3 (f - 1) 133 x (sh + (-8)) (dtSI (dtSI μ 139 B.1 (vp_nar .byte (byS x sh))) 133 10 (Int32.ofNat (B.1 + 1))) := by
  cases f with
  | zero => omega
  | succ f =>
    have C1 : CX (dtSI μ 139 B.1 (vp_nar .byte (byS x sh))) := C.SI
    have g : opGI 12 10 μ 133 = some (Int32.ofNat B.1) := by rw [o_GI C.s133, H.2.1]
    have g1 : opGI 12 10 (dtSI μ 139 B.1 (vp_nar .byte (byS x sh))) 133 = some (Int32.ofNat B.1) := by rw [o_GI C1.s133, m_I_SI, if_neg (by omega), H.2.1]
    have sb : opSB μ 139 (Int32.ofNat B.1) ((x >>> (sh &&& 31)).toInt8.toInt32) = some (dtSI μ 139 B.1 (vp_nar .byte (byS x sh))) := o_SB C.s139 h (by decide)
    rw [f_X12_four_3, if_neg hs', C.g133_8, o_bind, g, o_bind, sb, o_bind, g1, o_bind, show (1 : Int32) = Int32.ofNat 1 from rfl, z_add, o_PI C1.s133, o_bind]
    rfl
def ap4 (B : aB) (x : Int32) : aB := ap1 (ap1 (ap1 (ap1 B (byS x 24)) (byS x 16)) (byS x 8)) (byS x 0)
theorem ap4_n {B : aB} {x : Int32} : (ap4 B x).1 = B.1 + 4 := rfl
theorem Fr.bP {μ : dtM} {j : Nat} {a b : Int32} : Fr Pbf μ (dtSI (dtSI μ 11 j a) 10 1 b) := (Fr.SI (P := Pbf) (Or.inr rfl)).tr (Fr.SI (P := Pbf) (Or.inl ⟨rfl, rfl⟩))
theorem Fr.bM {μ : dtM} {j : Nat} {a b : Int32} : Fr Mbf μ (dtSI (dtSI μ 139 j a) 133 10 b) := (Fr.SI (P := Mbf) (Or.inr rfl)).tr (Fr.SI (P := Mbf) (Or.inl ⟨rfl, rfl⟩))
theorem ap_ex {μ : dtM} {B : aB} (H : PB μ B) (C : CX μ) (h : B.1 < 900) {f : Nat} (hf : 0 < f) (x sh sh' : Int32) (hs' : ¬ sh < 0) (e : sh + (-8) = sh') : ∃ μ1, f_X7_append_3 f 10 x sh μ = f_X7_append_3 (f - 1) 10 x sh' μ1 ∧ Fr Pbf μ μ1 ∧ PB μ1 (ap1 B (byS x sh)) := ⟨_, by rw [← e]; exact ap_st H C h hf hs', Fr.bP, H.ap h⟩
theorem fo_ex {μ : dtM} {B : aB} (H : MB μ B) (C : CX μ) (h : B.1 < 900) {f : Nat} (hf : 0 < f) (x sh sh' : Int32) (hs' : ¬ sh < 0) (e : sh + (-8) = sh') : ∃ μ1, f_X12_four_3 f 133 x sh μ = f_X12_four_3 (f - 1) 133 x sh' μ1 ∧ Fr Mbf μ μ1 ∧ MB μ1 (ap1 B (byS x sh)) := ⟨_, by rw [← e]; exact fo_st H C h hf hs', Fr.bM, H.ap h⟩
theorem ap_end {μ : dtM} {f : Nat} (hf : 0 < f) {x sh : Int32} (h : sh < 0) : f_X7_append_3 f 10 x sh μ = some μ := by
  cases f with
  | zero => omega
  | succ f => rw [f_X7_append_3, if_pos h, f_X7_append_48]
theorem fo_end {μ : dtM} {f : Nat} (hf : 0 < f) {x sh : Int32} (h : sh < 0) : f_X12_four_3 f 133 x sh μ = some μ := by
  cases f with
  | zero => omega
  | succ f => rw [f_X12_four_3, if_pos h]
theorem ap_X {μ : dtM} {B : aB} (H : PB μ B) (C : CX μ) (h : B.1 + 4 ≤ 900) (x : Int32) {f : Nat} (hf : 4 < f) : ∃ μ', f_X7_append_3 f 10 x (24 : Int32) μ = some μ' ∧ Fr Pbf μ μ' ∧ PB μ' (ap4 B x) := by
  obtain ⟨μ1, e1, F1, H1⟩ := ap_ex H C (by omega) (f := f) (by omega) x 24 16 (by decide) (by decide)
  obtain ⟨μ2, e2, F2, H2⟩ := ap_ex H1 (C.kept F1) (by show B.1 + 1 < 900; omega) (f := f - 1) (by omega) x 16 8 (by decide) (by decide)
  obtain ⟨μ3, e3, F3, H3⟩ := ap_ex H2 (C.kept (F1.tr F2)) (by show B.1 + 1 + 1 < 900; omega) (f := f - 1 - 1) (by omega) x 8 0 (by decide) (by decide)
  obtain ⟨μ4, e4, F4, H4⟩ := ap_ex H3 (C.kept ((F1.tr F2).tr F3)) (by show B.1 + 1 + 1 + 1 < 900; omega) (f := f - 1 - 1 - 1) (by omega) x 0 (-8) (by decide) (by decide)
  exact ⟨μ4, by rw [e1, e2, e3, e4, ap_end (by omega) (by decide)], ((F1.tr F2).tr F3).tr F4, H4⟩
theorem fo_X {μ : dtM} {B : aB} (H : MB μ B) (C : CX μ) (h : B.1 + 4 ≤ 900) (x : Int32) {f : Nat} (hf : 4 < f) : ∃ μ', f_X12_four_3 f 133 x (24 : Int32) μ = some μ' ∧ Fr Mbf μ μ' ∧ MB μ' (ap4 B x) := by
  obtain ⟨μ1, e1, F1, H1⟩ := fo_ex H C (by omega) (f := f) (by omega) x 24 16 (by decide) (by decide)
  obtain ⟨μ2, e2, F2, H2⟩ := fo_ex H1 (C.kept F1) (by show B.1 + 1 < 900; omega) (f := f - 1) (by omega) x 16 8 (by decide) (by decide)
  obtain ⟨μ3, e3, F3, H3⟩ := fo_ex H2 (C.kept (F1.tr F2)) (by show B.1 + 1 + 1 < 900; omega) (f := f - 1 - 1) (by omega) x 8 0 (by decide) (by decide)
  obtain ⟨μ4, e4, F4, H4⟩ := fo_ex H3 (C.kept ((F1.tr F2).tr F3)) (by show B.1 + 1 + 1 + 1 < 900; omega) (f := f - 1 - 1 - 1) (by omega) x 0 (-8) (by decide) (by decide)
  exact ⟨μ4, by rw [e1, e2, e3, e4, fo_end (by omega) (by decide)], ((F1.tr F2).tr F3).tr F4, H4⟩
theorem PB.four {μ : dtM} {B : aB} (H : PB μ B) (C : CX μ) (h : B.1 + 4 ≤ 900) (x : Int32) : ∃ μ', f_X7_append 10 x μ = some μ' ∧ Fr Pbf μ μ' ∧ PB μ' (ap4 B x) := by
  rw [f_X7_append]
  exact ap_X H C h x (dtFuel_gt (by decide))
theorem MB.four {μ : dtM} {B : aB} (H : MB μ B) (C : CX μ) (h : B.1 + 4 ≤ 900) (x : Int32) : ∃ μ', f_X12_four 133 x μ = some μ' ∧ Fr Mbf μ μ' ∧ MB μ' (ap4 B x) := by
  rw [f_X12_four]
  exact fo_X H C h x (dtFuel_gt (by decide))
theorem RP.buf {w : aW} {f : aF} {A : aH} {z : aZ} {B' : aB} {μ μ' : dtM} (H : RP μ w f A z) (F : Fr Pbf μ μ') (h : PB μ' B') : RP μ' w f A (z.1, B', z.2.2) := by
  obtain ⟨C, R, X, hh, T, _, D, K, V, L⟩ := H
  obtain ⟨w1, w2⟩ := R.1
  refine ⟨C.kept F, R.kept F, ⟨?_, ?_, ?_⟩, hh.kept F ?_, T.kept F ?_, h, D.kept F ?_, K.kept F ?_ ?_, V.kept F ?_, L.kept F ?_⟩
  · rw [F.i (by show ¬ (_ ∨ _); omega)]; exact X.1
  · rw [F.j (by show ¬ (_ ∨ _); omega)]; exact X.2.1
  · rw [F.j (by show ¬ (_ ∨ _); omega)]; exact X.2.2
  all_goals (intros; show ¬ (_ ∨ _); omega)
theorem RM.buf {f : aF} {A : aH} {z : aZ} {B' : aB} {μ μ' : dtM} (H : RM μ f A z) (W : dWF A (zD z)) (F : Fr Mbf μ μ') (h : MB μ' B') : RM μ' f A (z.1, B', z.2.2) := by
  obtain ⟨C, X, hh, T, _, D, K, V, L⟩ := H
  refine ⟨C.kept F, ⟨?_, ?_, ?_⟩, hh.keptAt F ?_ ?_, T.kept F ?_, h, D.kept W F ?_, K.kept F ?_ ?_ ?_, V.kept F ?_ ?_, L.kept F ?_⟩
  · rw [F.i (by show ¬ (_ ∨ _); omega)]; exact X.1
  · rw [F.j (by show ¬ (_ ∨ _); omega)]; exact X.2.1
  · rw [F.j (by show ¬ (_ ∨ _); omega)]; exact X.2.2
  all_goals (intros; show ¬ (_ ∨ _); omega)
theorem cs7 {μ : dtM} {w : aW} {f : aF} {A : aH} {z : aZ} (HP : RP μ w f A z) (HM : RM μ f A z) (W : dWF A (zD z)) (a b c d e : Int32) : both (f_X11_feed 0 a b c d e) (f_X12_feed 133 a b c d e) μ := by
  have C := HP.c
  have B := HP.pb
  have b9 := B.1.1
  have le := z_le (show (zB z).1 + 20 < 2147483648 by omega) (show 900 < 2147483648 by decide)
  have g : opGI 7 1 μ 10 = some (Int32.ofNat (zB z).1) := by rw [o_GI C.s10, B.2.1]
  have gm : ∀ μ1, RM μ1 f A z → opGI 12 10 μ1 133 = some (Int32.ofNat (zB z).1) := fun μ1 R1 => by rw [o_GI R1.c.s133, R1.mb.2.1]
  by_cases h : (zB z).1 + 20 ≤ 900
  · have hz : Int32.ofNat (zB z).1 + (20 : Int32) ≤ (900 : Int32) := by rw [show (20 : Int32) = Int32.ofNat 20 from rfl, show (900 : Int32) = Int32.ofNat 900 from rfl, z_add, le]; exact h
    refine both.mk HP HM W (v := Int32.ofNat ((zB z).1 + 20)) (w' := w) (f' := f) (A' := A) (z' := (z.1, ap4 (ap4 (ap4 (ap4 (ap4 (zB z) a) b) c) d) e, z.2.2)) ?_ (fun μ1 R1 => ?_) W
    · obtain ⟨μ1, e1, F1, H1⟩ := B.four C (by omega) a
      have C1 := C.kept F1
      obtain ⟨μ2, e2, F2, H2⟩ := H1.four C1 (by show (zB z).1 + 4 + 4 ≤ 900; omega) b
      have C2 := C1.kept F2
      obtain ⟨μ3, e3, F3, H3⟩ := H2.four C2 (by show (zB z).1 + 4 + 4 + 4 ≤ 900; omega) c
      have C3 := C2.kept F3
      obtain ⟨μ4, e4, F4, H4⟩ := H3.four C3 (by show (zB z).1 + 4 + 4 + 4 + 4 ≤ 900; omega) d
      have C4 := C3.kept F4
      obtain ⟨μ5, e5, F5, H5⟩ := H4.four C4 (by show (zB z).1 + 4 + 4 + 4 + 4 + 4 ≤ 900; omega) e
      have C5 := C4.kept F5
      have FF := (((F1.tr F2).tr F3).tr F4).tr F5
      refine ⟨μ5, ?_, FF.wide (fun k j x => by have : (k = 10 ∧ j = 1) ∨ k = 11 := x; unfold LPq; omega), HP.buf FF H5⟩
      have g5 : opGI 7 1 μ5 10 = some (Int32.ofNat ((zB z).1 + 20)) := by rw [o_GI C5.s10, H5.2.1]; rfl
      rw [f_X11_feed, C.g0_4, o_bind, g, o_bind, if_pos hz, o_bind, o_Rv C.s10, o_bind, e1, o_bind, C1.g0_4, o_bind, o_Rv C1.s10, o_bind, e2, o_bind, C2.g0_4, o_bind, o_Rv C2.s10, o_bind, e3, o_bind, C3.g0_4, o_bind, o_Rv C3.s10, o_bind, e4, o_bind, C4.g0_4, o_bind, o_Rv C4.s10, o_bind, e5, o_bind, C5.g0_4, o_bind, g5, o_bind]
    · have C0 := R1.c
      obtain ⟨μ1', e1, F1, H1⟩ := R1.mb.four C0 (by omega) a
      have C1 := C0.kept F1
      obtain ⟨μ2, e2, F2, H2⟩ := H1.four C1 (by show (zB z).1 + 4 + 4 ≤ 900; omega) b
      have C2 := C1.kept F2
      obtain ⟨μ3, e3, F3, H3⟩ := H2.four C2 (by show (zB z).1 + 4 + 4 + 4 ≤ 900; omega) c
      have C3 := C2.kept F3
      obtain ⟨μ4, e4, F4, H4⟩ := H3.four C3 (by show (zB z).1 + 4 + 4 + 4 + 4 ≤ 900; omega) d
      have C4 := C3.kept F4
      obtain ⟨μ5, e5, F5, H5⟩ := H4.four C4 (by show (zB z).1 + 4 + 4 + 4 + 4 + 4 ≤ 900; omega) e
      have C5 := C4.kept F5
      have FF := (((F1.tr F2).tr F3).tr F4).tr F5
      refine ⟨μ5, ?_, FF.wide (fun k j x => by have : (k = 133 ∧ j = 10) ∨ k = 139 := x; unfold LMq; omega), R1.buf W FF H5⟩
      have g5 : opGI 12 10 μ5 133 = some (Int32.ofNat ((zB z).1 + 20)) := by rw [o_GI C5.s133, H5.2.1]; rfl
      rw [f_X12_feed, gm μ1 R1, o_bind, if_pos hz, C0.v133, o_bind, e1, o_bind, C1.v133, o_bind, e2, o_bind, C2.v133, o_bind, e3, o_bind, C3.v133, o_bind, e4, o_bind, C4.v133, o_bind, e5, o_bind, g5, o_bind]
  · have hz : ¬ Int32.ofNat (zB z).1 + (20 : Int32) ≤ (900 : Int32) := by rw [show (20 : Int32) = Int32.ofNat 20 from rfl, show (900 : Int32) = Int32.ofNat 900 from rfl, z_add, le]; exact h
    refine both.mk HP HM W (v := (-1 : Int32)) (w' := w) (f' := f) (A' := A) (z' := z) ⟨μ, ?_, Fr.rf, HP⟩ (fun μ1 R1 => ⟨μ1, ?_, Fr.rf, R1⟩) W
    · rw [f_X11_feed, C.g0_4, o_bind, g, o_bind, if_neg hz]
    · rw [f_X12_feed, gm μ1 R1, o_bind, if_neg hz]
