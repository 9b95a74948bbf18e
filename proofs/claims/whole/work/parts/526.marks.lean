/-! PURE 66: the program's days copied; mark, undo -/
theorem ss_z {μ : dtM} {ci j p q : Nat} {α : Type} {K : dtM → Option α} {G : α → Prop} (hp : dtS μ p = (0, ci)) (hq : dtS μ q = (0, ci)) (hb : dtI μ q j = 0 ∨ dtI μ q j = 1) (h : ∀ μ', Fr (Pcel p j) μ μ' → dtI μ' p j = dtI μ q j → ∃ v, K μ' = some v ∧ G v) : ∃ v, ((opGI ci j μ q).bind fun x => (opPZ ci j μ p x).bind K) = some v ∧ G v := by
  have e : opPZ ci j μ p (dtI μ q j) = some (dtSI μ p j (dtI μ q j)) := if_pos ⟨hp, hb⟩
  rw [o_GI hq, o_bind, e, o_bind]
  exact h _ (Fr.SI ⟨rfl, rfl⟩) (by rw [m_I_SI, if_pos ⟨rfl, rfl⟩])
theorem PD.copyFrom {μ : dtM} {p q : Nat} {A : aH} {D : aD} (H : PD μ q D) (W : dWF A D) (S : dSh μ p) (Q : dSh μ q) (d : p + 6 < q ∨ q + 6 < p) : ∃ μf, f_X0_copyFrom p q μ = some μf ∧ Fr (fun k _ => p ≤ k ∧ k ≤ p + 6) μ μf ∧ PD μf p D := by
  obtain ⟨a0, a1, b1⟩ := id S
  obtain ⟨c0, c1, e1⟩ := id Q
  have hb : dtI μ q 0 = 0 ∨ dtI μ q 0 = 1 := by
    rw [H.1]
    have : D.1 = 0 ∨ D.1 = 1 := by have := W.1; omega
    rcases this with e | e
    · left; rw [e]; rfl
    · right; rw [e]; rfl
  rw [f_X0_copyFrom]
  have T0 : Fr (fun k _ => p ≤ k ∧ k ≤ p + 6) μ μ := Fr.rf
  refine ss_z (by rw [T0.S]; exact a0) (by rw [T0.S]; exact c0) hb (fun μ1 F1 g1 => ?_)
  have T1 := T0.tr (F1.wide (Q := fun k _ => p ≤ k ∧ k ≤ p + 6) (fun k y x => by have := x.1; omega))
  refine ss_s (by rw [T1.S]; exact a0) (by rw [T1.S]; exact c0) (fun μ2 F2 g2 => ?_)
  have T2 := T1.tr (F2.wide (Q := fun k _ => p ≤ k ∧ k ≤ p + 6) (fun k y x => by have := x.1; omega))
  refine ss_s (by rw [T2.S]; exact a0) (by rw [T2.S]; exact c0) (fun μ3 F3 g3 => ?_)
  have T3 := T2.tr (F3.wide (Q := fun k _ => p ≤ k ∧ k ≤ p + 6) (fun k y x => by have := x.1; omega))
  refine ss_i (q + 1) (p + 1) 60 (by rw [T3.S]; exact a0) (by rw [T3.S]; exact c0) (by rw [T3.Ra]; exact e1 0 (by decide)) (by rw [T3.Ra]; exact b1 0 (by decide)) (by rw [T3.S]; exact c1 0 (by decide)) (by rw [T3.S]; exact a1 0 (by decide)) (by decide) (fun μ4 F4 g4 => ?_)
  have T4 := T3.tr (F4.wide (Q := fun k _ => p ≤ k ∧ k ≤ p + 6) (fun k y x => by have : k = p + 1 := x; omega))
  refine ss_i (q + 2) (p + 2) 60 (by rw [T4.S]; exact a0) (by rw [T4.S]; exact c0) (by rw [T4.Ra]; exact e1 1 (by decide)) (by rw [T4.Ra]; exact b1 1 (by decide)) (by rw [T4.S]; exact c1 1 (by decide)) (by rw [T4.S]; exact a1 1 (by decide)) (by decide) (fun μ5 F5 g5 => ?_)
  have T5 := T4.tr (F5.wide (Q := fun k _ => p ≤ k ∧ k ≤ p + 6) (fun k y x => by have : k = p + 2 := x; omega))
  refine ss_i (q + 3) (p + 3) 60 (by rw [T5.S]; exact a0) (by rw [T5.S]; exact c0) (by rw [T5.Ra]; exact e1 2 (by decide)) (by rw [T5.Ra]; exact b1 2 (by decide)) (by rw [T5.S]; exact c1 2 (by decide)) (by rw [T5.S]; exact a1 2 (by decide)) (by decide) (fun μ6 F6 g6 => ?_)
  have T6 := T5.tr (F6.wide (Q := fun k _ => p ≤ k ∧ k ≤ p + 6) (fun k y x => by have : k = p + 3 := x; omega))
  refine ss_i (q + 4) (p + 4) 60 (by rw [T6.S]; exact a0) (by rw [T6.S]; exact c0) (by rw [T6.Ra]; exact e1 3 (by decide)) (by rw [T6.Ra]; exact b1 3 (by decide)) (by rw [T6.S]; exact c1 3 (by decide)) (by rw [T6.S]; exact a1 3 (by decide)) (by decide) (fun μ7 F7 g7 => ?_)
  have T7 := T6.tr (F7.wide (Q := fun k _ => p ≤ k ∧ k ≤ p + 6) (fun k y x => by have : k = p + 4 := x; omega))
  refine ss_i (q + 5) (p + 5) 60 (by rw [T7.S]; exact a0) (by rw [T7.S]; exact c0) (by rw [T7.Ra]; exact e1 4 (by decide)) (by rw [T7.Ra]; exact b1 4 (by decide)) (by rw [T7.S]; exact c1 4 (by decide)) (by rw [T7.S]; exact a1 4 (by decide)) (by decide) (fun μ8 F8 g8 => ?_)
  have T8 := T7.tr (F8.wide (Q := fun k _ => p ≤ k ∧ k ≤ p + 6) (fun k y x => by have : k = p + 5 := x; omega))
  refine ss_i (q + 6) (p + 6) 60 (by rw [T8.S]; exact a0) (by rw [T8.S]; exact c0) (by rw [T8.Ra]; exact e1 5 (by decide)) (by rw [T8.Ra]; exact b1 5 (by decide)) (by rw [T8.S]; exact c1 5 (by decide)) (by rw [T8.S]; exact a1 5 (by decide)) (by decide) (fun μ9 F9 g9 => ?_)
  have T9 := T8.tr (F9.wide (Q := fun k _ => p ≤ k ∧ k ≤ p + 6) (fun k y x => by have : k = p + 6 := x; omega))
  have v0 : dtI μ9 p 0 = dtI μ q 0 := by rw [F9.i (by show ¬ (_ = _); omega), F8.i (by show ¬ (_ = _); omega), F7.i (by show ¬ (_ = _); omega), F6.i (by show ¬ (_ = _); omega), F5.i (by show ¬ (_ = _); omega), F4.i (by show ¬ (_ = _); omega), F3.i (by show ¬ (_ ∧ _); omega), F2.i (by show ¬ (_ ∧ _); omega), g1]
  have v1 : dtI μ9 p 1 = dtI μ q 1 := by rw [F9.i (by show ¬ (_ = _); omega), F8.i (by show ¬ (_ = _); omega), F7.i (by show ¬ (_ = _); omega), F6.i (by show ¬ (_ = _); omega), F5.i (by show ¬ (_ = _); omega), F4.i (by show ¬ (_ = _); omega), F3.i (by show ¬ (_ ∧ _); omega), g2, T1.i (by show ¬ (_ ∧ _); omega)]
  have v2 : dtI μ9 p 2 = dtI μ q 2 := by rw [F9.i (by show ¬ (_ = _); omega), F8.i (by show ¬ (_ = _); omega), F7.i (by show ¬ (_ = _); omega), F6.i (by show ¬ (_ = _); omega), F5.i (by show ¬ (_ = _); omega), F4.i (by show ¬ (_ = _); omega), g3, T2.i (by show ¬ (_ ∧ _); omega)]
  have r1 : ∀ x, x < 60 → dtI μ9 (p + 1) x = dtI μ (q + 1) x := fun x hx => by rw [F9.i (by show ¬ (_ = _); omega), F8.i (by show ¬ (_ = _); omega), F7.i (by show ¬ (_ = _); omega), F6.i (by show ¬ (_ = _); omega), F5.i (by show ¬ (_ = _); omega), g4 x hx, T3.i (by show ¬ (_ ∧ _); omega)]
  have r2 : ∀ x, x < 60 → dtI μ9 (p + 2) x = dtI μ (q + 2) x := fun x hx => by rw [F9.i (by show ¬ (_ = _); omega), F8.i (by show ¬ (_ = _); omega), F7.i (by show ¬ (_ = _); omega), F6.i (by show ¬ (_ = _); omega), g5 x hx, T4.i (by show ¬ (_ ∧ _); omega)]
  have r3 : ∀ x, x < 60 → dtI μ9 (p + 3) x = dtI μ (q + 3) x := fun x hx => by rw [F9.i (by show ¬ (_ = _); omega), F8.i (by show ¬ (_ = _); omega), F7.i (by show ¬ (_ = _); omega), g6 x hx, T5.i (by show ¬ (_ ∧ _); omega)]
  have r4 : ∀ x, x < 60 → dtI μ9 (p + 4) x = dtI μ (q + 4) x := fun x hx => by rw [F9.i (by show ¬ (_ = _); omega), F8.i (by show ¬ (_ = _); omega), g7 x hx, T6.i (by show ¬ (_ ∧ _); omega)]
  have r5 : ∀ x, x < 60 → dtI μ9 (p + 5) x = dtI μ (q + 5) x := fun x hx => by rw [F9.i (by show ¬ (_ = _); omega), g8 x hx, T7.i (by show ¬ (_ ∧ _); omega)]
  have r6 : ∀ x, x < 60 → dtI μ9 (p + 6) x = dtI μ (q + 6) x := fun x hx => by rw [g9 x hx, T8.i (by show ¬ (_ ∧ _); omega)]
  refine ⟨μ9, rfl, T9, v0.trans H.1, fun h => ⟨v2.trans (H.2 h).1, fun k hk => ?_⟩⟩
  have hl := (W.2 h).1
  have y := (H.2 h).2 k hk
  unfold pdE at y ⊢
  rw [r1 k (by omega), r2 k (by omega), r3 k (by omega), r4 k (by omega), r5 k (by omega), r6 k (by omega)]
  exact y
def upK (z : aZ) (D : aD) (K : aK) : aZ := (zT z, zB z, D, K, zV z, zL z)
theorem RP.gk {w : aW} {f : aF} {A A' : aH} {z : aZ} {D : aD} {K : aK} {μ μ' : dtM} {st : Int32} (H : RP μ w f A z) (F : Fr (fun k j => (k = 0 ∧ (j = 0 ∨ j = 11)) ∨ (54 ≤ k ∧ k ≤ 113) ∨ (w.1 ≤ k ∧ k ≤ w.1 + 12) ∨ (w.2.2.1 ≤ k ∧ k ≤ w.2.2.1 + 6)) μ μ') (h : PH μ' w.1 A') (hd : PD μ' w.2.2.1 D) (hk : PK μ' K) (e : dtI μ' 0 0 = st) : RP μ' w (st, f.2) A' (upK z D K) := by
  obtain ⟨C, R, X, _, T, B, _, _, V, L⟩ := H
  obtain ⟨w1, w2⟩ := R.1
  refine ⟨C.kept F, R.kept F, ⟨e, ?_, ?_⟩, h, T.kept F ?_, B.kept F ?_, hd, hk, V.kept F ?_, L.kept F ?_⟩
  · rw [F.j (by omega)]; exact X.2.1
  · rw [F.j (by omega)]; exact X.2.2
  all_goals (intros; omega)
theorem RM.gk {f : aF} {A A' : aH} {z : aZ} {D : aD} {K : aK} {μ μ' : dtM} {st : Int32} (H : RM μ f A z) (F : Fr (fun k j => (k = 133 ∧ (j = 2 ∨ j = 40)) ∨ (k = 134 ∧ j < 2016) ∨ (k = 135 ∧ j < 76)) μ μ') (h : MH μ' 0 0 A') (hd : MD μ' 0 D) (hk : MK μ' K) (e : dtI μ' 133 2 = st) : RM μ' (st, f.2) A' (upK z D K) := by
  obtain ⟨C, X, _, T, B, _, _, V, L⟩ := H
  refine ⟨C.kept F, ⟨e, ?_, ?_⟩, h, T.kept F ?_, B.kept F ?_ ⟨?_, ?_, ?_⟩, hd, hk, V.kept F ?_ ?_, L.kept F ?_⟩
  · rw [F.j (by omega)]; exact X.2.1
  · rw [F.j (by omega)]; exact X.2.2
  all_goals (intros; omega)
theorem RP.pk {w : aW} {f : aF} {A : aH} {z : aZ} {μ : dtM} (H : RP μ w f A z) : PK μ (zK z) := H.2.2.2.2.2.2.2.1
theorem RM.mk {f : aF} {A : aH} {z : aZ} {μ : dtM} (H : RM μ f A z) : MK μ (zK z) := H.2.2.2.2.2.2.1
theorem RP.pd {w : aW} {f : aF} {A : aH} {z : aZ} {μ : dtM} (H : RP μ w f A z) : PD μ w.2.2.1 (zD z) := H.2.2.2.2.2.2.1
theorem RM.md {f : aF} {A : aH} {z : aZ} {μ : dtM} (H : RM μ f A z) : MD μ 0 (zD z) := H.2.2.2.2.2.1
theorem RP.g11 {w : aW} {f : aF} {A : aH} {z : aZ} {μ : dtM} (H : RP μ w f A z) : opGI 11 11 μ 0 = some (Int32.ofNat (zK z).1) := by rw [o_GI H.c.s0, H.pk.2.1]
theorem RM.g40 {f : aF} {A : aH} {z : aZ} {μ : dtM} (H : RM μ f A z) : opGI 12 40 μ 133 = some (Int32.ofNat (zK z).1) := by rw [o_GI H.c.s133, H.mk.2.1]
theorem CX.dShw {μ : dtM} (C : CX μ) {g : Nat} (h : g = 38 ∨ g = 45) : dSh μ g := by
  rcases h with rfl | rfl
  · exact C.dSh38
  · exact C.dSh45
def kAdd (K : aK) (A : aH) (D : aD) : aK := (K.1 + 1, fun i => if i = K.1 then (A, D) else K.2 i)
theorem cs54 {μ : dtM} {w : aW} {f : aF} {A : aH} {z : aZ} (HP : RP μ w f A z) (HM : RM μ f A z) (W : dWF A (zD z)) : both (f_X11_mark 0) (f_X12_mark 133) μ := by
  have C := HP.c
  have HH := HP.ph
  have hK := HP.pk.1
  have wo := HP.2.1.1
  by_cases h3 : (zK z).1 < 3
  · refine both.mk HP HM W (v := Int32.ofNat ((zK z).1 + 1)) (w' := w) (f' := (Int32.ofNat 0, f.2)) (A' := A) (z' := upK z (zD z) (kAdd (zK z) A (zD z))) ?_ (fun μ1 R1 => ?_) W
    · obtain ⟨k1, k2, k3, k4⟩ := C.mk h3
      obtain ⟨μa, ea, Fa, Ha⟩ := HH.copyFrom k1 (by have := wo.1; omega)
      have Ca := C.kept Fa
      have hda := HP.pd.kept Fa (by intros; have := wo.2; omega)
      obtain ⟨μb, eb, Fb, Hb⟩ := hda.copyFrom W (Ca.mk h3).2.1 (Ca.dShw (by have := wo.2; omega)) (by have := wo.2; omega)
      have Cb := Ca.kept Fb
      have g5 := HP.g5
      have g7 : opGR 11 7 μa 0 = some w.2.2.1 := o_GR Ca.s0 (by rw [Fa.Ra]; exact HP.2.1.2.2.2.1)
      have gm : opGI 11 11 μ 0 = some (Int32.ofNat (zK z).1) := HP.g11
      have gma : opGI 11 11 μa 0 = some (Int32.ofNat (zK z).1) := by rw [o_GI Ca.s0, Fa.i (by omega)]; exact congrArg some HP.pk.2.1
      have gmb : opGI 11 11 μb 0 = some (Int32.ofNat (zK z).1) := by rw [o_GI Cb.s0, Fb.i (by omega), Fa.i (by omega)]; exact congrArg some HP.pk.2.1
      have Cc : CX (dtSI μb 0 11 (Int32.ofNat ((zK z).1 + 1))) := Cb.SI
      have gmc : opGI 11 11 (dtSI μb 0 11 (Int32.ofNat ((zK z).1 + 1))) 0 = some (Int32.ofNat ((zK z).1 + 1)) := by rw [o_GI Cc.s0, m_I_SI, if_pos ⟨rfl, rfl⟩]
      refine ⟨dtSI (dtSI μb 0 11 (Int32.ofNat ((zK z).1 + 1))) 0 0 (Int32.ofNat 0), ?_, ?_, ?_⟩
      · rw [f_X11_mark, gm, o_bind, if_pos (show Int32.ofNat (zK z).1 < 3 by rw [show (3 : Int32) = Int32.ofNat 3 from rfl, z_lt (by omega) (by decide)]; exact h3), o_GR C.s0 C.r0_9, o_bind, o_bind, o_LR C.s52 h3 (by decide) k3, o_bind, g5, o_bind, o_Rv k1.1.1, o_bind, ea, o_bind, o_GR Ca.s0 Ca.r0_10, o_bind, gma, o_bind, o_LR Ca.s53 h3 (by decide) (Ca.mk h3).2.2.2, o_bind, g7, o_bind, o_Rv (Ca.mk h3).2.1.1, o_bind, eb, o_bind, gmb, o_bind, show (1 : Int32) = Int32.ofNat 1 from rfl, z_add, o_PI Cb.s0, o_bind, gmc, o_bind, Cc.v0, o_bind, p_ans Cc, o_call]
      · exact (((Fa.wide (Q := LPq) (fun k j x => by show k < 133; omega)).tr (Fb.wide (Q := LPq) (fun k j x => by show k < 133; omega))).tr (Fr.SI (show 0 < 133 by decide))).tr (Fr.SI (show 0 < 133 by decide))
      · have Fs : Fr (fun k j => k = 0 ∧ (j = 0 ∨ j = 11)) μb (dtSI (dtSI μb 0 11 (Int32.ofNat ((zK z).1 + 1))) 0 0 (Int32.ofNat 0)) := (Fr.SI ⟨rfl, Or.inr rfl⟩).tr (Fr.SI ⟨rfl, Or.inl rfl⟩)
        have Fab : Fr (fun k _ => 54 + 20 * (zK z).1 ≤ k ∧ k ≤ 54 + 20 * (zK z).1 + 19) μ μb := (Fa.wide (fun k j x => by omega)).tr (Fb.wide (fun k j x => by omega))
        have FF := (Fab.wide (Q := fun k j => (k = 0 ∧ (j = 0 ∨ j = 11)) ∨ (54 + 20 * (zK z).1 ≤ k ∧ k ≤ 54 + 20 * (zK z).1 + 19)) (fun k j x => Or.inr x)).tr (Fs.wide (fun k j x => Or.inl x))
        refine HP.gk (FF.wide (fun k j x => by omega)) (HH.kept FF (by intros; have := wo.1; omega)) (HP.pd.kept FF (by intros; have := wo.2; omega)) ⟨?_, ?_, fun i hi => ?_⟩ (by rw [m_I_SI, if_pos ⟨rfl, rfl⟩])
        · show (zK z).1 + 1 ≤ 3; omega
        · rw [m_I_SI, if_neg (by omega), m_I_SI, if_pos ⟨rfl, rfl⟩]; rfl
        · have hi' : i < (zK z).1 + 1 := hi
          show PH _ _ (if i = (zK z).1 then (A, zD z) else (zK z).2 i).1 ∧ PD _ _ (if i = (zK z).1 then (A, zD z) else (zK z).2 i).2 ∧ dWF (if i = (zK z).1 then (A, zD z) else (zK z).2 i).1 (if i = (zK z).1 then (A, zD z) else (zK z).2 i).2
          by_cases e : i = (zK z).1
          · rw [if_pos e, e]
            exact ⟨(Ha.kept Fb (by intros; omega)).kept Fs (by intros; omega), Hb.kept Fs (by intros; omega), W⟩
          · rw [if_neg e]
            obtain ⟨x1, x2, x3⟩ := HP.pk.2.2 i (by omega)
            exact ⟨x1.kept FF (by intros; omega), x2.kept FF (by intros; omega), x3⟩
    · have C1 := R1.c
      have g := R1.g40
      have Ca : CX (dtSI μ1 133 40 (Int32.ofNat ((zK z).1 + 1))) := C1.SI
      have Fa : Fr (fun k j => k = 133 ∧ j = 40) μ1 (dtSI μ1 133 40 (Int32.ofNat ((zK z).1 + 1))) := Fr.SI ⟨rfl, rfl⟩
      have ga : opGI 12 40 (dtSI μ1 133 40 (Int32.ofNat ((zK z).1 + 1))) 133 = some (Int32.ofNat ((zK z).1 + 1)) := by rw [o_GI Ca.s133, m_I_SI, if_pos ⟨rfl, rfl⟩]
      obtain ⟨μb, eb, Fb, gI, gJ⟩ := n_copies (a := 0) (b := (zK z).1 + 1) (by decide) (by omega) (by omega) Ca
      have Cb := Ca.kept Fb
      have gb : opGI 12 40 μb 133 = some (Int32.ofNat ((zK z).1 + 1)) := by rw [o_GI Cb.s133, Fb.i (by omega), m_I_SI, if_pos ⟨rfl, rfl⟩]
      have M1 := R1.mh
      have Ma := M1.keptAt Fa (by intros; omega) (by intros; omega)
      have Da := R1.md.kept W Fa (by intros; omega)
      refine ⟨dtSI μb 133 2 (Int32.ofNat 0), ?_, ?_, ?_⟩
      · rw [f_X12_mark, g, o_bind, if_neg (show ¬ Int32.ofNat (zK z).1 = 3 by rw [show (3 : Int32) = Int32.ofNat 3 from rfl, z_eq (by omega) (by decide)]; omega), o_bind, show (1 : Int32) = Int32.ofNat 1 from rfl, z_add, o_PI C1.s133, o_bind, ga, o_bind, Ca.v133, o_bind, show (0 : Int32) = Int32.ofNat 0 from rfl, eb, o_bind, gb, o_bind, Cb.v133, o_bind, n_gives Cb, o_call]
      · exact ((Fa.wide (Q := LMq) (fun k j x => by show 133 ≤ k ∧ k < 154; omega)).tr (Fb.wide (Q := LMq) (fun k j x => by show 133 ≤ k ∧ k < 154; omega))).tr (Fr.SI (show 133 ≤ 133 ∧ 133 < 154 by decide))
      · have Fs : Fr (fun k j => k = 133 ∧ j = 2) μb (dtSI μb 133 2 (Int32.ofNat 0)) := Fr.SI ⟨rfl, rfl⟩
        have FF : Fr (fun k j => (k = 133 ∧ (j = 2 ∨ j = 40)) ∨ (k = 134 ∧ 504 * ((zK z).1 + 1) ≤ j ∧ j < 504 * ((zK z).1 + 1) + 504) ∨ (k = 135 ∧ 19 * ((zK z).1 + 1) ≤ j ∧ j < 19 * ((zK z).1 + 1) + 19)) μ1 (dtSI μb 133 2 (Int32.ofNat 0)) := ((Fa.wide (fun k j x => by omega)).tr (Fb.wide (fun k j x => by omega))).tr (Fs.wide (fun k j x => by omega))
        refine R1.gk (FF.wide (fun k j x => by omega)) (M1.keptAt FF (by intros; omega) (by intros; omega)) (R1.md.kept W FF (by intros; omega)) ⟨?_, ?_, fun i hi => ?_⟩ (by rw [m_I_SI, if_pos ⟨rfl, rfl⟩])
        · show (zK z).1 + 1 ≤ 3; omega
        · rw [m_I_SI, if_neg (by omega), Fb.i (by omega), m_I_SI, if_pos ⟨rfl, rfl⟩]; rfl
        · have hi' : i < (zK z).1 + 1 := hi
          show MH _ _ _ (if i = (zK z).1 then (A, zD z) else (zK z).2 i).1 ∧ MD _ _ (if i = (zK z).1 then (A, zD z) else (zK z).2 i).2 ∧ dWF (if i = (zK z).1 then (A, zD z) else (zK z).2 i).1 (if i = (zK z).1 then (A, zD z) else (zK z).2 i).2
          by_cases e : i = (zK z).1
          · rw [if_pos e, e]
            have Mb : MH μb (504 * ((zK z).1 + 1)) (19 * ((zK z).1 + 1)) A := MH.copied (a := 0) Ma Fb gI gJ
            have Db : MD μb (504 * ((zK z).1 + 1)) (zD z) := MD.copied (a := 0) Da W gI
            exact ⟨Mb.keptAt Fs (by intros; omega) (by intros; omega), Db.kept W Fs (by intros; omega), W⟩
          · rw [if_neg e]
            obtain ⟨x1, x2, x3⟩ := R1.mk.2.2 i (by omega)
            exact ⟨x1.keptAt FF (by intros; omega) (by intros; omega), x2.kept x3 FF (by intros; omega), x3⟩
  · have e3 : (zK z).1 = 3 := by omega
    refine both.no HP HM W (-Int32.ofNat 1) (Int32.ofNat 4) ?_ (fun μ1 R1 => ?_)
    · rw [f_X11_mark, HP.g11, o_bind, e3, if_neg (by decide), C.v0, o_bind, show (4 : Int32) = Int32.ofNat 4 from rfl, p_fail C, o_call]
    · have C1 := R1.c
      rw [f_X12_mark, R1.g40, o_bind, e3, if_pos (by decide), C1.v133, o_bind, show (4 : Int32) = Int32.ofNat 4 from rfl, n_refuse C1, o_call]
theorem cs55 {μ : dtM} {w : aW} {f : aF} {A : aH} {z : aZ} (HP : RP μ w f A z) (HM : RM μ f A z) (W : dWF A (zD z)) : both (f_X11_undo 0) (f_X12_undo 133) μ := by
  have C := HP.c
  have HH := HP.ph
  have hK := HP.pk.1
  have wo := HP.2.1.1
  by_cases h0 : 0 < (zK z).1
  · obtain ⟨m, hm⟩ : ∃ m, (zK z).1 = m + 1 := ⟨(zK z).1 - 1, by omega⟩
    have hm3 : m < 3 := by omega
    obtain ⟨x1, x2, x3⟩ := HP.pk.2.2 m (by omega)
    have es : Int32.ofNat (m + 1) - 1 = Int32.ofNat m := by
      rw [show (1 : Int32) = Int32.ofNat 1 from rfl, z_sub (by omega)]; rfl
    refine both.mk HP HM W (v := Int32.ofNat m) (w' := w) (f' := (Int32.ofNat 0, f.2)) (A' := ((zK z).2 m).1) (z' := upK z ((zK z).2 m).2 (m, (zK z).2)) ?_ (fun μ1 R1 => ?_) x3
    · have F0 : Fr (fun k j => k = 0 ∧ j = 11) μ (dtSI μ 0 11 (Int32.ofNat m)) := Fr.SI ⟨rfl, rfl⟩
      have C0 : CX (dtSI μ 0 11 (Int32.ofNat m)) := C.SI
      have y1 := x1.kept F0 (by intros; omega)
      have y2 := x2.kept F0 (by intros; omega)
      obtain ⟨μa, ea, Fa, Ha⟩ := y1.copyFrom (p := w.1) (HH.kept F0 (by intros; have := wo.1; omega)).1 (by have := wo.1; omega)
      have Ca := C0.kept Fa
      have y3 := y2.kept Fa (by intros; have := wo.1; omega)
      obtain ⟨μb, eb, Fb, Hb⟩ := y3.copyFrom (p := w.2.2.1) x3 (Ca.dShw (by have := wo.2; omega)) (Ca.mk hm3).2.1 (by have := wo.2; omega)
      have Cb := Ca.kept Fb
      have g5 : opGR 11 5 (dtSI μ 0 11 (Int32.ofNat m)) 0 = some w.1 := o_GR C0.s0 (by rw [F0.Ra]; exact HP.2.1.2.1)
      have g7 : opGR 11 7 μa 0 = some w.2.2.1 := o_GR Ca.s0 (by rw [Fa.Ra, F0.Ra]; exact HP.2.1.2.2.2.1)
      have gm : opGI 11 11 μ 0 = some (Int32.ofNat (m + 1)) := by rw [HP.g11, hm]
      have gm0 : opGI 11 11 (dtSI μ 0 11 (Int32.ofNat m)) 0 = some (Int32.ofNat m) := by rw [o_GI C0.s0, m_I_SI, if_pos ⟨rfl, rfl⟩]
      have gma : opGI 11 11 μa 0 = some (Int32.ofNat m) := by rw [o_GI Ca.s0, Fa.i (by have := wo.1; omega), m_I_SI, if_pos ⟨rfl, rfl⟩]
      have gmb : opGI 11 11 μb 0 = some (Int32.ofNat m) := by rw [o_GI Cb.s0, Fb.i (by have := wo.2; omega), Fa.i (by have := wo.1; omega), m_I_SI, if_pos ⟨rfl, rfl⟩]
      have k0 := C0.mk hm3
      have ka := Ca.mk hm3
      refine ⟨dtSI μb 0 0 (Int32.ofNat 0), ?_, ?_, ?_⟩
      · rw [f_X11_undo, gm, o_bind, if_pos (show 0 < Int32.ofNat (m + 1) by rw [show (0 : Int32) = Int32.ofNat 0 from rfl, z_lt (by decide) (by omega)]; omega), o_bind, es, o_PI C.s0, o_bind, g5, o_bind, o_GR C0.s0 C0.r0_9, o_bind, gm0, o_bind, o_LR C0.s52 hm3 (by decide) k0.2.2.1, o_bind, o_Rv (HH.kept F0 (by intros; have := wo.1; omega)).s0, o_bind, ea, o_bind, g7, o_bind, o_GR Ca.s0 Ca.r0_10, o_bind, gma, o_bind, o_LR Ca.s53 hm3 (by decide) ka.2.2.2, o_bind, o_Rv (Ca.dShw (by have := wo.2; omega)).1, o_bind, eb, o_bind, gmb, o_bind, Cb.v0, o_bind, p_ans Cb, o_call]
      · exact (((F0.wide (Q := LPq) (fun k j x => by show k < 133; omega)).tr (Fa.wide (Q := LPq) (fun k j x => by show k < 133; have := wo.1; omega))).tr (Fb.wide (Q := LPq) (fun k j x => by show k < 133; have := wo.2; omega))).tr (Fr.SI (show 0 < 133 by decide))
      · have Fs : Fr (fun k j => k = 0 ∧ j = 0) μb (dtSI μb 0 0 (Int32.ofNat 0)) := Fr.SI ⟨rfl, rfl⟩
        have FF : Fr (fun k j => (k = 0 ∧ (j = 0 ∨ j = 11)) ∨ (w.1 ≤ k ∧ k ≤ w.1 + 12) ∨ (w.2.2.1 ≤ k ∧ k ≤ w.2.2.1 + 6)) μ (dtSI μb 0 0 (Int32.ofNat 0)) := (((F0.wide (fun k j x => by omega)).tr (Fa.wide (fun k j x => by omega))).tr (Fb.wide (fun k j x => by omega))).tr (Fs.wide (fun k j x => by omega))
        refine HP.gk (FF.wide (fun k j x => by omega)) ((Ha.kept Fb (by intros; have := wo.1; have := wo.2; omega)).kept Fs (by intros; have := wo.1; omega)) (Hb.kept Fs (by intros; have := wo.2; omega)) ⟨?_, ?_, fun i hi => ?_⟩ (by rw [m_I_SI, if_pos ⟨rfl, rfl⟩])
        · show m ≤ 3; omega
        · rw [m_I_SI, if_neg (by omega), Fb.i (by have := wo.2; omega), Fa.i (by have := wo.1; omega), m_I_SI, if_pos ⟨rfl, rfl⟩]
        · have hi' : i < m := hi
          obtain ⟨q1, q2, q3⟩ := HP.pk.2.2 i (by omega)
          exact ⟨q1.kept FF (by intros; have := wo.1; have := wo.2; omega), q2.kept FF (by intros; have := wo.1; have := wo.2; omega), q3⟩
    · have C1 := R1.c
      have g : opGI 12 40 μ1 133 = some (Int32.ofNat (m + 1)) := by rw [R1.g40, hm]
      obtain ⟨μa, ea, Fa, gI, gJ⟩ := n_copies (a := m + 1) (b := 0) (by omega) (by decide) (by omega) C1
      have Ca := C1.kept Fa
      have ga : opGI 12 40 μa 133 = some (Int32.ofNat (m + 1)) := by rw [o_GI Ca.s133, Fa.i (by omega), ← hm]; exact congrArg some R1.mk.2.1
      have Cb : CX (dtSI μa 133 40 (Int32.ofNat m)) := Ca.SI
      have gb : opGI 12 40 (dtSI μa 133 40 (Int32.ofNat m)) 133 = some (Int32.ofNat m) := by rw [o_GI Cb.s133, m_I_SI, if_pos ⟨rfl, rfl⟩]
      obtain ⟨y1, y2, y3⟩ := R1.mk.2.2 m (by omega)
      refine ⟨dtSI (dtSI μa 133 40 (Int32.ofNat m)) 133 2 (Int32.ofNat 0), ?_, ?_, ?_⟩
      · rw [f_X12_undo, g, o_bind, if_neg (show ¬ Int32.ofNat (m + 1) = 0 by rw [show (0 : Int32) = Int32.ofNat 0 from rfl, z_eq (by omega) (by decide)]; omega), o_bind, C1.v133, o_bind, show (0 : Int32) = Int32.ofNat 0 from rfl, ea, o_bind, ga, o_bind, es, o_PI Ca.s133, o_bind, gb, o_bind, Cb.v133, o_bind, n_gives Cb, o_call]
      · exact ((Fa.wide (Q := LMq) (fun k j x => by show 133 ≤ k ∧ k < 154; omega)).tr (Fr.SI (show 133 ≤ 133 ∧ 133 < 154 by decide))).tr (Fr.SI (show 133 ≤ 133 ∧ 133 < 154 by decide))
      · have Fs : Fr (fun k j => k = 133 ∧ (j = 2 ∨ j = 40)) μa (dtSI (dtSI μa 133 40 (Int32.ofNat m)) 133 2 (Int32.ofNat 0)) := (Fr.SI ⟨rfl, Or.inr rfl⟩).tr (Fr.SI ⟨rfl, Or.inl rfl⟩)
        have FF : Fr (fun k j => (k = 133 ∧ (j = 2 ∨ j = 40)) ∨ (k = 134 ∧ j < 504) ∨ (k = 135 ∧ j < 19)) μ1 (dtSI (dtSI μa 133 40 (Int32.ofNat m)) 133 2 (Int32.ofNat 0)) := (Fa.wide (fun k j x => by omega)).tr (Fs.wide (fun k j x => by omega))
        have Mb : MH μa (504 * 0) (19 * 0) ((zK z).2 m).1 := MH.copied (a := m + 1) (b := 0) y1 Fa gI gJ
        have Db : MD μa (504 * 0) ((zK z).2 m).2 := MD.copied (a := m + 1) (b := 0) y2 y3 gI
        refine R1.gk (FF.wide (fun k j x => by omega)) (Mb.keptAt Fs (by intros; omega) (by intros; omega)) (Db.kept y3 Fs (by intros; omega)) ⟨?_, ?_, fun i hi => ?_⟩ (by rw [m_I_SI, if_pos ⟨rfl, rfl⟩])
        · show m ≤ 3; omega
        · rw [m_I_SI, if_neg (by omega), m_I_SI, if_pos ⟨rfl, rfl⟩]
        · have hi' : i < m := hi
          obtain ⟨q1, q2, q3⟩ := R1.mk.2.2 i (by omega)
          exact ⟨q1.keptAt FF (by intros; omega) (by intros; omega), q2.kept q3 FF (by intros; omega), q3⟩
  · have e0 : (zK z).1 = 0 := by omega
    refine both.no HP HM W (-Int32.ofNat 1) (Int32.ofNat 6) ?_ (fun μ1 R1 => ?_)
    · rw [f_X11_undo, HP.g11, o_bind, e0, if_neg (by decide), C.v0, o_bind, show (6 : Int32) = Int32.ofNat 6 from rfl, p_fail C, o_call]
    · have C1 := R1.c
      rw [f_X12_undo, R1.g40, o_bind, e0, if_pos (by decide), C1.v133, o_bind, show (6 : Int32) = Int32.ofNat 6 from rfl, n_refuse C1, o_call]
