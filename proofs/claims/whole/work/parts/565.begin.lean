/-! PURE 996: what stays where a reference changes; a text begun, the program -/
def sRq (k j : Nat) : Prop := (k = 0 ∧ 5 ≤ j ∧ j ≤ 8) ∨ (k = 115 ∧ j = 0) ∨ (k = 119 ∧ j = 0)
def Fw (P : Nat → Nat → Prop) (μ μ' : dtM) : Prop := dtN μ' = dtN μ ∧ dtZ μ' = dtZ μ ∧ (dtS μ' = dtS μ ∧ ∀ k j, ¬ sRq k j → dtR μ' k j = dtR μ k j) ∧ ∀ k j, ¬ P k j → dtI μ' k j = dtI μ k j ∧ dtJ μ' k j = dtJ μ k j
/-- a memory with another one's references -/
def wRf (μ μ' : dtM) : dtM := (dtN μ', dtZ μ', dtS μ', dtI μ', dtJ μ', dtR μ)
theorem Fw.fr {P : Nat → Nat → Prop} {μ μ' : dtM} (h : Fw P μ μ') : Fr P μ (wRf μ μ') := ⟨h.1, h.2.1, ⟨h.2.2.1.1, rfl⟩, h.2.2.2⟩
theorem Fr.w {P : Nat → Nat → Prop} {μ μ' : dtM} (h : Fr P μ μ') : Fw P μ μ' := ⟨h.1, h.2.1, ⟨h.2.2.1.1, fun k j _ => by rw [h.Ra]⟩, h.2.2.2⟩
theorem Fw.tr {P : Nat → Nat → Prop} {μ μ' μ'' : dtM} (h : Fw P μ μ') (g : Fw P μ' μ'') : Fw P μ μ'' :=
  ⟨g.1.trans h.1, g.2.1.trans h.2.1, ⟨g.2.2.1.1.trans h.2.2.1.1, fun k j q => (g.2.2.1.2 k j q).trans (h.2.2.1.2 k j q)⟩, fun k j q => ⟨(g.2.2.2 k j q).1.trans (h.2.2.2 k j q).1, (g.2.2.2 k j q).2.trans (h.2.2.2 k j q).2⟩⟩
theorem Fw.wide {P Q : Nat → Nat → Prop} {μ μ' : dtM} (h : Fw P μ μ') (hq : ∀ k j, P k j → Q k j) : Fw Q μ μ' := ⟨h.1, h.2.1, h.2.2.1, fun k j q => h.2.2.2 k j (fun p => q (hq k j p))⟩
theorem Fw.SR {P : Nat → Nat → Prop} {μ : dtM} {k j : Nat} {v : Option Nat} (hk : sRq k j) : Fw P μ (dtSR μ k j v) := ⟨rfl, rfl, ⟨rfl, fun a b q => m_R_SR.trans (if_neg (fun e => q (by rw [e.1, e.2]; exact hk)))⟩, fun _ _ _ => ⟨rfl, rfl⟩⟩
theorem Fw.i {P : Nat → Nat → Prop} {μ μ' : dtM} (h : Fw P μ μ') {k j : Nat} (q : ¬ P k j) : dtI μ' k j = dtI μ k j := (h.2.2.2 k j q).1
theorem Fw.j {P : Nat → Nat → Prop} {μ μ' : dtM} (h : Fw P μ μ') {k j : Nat} (q : ¬ P k j) : dtJ μ' k j = dtJ μ k j := (h.2.2.2 k j q).2
theorem Fw.S {P : Nat → Nat → Prop} {μ μ' : dtM} (h : Fw P μ μ') : dtS μ' = dtS μ := h.2.2.1.1
theorem Fw.r {P : Nat → Nat → Prop} {μ μ' : dtM} (h : Fw P μ μ') {k j : Nat} (q : ¬ sRq k j) : dtR μ' k j = dtR μ k j := h.2.2.1.2 k j q
theorem rfL_sq : ∀ q, q ∈ rfL → ¬ ((q.1 = 0 ∧ 5 ≤ q.2.1 ∧ q.2.1 ≤ 8) ∨ (q.1 = 115 ∧ q.2.1 = 0) ∨ (q.1 = 119 ∧ q.2.1 = 0)) := by decide +kernel
theorem CX.keptW {P : Nat → Nat → Prop} {μ μ' : dtM} (C : CX μ) (F : Fw P μ μ') : CX μ' := by
  refine ⟨⟨by rw [F.1]; exact C.1.1, by rw [F.2.1]; exact C.1.2⟩, fun k h => by rw [F.S]; exact C.2.1 k h, fun q h => ?_⟩
  rw [F.r (rfL_sq q h)]; exact C.2.2 q h
theorem CX.cSR {μ : dtM} {k j : Nat} {v : Option Nat} (C : CX μ) (h : sRq k j) : CX (dtSR μ k j v) := C.keptW (P := fun _ _ => True) (Fw.SR h)
theorem PT.keptW {P : Nat → Nat → Prop} {μ μ' : dtM} {T : aT} (H : PT μ T) (F : Fw P μ μ') (q : ∀ k j, 2 ≤ k → k ≤ 9 → ¬ P k j) : PT μ' T := by
  have y : PT (wRf μ μ') T := PT.kept H F.fr q
  exact y
theorem PB.keptW {P : Nat → Nat → Prop} {μ μ' : dtM} {B : aB} (H : PB μ B) (F : Fw P μ μ') (q : ∀ k j, 10 ≤ k → k ≤ 11 → ¬ P k j) : PB μ' B := by
  have y : PB (wRf μ μ') B := PB.kept H F.fr q
  exact y
theorem PD.keptW {P : Nat → Nat → Prop} {μ μ' : dtM} {g : Nat} {D : aD} (H : PD μ g D) (F : Fw P μ μ') (q : ∀ k j, g ≤ k → k ≤ g + 6 → ¬ P k j) : PD μ' g D := by
  have y : PD (wRf μ μ') g D := PD.kept H F.fr q
  exact y
theorem PV.keptW {P : Nat → Nat → Prop} {μ μ' : dtM} {V : aV} (H : PV μ V) (F : Fw P μ μ') (q : ∀ j, ¬ P 132 j) : PV μ' V := by
  have y : PV (wRf μ μ') V := PV.kept H F.fr q
  exact y
theorem PL.keptW {P : Nat → Nat → Prop} {μ μ' : dtM} {l : Nat → Nat} (H : PL μ l) (F : Fw P μ μ') (q : ∀ j, ¬ P 131 j) : PL μ' l := by
  have y : PL (wRf μ μ') l := PL.kept H F.fr q
  exact y
theorem PH.keptW {P : Nat → Nat → Prop} {μ μ' : dtM} {h : Nat} {A : aH} (H : PH μ h A) (S : pSh μ' h) (F : Fw P μ μ') (hP : ∀ k, h ≤ k → k ≤ h + 12 → ∀ j, ¬ P k j) : PH μ' h A := ⟨S, (PH.kept H F.fr hP).2⟩
theorem PK.keptW {P : Nat → Nat → Prop} {μ μ' : dtM} {K : aK} (H : PK μ K) (C : CX μ) (F : Fw P μ μ') (q : ∀ k j, 54 ≤ k → k ≤ 113 → ¬ P k j) (q2 : ¬ P 0 11) : PK μ' K := by
  refine ⟨H.1, by rw [F.i q2]; exact H.2.1, fun i hi => ?_⟩
  have h3 := H.1
  obtain ⟨a, b, c⟩ := H.2.2 i hi
  exact ⟨a.keptW ((C.keptW F).mk (show i < 3 by omega)).1 F (fun k _ _ j => q k j (by omega) (by omega)), b.keptW F (fun k j _ _ => q k j (by omega) (by omega)), c⟩
/-- but what a text's reading may change -/
abbrev PTx : Nat → Nat → Prop := fun k j => (k = 0 ∧ j = 0) ∨ k = 10 ∨ (12 ≤ k ∧ k ≤ 51) ∨ (114 ≤ k ∧ k ≤ 121)
abbrev MTx : Nat → Nat → Prop := fun k j => (k = 133 ∧ ¬ j = 3 ∧ ¬ j = 4 ∧ ¬ j = 39 ∧ ¬ j = 40) ∨ (k = 134 ∧ (j < 504 ∨ 2016 ≤ j)) ∨ (k = 135 ∧ (j < 19 ∨ 76 ≤ j)) ∨ k = 140 ∨ k = 141
def upX (z : aZ) (B : aB) (D : aD) : aZ := (zT z, B, D, zK z, zV z, zL z)
theorem RP.txt {w w' : aW} {f : aF} {A A' : aH} {z : aZ} {B : aB} {D : aD} {μ μ' : dtM} {st : Int32} (H : RP μ w f A z) (F : Fw PTx μ μ') (hw : PR μ' w') (hh : PH μ' w'.1 A') (hb : PB μ' B) (hd : PD μ' w'.2.2.1 D) (e : dtI μ' 0 0 = st) : RP μ' w' (st, f.2) A' (upX z B D) := by
  obtain ⟨C, R, X, _, T, _, _, K, V, L⟩ := H
  refine ⟨C.keptW F, hw, ⟨e, ?_, ?_⟩, hh, T.keptW F ?_, hb, hd, K.keptW C F ?_ ?_, V.keptW F ?_, L.keptW F ?_⟩
  · rw [F.j (by omega)]; exact X.2.1
  · rw [F.j (by omega)]; exact X.2.2
  all_goals (intros; omega)
theorem RM.txt {f : aF} {A A' : aH} {z : aZ} {B : aB} {D : aD} {μ μ' : dtM} {st : Int32} (H : RM μ f A z) (F : Fr MTx μ μ') (hh : MH μ' 0 0 A') (hb : MB μ' B) (hd : MD μ' 0 D) (e : dtI μ' 133 2 = st) : RM μ' (st, f.2) A' (upX z B D) := by
  obtain ⟨C, X, _, T, _, _, K, V, L⟩ := H
  refine ⟨C.kept F, ⟨e, ?_, ?_⟩, hh, T.kept F ?_, hb, hd, K.kept F ?_ ?_ ?_, V.kept F ?_ ?_, L.kept F ?_⟩
  · rw [F.j (by omega)]; exact X.2.1
  · rw [F.j (by omega)]; exact X.2.2
  all_goals (intros; omega)
theorem RM.lpW {f : aF} {A : aH} {z : aZ} {μ μ' : dtM} (H : RM μ f A z) (W : dWF A (zD z)) (F : Fw LPq μ μ') : RM μ' f A z := by
  have C' := H.1.keptW F
  have Y := H.lp W F.fr
  obtain ⟨_, X, h, T, B, D, K, V, L⟩ := Y
  exact ⟨C', X, ⟨C'.mSh, h.2⟩, T, B, D, ⟨K.1, K.2.1, fun i hi => ⟨⟨C'.mSh, (K.2.2 i hi).1.2⟩, (K.2.2 i hi).2⟩⟩, V, L⟩
theorem RP.lmW {w : aW} {f : aF} {A : aH} {z : aZ} {μ μ' : dtM} (H : RP μ w f A z) (F : Fr LMq μ μ') : RP μ' w f A z := H.lm F
/-- as both, but references may change -/
def bothW {α : Type} (a b : dtM → Option (α × dtM)) (μ : dtM) : Prop := ∃ v μ1 μ2, a μ = some (v, μ1) ∧ b μ1 = some (v, μ2) ∧ RR μ2 ∧ Fw LA μ μ2 ∧ Fw LA μ μ1
theorem both.w {α : Type} {a b : dtM → Option (α × dtM)} {μ : dtM} (h : both a b μ) : bothW a b μ := by
  obtain ⟨v, μ1, μ2, e1, e2, r, F, G⟩ := h
  exact ⟨v, μ1, μ2, e1, e2, r, F.w, G.w⟩
theorem bothW.mk {α : Type} {a b : dtM → Option (α × dtM)} {μ : dtM} {w : aW} {f : aF} {A : aH} {z : aZ} (HM : RM μ f A z) (W : dWF A (zD z)) {v : α} {w' : aW} {f' : aF} {A' : aH} {z' : aZ}
    (hP : ∃ μ1, a μ = some (v, μ1) ∧ Fw LPq μ μ1 ∧ RP μ1 w' f' A' z') (hM : ∀ μ1, RM μ1 f A z → ∃ μ2, b μ1 = some (v, μ2) ∧ Fr LMq μ1 μ2 ∧ RM μ2 f' A' z') (W' : dWF A' (zD z')) : bothW a b μ := by
  obtain ⟨μ1, e1, F1, R1⟩ := hP
  obtain ⟨μ2, e2, F2, R2⟩ := hM μ1 (HM.lpW W F1)
  exact ⟨v, μ1, μ2, e1, e2, ⟨w', f', A', z', R1.lm F2, R2, W'⟩, (F1.wide (fun k j x => by unfold LPq at x; show k < 154; omega)).tr (F2.w.wide (fun k j x => x.2)), F1.wide (fun k j x => by unfold LPq at x; show k < 154; omega)⟩
theorem p_begin {μ : dtM} {B : aB} {c n : Nat} (C : CX μ) (H : PB μ B) (hc : c = 115 ∨ c = 119) (hn : n ≤ B.1) : ∃ μ', f_X8_begin c 11 (Int32.ofNat n) μ = some μ' ∧ Fw (fun k j => k = c ∧ 1 ≤ j ∧ j ≤ 9) μ μ' ∧ PTk μ' c n B.2.1 0 ∧ ∀ j, dtR μ' 0 j = dtR μ 0 j := by
  have n9 := H.1.1
  have sc : dtS μ c = (0, 8) := by
    rcases hc with rfl | rfl
    · exact C.s115
    · exact C.s119
  obtain ⟨m1, hm1⟩ : ∃ m, m = dtSR μ c 0 (some 11) := ⟨_, rfl⟩
  obtain ⟨m2, hm2⟩ : ∃ m, m = dtSI m1 c 1 (Int32.ofNat n) := ⟨_, rfl⟩
  obtain ⟨m3, hm3⟩ : ∃ m, m = dtSI m2 c 3 (Int32.ofNat 0) := ⟨_, rfl⟩
  obtain ⟨m4, hm4⟩ : ∃ m, m = dtSI m3 c 8 (Int32.ofNat 0) := ⟨_, rfl⟩
  obtain ⟨m5, hm5⟩ : ∃ m, m = dtSI m4 c 9 (-Int32.ofNat 1) := ⟨_, rfl⟩
  have F1 : Fw (fun k j => k = c ∧ 1 ≤ j ∧ j ≤ 9) μ m1 := by
    rw [hm1]; exact Fw.SR (by unfold sRq; omega)
  have F2 : Fr (fun k j => k = c ∧ 1 ≤ j ∧ j ≤ 9) m1 m2 := by
    rw [hm2]; exact Fr.SI ⟨rfl, by decide, by decide⟩
  have F3 : Fr (fun k j => k = c ∧ 1 ≤ j ∧ j ≤ 9) m2 m3 := by
    rw [hm3]; exact Fr.SI ⟨rfl, by decide, by decide⟩
  have F4 : Fr (fun k j => k = c ∧ 1 ≤ j ∧ j ≤ 9) m3 m4 := by
    rw [hm4]; exact Fr.SI ⟨rfl, by decide, by decide⟩
  have F5 : Fr (fun k j => k = c ∧ 1 ≤ j ∧ j ≤ 9) m4 m5 := by
    rw [hm5]; exact Fr.SI ⟨rfl, by decide, by decide⟩
  have s1 : dtS m1 c = (0, 8) := by rw [F1.S]; exact sc
  have s2 : dtS m2 c = (0, 8) := by rw [F2.S]; exact s1
  have s3 : dtS m3 c = (0, 8) := by rw [F3.S]; exact s2
  have s4 : dtS m4 c = (0, 8) := by rw [F4.S]; exact s3
  have s5 : dtS m5 c = (0, 8) := by rw [F5.S]; exact s4
  have t1 : dtS m1 11 = (2, 900) := by rw [F1.S]; exact C.s11
  have F25 := ((F2.tr F3).tr F4).tr F5
  have FF := F1.tr F25.w
  have T : TXP m5 c n B.2.1 := by
    refine ⟨⟨s5, ?_, ?_, ?_, ?_⟩, by omega, by omega, fun j hj => ⟨?_, ?_⟩, ?_⟩
    · rw [F25.Ra, hm1, m_R_SR, if_pos ⟨rfl, rfl⟩]
    · rw [F25.S]; exact t1
    · rw [hm5, m_I_SI, if_neg (by omega), hm4, m_I_SI, if_pos ⟨rfl, rfl⟩]
    · rw [hm5, m_I_SI, if_pos ⟨rfl, rfl⟩]
    · rw [FF.i (by omega)]; exact H.2.2.1 j (by omega)
    · exact H.1.2 j (by omega)
    · rw [hm5, m_I_SI, if_neg (by omega), hm4, m_I_SI, if_neg (by omega), hm3, m_I_SI, if_neg (by omega), hm2, m_I_SI, if_pos ⟨rfl, rfl⟩]
  obtain ⟨μ', e1, F6, K⟩ := p_adv T (Nat.zero_le n) (show dtI m5 c 3 = Int32.ofNat 0 by rw [hm5, m_I_SI, if_neg (by omega), hm4, m_I_SI, if_neg (by omega), hm3, m_I_SI, if_pos ⟨rfl, rfl⟩])
  refine ⟨μ', ?_, FF.tr (F6.w.wide (fun k j x => ⟨x.1, by omega, by omega⟩)), K, fun j => by rw [F6.Ra, F25.Ra, hm1, m_R_SR, if_neg (by omega)]⟩
  rw [f_X8_begin, o_PR sc (by decide), o_bind, ← hm1, o_AL t1 (by decide), o_bind, if_neg (show ¬ Int32.ofNat 900 < Int32.ofNat n by rw [z_lt (by decide) (by omega)]; omega), o_bind, o_PI s1, o_bind, ← hm2, show (0 : Int32) = Int32.ofNat 0 from rfl, o_PI s2, o_bind, ← hm3, o_PI s3, o_bind, ← hm4, show (-1 : Int32) = -Int32.ofNat 1 from rfl, o_PI s4, o_bind, ← hm5, T.v, o_bind, e1, o_bind]
