/-! PURE 9994: the days' text, the program's pieces -/
theorem CX.gd3 {μ : dtM} {g : Nat} (C : CX μ) (hg : g = 38 ∨ g = 45) : opGR 0 3 μ g = some (g + 1) := o_GR (C.dShw hg).1 ((C.dShw hg).2.2 0 (by decide))
theorem CX.gd4 {μ : dtM} {g : Nat} (C : CX μ) (hg : g = 38 ∨ g = 45) : opGR 0 4 μ g = some (g + 2) := o_GR (C.dShw hg).1 ((C.dShw hg).2.2 1 (by decide))
theorem CX.gd5 {μ : dtM} {g : Nat} (C : CX μ) (hg : g = 38 ∨ g = 45) : opGR 0 5 μ g = some (g + 3) := o_GR (C.dShw hg).1 ((C.dShw hg).2.2 2 (by decide))
theorem CX.gd6 {μ : dtM} {g : Nat} (C : CX μ) (hg : g = 38 ∨ g = 45) : opGR 0 6 μ g = some (g + 4) := o_GR (C.dShw hg).1 ((C.dShw hg).2.2 3 (by decide))
theorem CX.gd7 {μ : dtM} {g : Nat} (C : CX μ) (hg : g = 38 ∨ g = 45) : opGR 0 7 μ g = some (g + 5) := o_GR (C.dShw hg).1 ((C.dShw hg).2.2 4 (by decide))
theorem CX.gd8 {μ : dtM} {g : Nat} (C : CX μ) (hg : g = 38 ∨ g = 45) : opGR 0 8 μ g = some (g + 6) := o_GR (C.dShw hg).1 ((C.dShw hg).2.2 5 (by decide))
theorem CX.sd1 {μ : dtM} {g : Nat} (C : CX μ) (hg : g = 38 ∨ g = 45) : dtS μ (g + 1) = (1, 60) := (C.dShw hg).2.1 0 (by decide)
theorem CX.sd2 {μ : dtM} {g : Nat} (C : CX μ) (hg : g = 38 ∨ g = 45) : dtS μ (g + 2) = (1, 60) := (C.dShw hg).2.1 1 (by decide)
theorem CX.sd3 {μ : dtM} {g : Nat} (C : CX μ) (hg : g = 38 ∨ g = 45) : dtS μ (g + 3) = (1, 60) := (C.dShw hg).2.1 2 (by decide)
theorem CX.sd4 {μ : dtM} {g : Nat} (C : CX μ) (hg : g = 38 ∨ g = 45) : dtS μ (g + 4) = (1, 60) := (C.dShw hg).2.1 3 (by decide)
theorem CX.sd5 {μ : dtM} {g : Nat} (C : CX μ) (hg : g = 38 ∨ g = 45) : dtS μ (g + 5) = (1, 60) := (C.dShw hg).2.1 4 (by decide)
theorem CX.sd6 {μ : dtM} {g : Nat} (C : CX μ) (hg : g = 38 ∨ g = 45) : dtS μ (g + 6) = (1, 60) := (C.dShw hg).2.1 5 (by decide)
abbrev Pax (kk a : Nat) : Nat → Nat → Prop := fun k j => Pcl 119 k j ∨ (k = kk ∧ j = a)
def PRaw (μ : dtM) (n : Nat) (B : Nat → Int32) (kk a : Nat) (r : aX (Nat × Nat)) : Prop := match r with
  | .ok y => dtI μ kk a = Int32.ofNat y.1 ∧ PTk μ 119 n B y.2
  | .error x => PFl μ 119 x
def PRc (μ : dtM) (n : Nat) (B : Nat → Int32) (kk a : Nat) (r : aX (Nat × Nat)) : Prop := match r with
  | .ok y => dtI μ kk a = cmpP y.1 ∧ PTk μ 119 n B y.2
  | .error x => PFl μ 119 x
theorem PTk.st {μ : dtM} {n e kk a : Nat} {B : Nat → Int32} {v : Int32} (H : PTk μ 119 n B e) (h1 : ¬ kk = 11) (h2 : ¬ kk = 119) : PTk (dtSI μ kk a v) 119 n B e := H.kept (P := fun k j => k = kk ∧ j = a) (Fr.SI ⟨rfl, rfl⟩) (fun j x => h2 x.1.symm) (fun j x => h1 x.1.symm)
theorem PFl.st {μ : dtM} {kk a : Nat} {v : Int32} {x : Nat × Nat} (H : PFl μ 119 x) (h2 : ¬ kk = 119) : PFl (dtSI μ kk a v) 119 x := by
  unfold PFl
  rw [m_I_SI, if_neg (fun x => h2 x.1.symm), m_I_SI, if_neg (fun x => h2 x.1.symm)]; exact H
theorem p_tail {μ : dtM} {n a kk : Nat} {B : Nat → Int32} {r : aX (Nat × Nat)} {v : Int32} (s : dtS μ kk = (1, 60)) (ha : a < 60) (h1 : ¬ kk = 11) (h2 : ¬ kk = 119) (R : PRv μ 119 n B r v) (hv : ∀ y, r = .ok y → y.1 < 10000) : opSI μ kk (Int32.ofNat a) v = some (dtSI μ kk a v) ∧ opLI 1 (dtSI μ kk a v) kk (Int32.ofNat a) = some v ∧ PRaw (dtSI μ kk a v) n B kk a r ∧ (v = (-1 : Int32)) = (xOk r = false) := by
  have s' : dtS (dtSI μ kk a v) kk = (1, 60) := s
  refine ⟨o_SI s ha (by decide), by rw [o_LI s' ha (by decide), m_I_SI, if_pos ⟨rfl, rfl⟩], ?_, ?_⟩
  · cases r with
    | error x =>
      obtain ⟨_, r2⟩ := R
      exact r2.st h2
    | ok y =>
      obtain ⟨r1, r2⟩ := R
      exact ⟨by rw [m_I_SI, if_pos ⟨rfl, rfl⟩]; exact r1, r2.st h1 h2⟩
  · cases r with
    | error x =>
      obtain ⟨r1, _⟩ := R
      exact propext ⟨fun _ => rfl, fun _ => r1⟩
    | ok y =>
      obtain ⟨r1, _⟩ := R
      have := hv y rfl
      rw [r1]
      exact propext ⟨fun x => by
        have x' : Int32.ofNat y.1 = -Int32.ofNat 1 := x
        rw [z_neg (by omega)] at x'
        exact x'.elim, fun x => absurd x (fun z => nomatch z)⟩
theorem xOk_t {α : Type} {r : aX α} (h : ¬ xOk r = false) : xOk r = true := by
  cases q : xOk r with
  | true => rfl
  | false => exact absurd q h
theorem p_who {μ : dtM} {n e g h a : Nat} {B : Nat → Int32} {A : aH} (C : CX μ) (H : PTk μ 119 n B e) (HA : PH μ h A) (hg : g = 38 ∨ g = 45) (ha : a < 60) : ∃ μ', f_X1_readWho 118 g h (Int32.ofNat a) μ = some (bI (xOk (xOld (tx B) n (hpn A) (hs A 3) e)), μ') ∧ Fr (Pax (g + 3) a) μ μ' ∧ PRaw μ' n B (g + 3) a (xOld (tx B) n (hpn A) (hs A 3) e) := by
  have np := HA.np
  obtain ⟨μ1, v, e1, F1, R1⟩ := H.passAmong HA.s2 (many := hs A 3) ⟨np, by decide⟩ (N := hpn A) (fun k hk => ⟨HA.2.1.2.2.2.2 k hk, HA.2.2.2.2.2.2.2 k hk⟩)
  have C1 := C.kept F1
  obtain ⟨t1, t2, t3, t4⟩ := p_tail (C1.sd3 hg) ha (by omega) (by omega) R1 (fun y hy => by have := xOld_lt hy; omega)
  have C2 : CX (dtSI μ1 (g + 3) a v) := C1.SI
  refine ⟨_, ?_, (F1.wide (fun _ _ x => Or.inl x)).tr (Fr.SI (Or.inr ⟨rfl, rfl⟩)), t3⟩
  rw [f_X1_readWho, C.gd5 hg, o_bind, C.g118_0, o_bind, HA.r8, o_bind, HA.g3, o_bind, H.1.v, o_bind, e1, o_call, t1, o_bind, C2.gd5 hg, o_bind, t2, o_bind]
  by_cases q : xOk (xOld (tx B) n (hpn A) (hs A 3) e) = false
  · rw [if_pos (Eq.mpr t4 q), f_X1_readWho_36, q, show (0 : Int32) = Int32.ofNat 0 from rfl, o_ret0']
  · rw [if_neg (fun x => q (Eq.mp t4 x)), f_X1_readWho_36, xOk_t q, show (1 : Int32) = Int32.ofNat 1 from rfl, o_ret1']
theorem p_rname {μ : dtM} {n e g h a : Nat} {B : Nat → Int32} {A : aH} (C : CX μ) (H : PTk μ 119 n B e) (HA : PH μ h A) (hg : g = 38 ∨ g = 45) (ha : a < 60) : ∃ μ', f_X1_readRoomName 118 g h (Int32.ofNat a) μ = some (bI (xOk (xOld (tx B) n (hrn A) (hs A 0) e)), μ') ∧ Fr (Pax (g + 4) a) μ μ' ∧ PRaw μ' n B (g + 4) a (xOld (tx B) n (hrn A) (hs A 0) e) := by
  have nr := HA.nr
  obtain ⟨μ1, v, e1, F1, R1⟩ := H.passAmong HA.s1 (many := hs A 0) ⟨nr, by decide⟩ (N := hrn A) (fun k hk => ⟨HA.2.1.2.2.2.1 k hk, HA.2.2.2.2.2.2.1 k hk⟩)
  have C1 := C.kept F1
  obtain ⟨t1, t2, t3, t4⟩ := p_tail (C1.sd4 hg) ha (by omega) (by omega) R1 (fun y hy => by have := xOld_lt hy; omega)
  have C2 : CX (dtSI μ1 (g + 4) a v) := C1.SI
  refine ⟨_, ?_, (F1.wide (fun _ _ x => Or.inl x)).tr (Fr.SI (Or.inr ⟨rfl, rfl⟩)), t3⟩
  rw [f_X1_readRoomName, C.gd6 hg, o_bind, C.g118_0, o_bind, HA.r7, o_bind, HA.g0, o_bind, H.1.v, o_bind, e1, o_call, t1, o_bind, C2.gd6 hg, o_bind, t2, o_bind]
  by_cases q : xOk (xOld (tx B) n (hrn A) (hs A 0) e) = false
  · rw [if_pos (Eq.mpr t4 q), f_X1_readRoomName_36, q, show (0 : Int32) = Int32.ofNat 0 from rfl, o_ret0']
  · rw [if_neg (fun x => q (Eq.mp t4 x)), f_X1_readRoomName_36, xOk_t q, show (1 : Int32) = Int32.ofNat 1 from rfl, o_ret1']
theorem p_what {μ : dtM} {n e g a : Nat} {lo hi : Int32} {B : Nat → Int32} {r : aX (Nat × Nat)} (C : CX μ) (H : PTk μ 119 n B e) (hg : g = 38 ∨ g = 45) (ha : a < 60) (hp : ∃ μ' v, f_X8_passNumber 119 lo hi μ = some (v, μ') ∧ Fr (Pcl 119) μ μ' ∧ PRv μ' 119 n B r v) (hv : ∀ y, r = .ok y → y.1 < 10000) : ∃ μ', f_X1_readWhat 118 g (Int32.ofNat a) lo hi μ = some (bI (xOk r), μ') ∧ Fr (Pax (g + 4) a) μ μ' ∧ PRaw μ' n B (g + 4) a r := by
  obtain ⟨μ1, v, e1, F1, R1⟩ := hp
  have C1 := C.kept F1
  obtain ⟨t1, t2, t3, t4⟩ := p_tail (C1.sd4 hg) ha (by omega) (by omega) R1 hv
  have C2 : CX (dtSI μ1 (g + 4) a v) := C1.SI
  refine ⟨_, ?_, (F1.wide (fun _ _ x => Or.inl x)).tr (Fr.SI (Or.inr ⟨rfl, rfl⟩)), t3⟩
  rw [f_X1_readWhat, C.gd6 hg, o_bind, C.g118_0, o_bind, H.1.v, o_bind, e1, o_call, t1, o_bind, C2.gd6 hg, o_bind, t2, o_bind]
  by_cases q : xOk r = false
  · rw [if_pos (Eq.mpr t4 q), f_X1_readWhat_31, q, show (0 : Int32) = Int32.ofNat 0 from rfl, o_ret0']
  · rw [if_neg (fun x => q (Eq.mp t4 x)), f_X1_readWhat_31, xOk_t q, show (1 : Int32) = Int32.ofNat 1 from rfl, o_ret1']
theorem p_sndD {μ : dtM} {n e g a : Nat} {B : Nat → Int32} (C : CX μ) (H : PTk μ 119 n B e) (hg : g = 38 ∨ g = 45) (ha : a < 60) : ∃ μ', f_X1_readSound 118 g (Int32.ofNat a) μ = some (bI (xOk (xSnd (tx B) n e)), μ') ∧ Fr (Pax (g + 5) a) μ μ' ∧ PRaw μ' n B (g + 5) a (xSnd (tx B) n e) := by
  obtain ⟨μ1, v, e1, F1, R1⟩ := H.passSound
  have C1 := C.kept F1
  obtain ⟨t1, t2, t3, t4⟩ := p_tail (C1.sd5 hg) ha (by omega) (by omega) R1 (fun y hy => by have := xSnd_lt hy; omega)
  have C2 : CX (dtSI μ1 (g + 5) a v) := C1.SI
  refine ⟨_, ?_, (F1.wide (fun _ _ x => Or.inl x)).tr (Fr.SI (Or.inr ⟨rfl, rfl⟩)), t3⟩
  rw [f_X1_readSound, C.gd7 hg, o_bind, C.g118_0, o_bind, H.1.v, o_bind, e1, o_call, t1, o_bind, C2.gd7 hg, o_bind, t2, o_bind]
  by_cases q : xOk (xSnd (tx B) n e) = false
  · rw [if_pos (Eq.mpr t4 q), f_X1_readSound_28, q, show (0 : Int32) = Int32.ofNat 0 from rfl, o_ret0']
  · rw [if_neg (fun x => q (Eq.mp t4 x)), f_X1_readSound_28, xOk_t q, show (1 : Int32) = Int32.ofNat 1 from rfl, o_ret1']
theorem p_cmpS {μ : dtM} {n e g a : Nat} {B : Nat → Int32} {w : Int32} {c : Nat} (C : CX μ) (H : PTk μ 119 n B e) (hg : g = 38 ∨ g = 45) (ha : a < 60) (hw : w = cmpP c) : ∃ μ', ((opGR 0 7 μ g).bind fun x34 => (opSI μ x34 (Int32.ofNat a) w).bind fun μ36 => f_X1_readCompares_75 118 μ36) = some (bI true, μ') ∧ Fr (Pax (g + 5) a) μ μ' ∧ dtI μ' (g + 5) a = cmpP c ∧ PTk μ' 119 n B (lxE (tx B) n e) := by
  have H1 : PTk (dtSI μ (g + 5) a w) 119 n B e := H.st (by omega) (by omega)
  have C1 : CX (dtSI μ (g + 5) a w) := C.SI
  obtain ⟨μ2, e2, F2, H2⟩ := H1.adv
  refine ⟨μ2, ?_, (Fr.SI (Or.inr ⟨rfl, rfl⟩)).tr (F2.wide (fun _ _ x => Or.inl (Ptk.c x))), ?_, H2⟩
  · rw [C.gd7 hg, o_bind, o_SI (C.sd5 hg) ha (by decide), o_bind, f_X1_readCompares_75, C1.g118_0, o_bind, H1.1.v, o_bind, e2, o_bind, show (1 : Int32) = Int32.ofNat 1 from rfl, o_ret1']
  · rw [F2.i (fun x => by
      have y : g + 5 = 119 ∧ 2 ≤ a ∧ a ≤ 7 := x
      omega), m_I_SI, if_pos ⟨rfl, rfl⟩]
    exact hw
theorem p_cmp {μ : dtM} {n e g a : Nat} {B : Nat → Int32} (C : CX μ) (H : PTk μ 119 n B e) (hg : g = 38 ∨ g = 45) (ha : a < 60) : ∃ μ', f_X1_readCompares 118 g (Int32.ofNat a) μ = some (bI (xOk (xCmp (tx B) n e)), μ') ∧ Fr (Pax (g + 5) a) μ μ' ∧ PRc μ' n B (g + 5) a (xCmp (tx B) n e) := by
  unfold xCmp
  have s60 := H.isSign (s := 60) (by decide)
  have s62 := H.isSign (s := 62) (by decide)
  have s61 := H.isSign (s := 61) (by decide)
  by_cases q1 : lxT (tx B) n e = 3 ∧ tx B (lxF (tx B) n e) = 60
  · obtain ⟨μ1, e1, F1, r1, r2⟩ := p_cmpS (w := (-1 : Int32)) (c := 0) C H hg ha rfl
    rw [if_pos q1]
    refine ⟨μ1, ?_, F1, r1, r2⟩
    rw [decide_eq_true q1] at s60
    rw [f_X1_readCompares, C.g118_0, o_bind, H.1.v, o_bind, show (60 : Int32) = Int32.ofNat 60 from rfl, s60, o_call, if_neg (by decide), e1]; rfl
  · rw [if_neg q1]
    rw [decide_eq_false q1] at s60
    by_cases q2 : lxT (tx B) n e = 3 ∧ tx B (lxF (tx B) n e) = 62
    · obtain ⟨μ1, e1, F1, r1, r2⟩ := p_cmpS (w := (1 : Int32)) (c := 1) C H hg ha rfl
      rw [if_pos q2]
      refine ⟨μ1, ?_, F1, r1, r2⟩
      rw [decide_eq_true q2] at s62
      rw [f_X1_readCompares, C.g118_0, o_bind, H.1.v, o_bind, show (60 : Int32) = Int32.ofNat 60 from rfl, s60, o_call, if_pos (by decide), C.g118_0, o_bind, H.1.v, o_bind, show (62 : Int32) = Int32.ofNat 62 from rfl, s62, o_call, if_neg (by decide), e1]; rfl
    · rw [if_neg q2]
      rw [decide_eq_false q2] at s62
      by_cases q3 : lxT (tx B) n e = 3 ∧ tx B (lxF (tx B) n e) = 61
      · obtain ⟨μ1, e1, F1, r1, r2⟩ := p_cmpS (w := (0 : Int32)) (c := 2) C H hg ha rfl
        rw [if_pos q3]
        refine ⟨μ1, ?_, F1, r1, r2⟩
        rw [decide_eq_true q3] at s61
        rw [f_X1_readCompares, C.g118_0, o_bind, H.1.v, o_bind, show (60 : Int32) = Int32.ofNat 60 from rfl, s60, o_call, if_pos (by decide), C.g118_0, o_bind, H.1.v, o_bind, show (62 : Int32) = Int32.ofNat 62 from rfl, s62, o_call, if_pos (by decide), C.g118_0, o_bind, H.1.v, o_bind, show (61 : Int32) = Int32.ofNat 61 from rfl, s61, o_call, if_neg (by decide), e1]; rfl
      · rw [if_neg q3]
        rw [decide_eq_false q3] at s61
        obtain ⟨μ1, e1, F1, R1⟩ := p_flaw (w := 2) H
        refine ⟨μ1, ?_, F1.wide (fun _ _ x => Or.inl x), R1⟩
        rw [f_X1_readCompares, C.g118_0, o_bind, H.1.v, o_bind, show (60 : Int32) = Int32.ofNat 60 from rfl, s60, o_call, if_pos (by decide), C.g118_0, o_bind, H.1.v, o_bind, show (62 : Int32) = Int32.ofNat 62 from rfl, s62, o_call, if_pos (by decide), C.g118_0, o_bind, H.1.v, o_bind, show (61 : Int32) = Int32.ofNat 61 from rfl, s61, o_call, if_pos (by decide), C.g118_0, o_bind, H.1.v, o_bind, show (2 : Int32) = Int32.ofNat 2 from rfl, e1, o_call, o_bI]; rfl
/-! a door's number: below none where there is none -/
theorem z_nle {a : Nat} (h : a < 2147483648) : ¬ Int32.ofNat a ≤ -Int32.ofNat 1 := fun q => by
  rw [Int32.le_iff_toInt_le, Int32.toInt_ofNat_of_lt h, show (-Int32.ofNat 1).toInt = -1 by decide] at q
  omega
theorem xDr_n {u : Nat → Nat} {n nd e : Nat} (h : 0 < nd) : xNum u n 0 (nd - 1) e = xDr u n nd e := by
  unfold xNum xDr
  by_cases q : lxT u n e = 2
  · rw [if_pos q, if_pos q]
    by_cases r : lxV u n e < nd
    · rw [if_pos r, if_pos ⟨Nat.zero_le _, by omega⟩]
    · rw [if_neg r, if_neg (fun x => r (by omega))]
  · rw [if_neg q, if_neg q]
theorem p_passD {μ : dtM} {n e nd : Nat} {B : Nat → Int32} (H : PTk μ 119 n B e) (h10 : nd ≤ 10) : ∃ μ' v, f_X8_passNumber 119 (0 : Int32) (Int32.ofNat nd - (1 : Int32)) μ = some (v, μ') ∧ Fr (Pcl 119) μ μ' ∧ PRv μ' 119 n B (xDr (tx B) n nd e) v := by
  have T := H.1
  have h4 := lxT_4 (tx := tx B) (n := n) (e := e)
  by_cases z : nd = 0
  · subst z
    have hm : Int32.ofNat 0 - (1 : Int32) = -Int32.ofNat 1 := by decide
    unfold xDr
    by_cases q : lxT (tx B) n e = 2
    · have lv := lxV_lt q
      obtain ⟨μ1, e1, F1, H1⟩ := p_flaw (w := 4) H
      rw [if_pos q, if_neg (Nat.not_lt_zero _)]
      refine ⟨μ1, -Int32.ofNat 1, ?_, F1, ⟨rfl, H1⟩⟩
      rw [hm, f_X8_passNumber, T.g 4, H.2.2.2.2.1, o_bind, if_pos (show Int32.ofNat (lxT (tx B) n e) = (2 : Int32) by rw [q]; rfl), T.g 5, H.2.2.2.2.2.1 q, o_bind, if_neg (show ¬ Int32.ofNat (lxV (tx B) n e) < (0 : Int32) by rw [show (0 : Int32) = Int32.ofNat 0 from rfl, z_lt0 (by omega)]; exact id), o_bind, if_neg (z_nle (by omega)), f_X8_passNumber_32, T.v, o_bind, show (4 : Int32) = Int32.ofNat 4 from rfl, e1, o_call]; rfl
    · obtain ⟨μ1, e1, F1, H1⟩ := p_flaw (w := 2) H
      rw [if_neg q]
      refine ⟨μ1, -Int32.ofNat 1, ?_, F1, ⟨rfl, H1⟩⟩
      rw [f_X8_passNumber, T.g 4, H.2.2.2.2.1, o_bind, if_neg (show ¬ Int32.ofNat (lxT (tx B) n e) = (2 : Int32) by rw [show (2 : Int32) = Int32.ofNat 2 from rfl, z_eq (by omega) (by decide)]; exact q), T.v, o_bind, show (2 : Int32) = Int32.ofNat 2 from rfl, e1, o_call]; rfl
  · have y := H.passNum (lo := 0) (hi := nd - 1) (by decide) (by omega)
    rw [xDr_n (by omega)] at y
    rw [show (1 : Int32) = Int32.ofNat 1 from rfl, z_sub (show 1 ≤ nd by omega)]
    exact y
