/-! PURE 83: what a text wants next, on both sides -/
abbrev aX (α : Type) : Type := Except (Nat × Nat) α
def flt (u : Nat → Nat) (n e w : Nat) : Nat × Nat := (if lxT u n e = 4 then 1 else w, lxF u n e)
def xOk {α : Type} (r : aX α) : Bool := match r with
  | .ok _ => true
  | .error _ => false
def xSign (u : Nat → Nat) (n s e : Nat) : aX Nat := if lxT u n e = 3 ∧ u (lxF u n e) = s then .ok (lxE u n e) else .error (flt u n e 2)
def xKey (u : Nat → Nat) (n k e : Nat) : aX Nat := if lxK u n e = some k then .ok (lxE u n e) else .error (flt u n e 2)
def xNum (u : Nat → Nat) (n lo hi e : Nat) : aX (Nat × Nat) := if lxT u n e = 2 then (if lo ≤ lxV u n e ∧ lxV u n e ≤ hi then .ok (lxV u n e, lxE u n e) else .error (flt u n e 4)) else .error (flt u n e 2)
def sndO (o : Option Nat) : Option Nat := match o with
  | some k => if 7 ≤ k ∧ k < 11 then some (k - 7) else none
  | none => none
def xSnd (u : Nat → Nat) (n e : Nat) : aX (Nat × Nat) := match sndO (lxK u n e) with
  | some s => .ok (s, lxE u n e)
  | none => .error (flt u n e 2)
def xOld (u : Nat → Nat) (n : Nat) (N : Nat → List Nat) (many e : Nat) : aX (Nat × Nat) := match lxN u n e with
  | none => .error (flt u n e 2)
  | some l => match fnd N l many 0 with
    | none => .error (flt u n e 3)
    | some i => .ok (i, lxE u n e)
def PFl (μ : dtM) (c : Nat) (x : Nat × Nat) : Prop := dtI μ c 8 = Int32.ofNat x.1 ∧ dtI μ c 9 = Int32.ofNat x.2
def MFl (μ : dtM) (x : Nat × Nat) : Prop := dtI μ 133 18 = Int32.ofNat x.1 ∧ dtI μ 133 17 = Int32.ofNat x.2 ∧ 1 ≤ x.1 ∧ x.1 < 100
def M0f (μ : dtM) : Prop := dtI μ 133 18 = Int32.ofNat 0 ∧ dtI μ 133 17 = -Int32.ofNat 1
abbrev Pcl (c : Nat) : Nat → Nat → Prop := fun k j => k = c ∧ 2 ≤ j ∧ j ≤ 9
abbrev Mcl : Nat → Nat → Prop := fun k j => k = 133 ∧ 12 ≤ j ∧ j ≤ 18 ∧ ¬ j = 16
theorem Ptk.c {c k j : Nat} (x : Ptk c k j) : Pcl c k j := ⟨x.1, x.2.1, Nat.le_trans x.2.2 (by decide)⟩
theorem Mtk.c {k j : Nat} (x : Mtk k j) : Mcl k j := ⟨x.1, x.2.1, Nat.le_trans x.2.2 (by decide), by have := x.2.2; omega⟩
def PRs (μ : dtM) (c n : Nat) (B : Nat → Int32) (r : aX Nat) : Prop := match r with
  | .ok e => PTk μ c n B e
  | .error x => PFl μ c x
def MRs (μ : dtM) (n : Nat) (B : Nat → Int32) (r : aX Nat) : Prop := match r with
  | .ok e => MTk μ n B e ∧ M0f μ
  | .error x => MFl μ x
def PRv (μ : dtM) (c n : Nat) (B : Nat → Int32) (r : aX (Nat × Nat)) (v : Int32) : Prop := match r with
  | .ok y => v = Int32.ofNat y.1 ∧ PTk μ c n B y.2
  | .error x => v = -Int32.ofNat 1 ∧ PFl μ c x
theorem p_flaw {μ : dtM} {c n e w : Nat} {B : Nat → Int32} (H : PTk μ c n B e) : ∃ μ', f_X8_flaw c (Int32.ofNat w) μ = some (bI false, μ') ∧ Fr (Pcl c) μ μ' ∧ PFl μ' c (flt (tx B) n e w) := by
  have T := H.1
  have h4 := lxT_4 (tx := tx B) (n := n) (e := e)
  have F1 : ∀ v : Nat, Fr (Pcl c) μ (dtSI (dtSI μ c 8 (Int32.ofNat v)) c 9 (Int32.ofNat (lxF (tx B) n e))) := fun v => (Fr.SI ⟨rfl, by decide, by decide⟩).tr (Fr.SI ⟨rfl, by decide, by decide⟩)
  have st : ∀ v : Nat, f_X8_flaw_14 c c (Int32.ofNat v) μ = some (bI false, dtSI (dtSI μ c 8 (Int32.ofNat v)) c 9 (Int32.ofNat (lxF (tx B) n e))) := fun v => by
    have sa : dtS (dtSI μ c 8 (Int32.ofNat v)) c = (0, 8) := T.1.1
    rw [f_X8_flaw_14, o_PI T.1.1, o_bind, o_GI sa, m_I_SI, if_neg (by omega), H.2.2.1, o_bind, o_PI sa, o_bind, show (0 : Int32) = Int32.ofNat 0 from rfl, o_ret0']
  have fl : ∀ v : Nat, PFl (dtSI (dtSI μ c 8 (Int32.ofNat v)) c 9 (Int32.ofNat (lxF (tx B) n e))) c (v, lxF (tx B) n e) := fun v => ⟨by rw [m_I_SI, if_neg (by omega), m_I_SI, if_pos ⟨rfl, rfl⟩], by rw [m_I_SI, if_pos ⟨rfl, rfl⟩]⟩
  unfold flt
  by_cases q : lxT (tx B) n e = 4
  · refine ⟨_, ?_, F1 1, by rw [if_pos q]; exact fl 1⟩
    rw [f_X8_flaw, T.g 4, H.2.2.2.2.1, o_bind, if_pos (show Int32.ofNat (lxT (tx B) n e) = (4 : Int32) by rw [q]; rfl)]
    exact st 1
  · refine ⟨_, ?_, F1 w, by rw [if_neg q]; exact fl w⟩
    rw [f_X8_flaw, T.g 4, H.2.2.2.2.1, o_bind, if_neg (show ¬ Int32.ofNat (lxT (tx B) n e) = (4 : Int32) by rw [show (4 : Int32) = Int32.ofNat 4 from rfl, z_eq (by omega) (by decide)]; exact q)]
    exact st w
theorem n_fails {μ : dtM} {n e w : Nat} {B : Nat → Int32} (H : MTk μ n B e) (h0 : M0f μ) (hw : 1 ≤ w ∧ w < 100) : ∃ μ', f_X12_fails 133 (Int32.ofNat w) μ = some (bI false, μ') ∧ Fr Mcl μ μ' ∧ MFl μ' (flt (tx B) n e w) := by
  have T := H.1
  obtain ⟨m5, _, _, _, _, m1⟩ := mkT_b (lxT_4 (tx := tx B) (n := n) (e := e))
  have F1 : ∀ v : Nat, Fr Mcl μ (dtSI (dtSI μ 133 18 (Int32.ofNat v)) 133 17 (Int32.ofNat (lxF (tx B) n e))) := fun v => (Fr.SI ⟨rfl, by decide, by decide, by decide⟩).tr (Fr.SI ⟨rfl, by decide, by decide, by decide⟩)
  have st : ∀ v : Nat, f_X12_fails_21 133 133 (Int32.ofNat v) μ = some (bI false, dtSI (dtSI μ 133 18 (Int32.ofNat v)) 133 17 (Int32.ofNat (lxF (tx B) n e))) := fun v => by
    have Ca : CX (dtSI μ 133 18 (Int32.ofNat v)) := T.1.SI
    rw [f_X12_fails_21, T.p, o_bind, o_GI Ca.s133, m_I_SI, if_neg (by omega), H.2.2.1, o_bind, o_PI Ca.s133, o_bind, f_X12_fails_32, show (0 : Int32) = Int32.ofNat 0 from rfl, o_ret0']
  have fl : ∀ v : Nat, 1 ≤ v → v < 100 → MFl (dtSI (dtSI μ 133 18 (Int32.ofNat v)) 133 17 (Int32.ofNat (lxF (tx B) n e))) (v, lxF (tx B) n e) := fun v a b => ⟨by rw [m_I_SI, if_neg (by omega), m_I_SI, if_pos ⟨rfl, rfl⟩], by rw [m_I_SI, if_pos ⟨rfl, rfl⟩], a, b⟩
  unfold flt
  by_cases q : lxT (tx B) n e = 4
  · refine ⟨_, ?_, F1 1, by rw [if_pos q]; exact fl 1 (by decide) (by decide)⟩
    rw [f_X12_fails, T.g 18, h0.1, o_bind, if_pos (by decide), T.g 12, H.2.2.2.2.1, o_bind, if_pos (show Int32.ofNat (mkT (lxT (tx B) n e)) = (1 : Int32) by rw [m1.mpr q]; rfl)]
    exact st 1
  · refine ⟨_, ?_, F1 w, by rw [if_neg q]; exact fl w hw.1 hw.2⟩
    rw [f_X12_fails, T.g 18, h0.1, o_bind, if_pos (by decide), T.g 12, H.2.2.2.2.1, o_bind, if_neg (show ¬ Int32.ofNat (mkT (lxT (tx B) n e)) = (1 : Int32) by rw [show (1 : Int32) = Int32.ofNat 1 from rfl, z_eq (by omega) (by decide)]; exact fun x => q (m1.mp x))]
    exact st w
/-! the program -/
theorem PTk.isSign {μ : dtM} {c n e s : Nat} {B : Nat → Int32} (H : PTk μ c n B e) (hs' : s < 128) : f_X8_isSign c (Int32.ofNat s) μ = some (bI (decide (lxT (tx B) n e = 3 ∧ tx B (lxF (tx B) n e) = s)), μ) := by
  have T := H.1
  have h4 := lxT_4 (tx := tx B) (n := n) (e := e)
  have e20 : f_X8_isSign_20 μ = some (bI false, μ) := by rw [f_X8_isSign_20, f_X8_isSign_21, show (0 : Int32) = Int32.ofNat 0 from rfl, o_ret0']
  rw [f_X8_isSign, T.g 4, H.2.2.2.2.1, o_bind]
  by_cases q : lxT (tx B) n e = 3
  · have lt := tx_lt (B := B) (j := lxF (tx B) n e)
    rw [if_pos (show Int32.ofNat (lxT (tx B) n e) = (3 : Int32) by rw [q]; rfl), T.g 5, H.2.2.2.2.2.2.1 q, o_bind]
    by_cases p : tx B (lxF (tx B) n e) = s
    · rw [if_pos (show Int32.ofNat (tx B (lxF (tx B) n e)) = Int32.ofNat s by rw [p]), f_X8_isSign_21, show (1 : Int32) = Int32.ofNat 1 from rfl, o_ret1', decide_eq_true ⟨q, p⟩]
    · rw [if_neg (show ¬ Int32.ofNat (tx B (lxF (tx B) n e)) = Int32.ofNat s by rw [z_eq (by omega) (by omega)]; exact p), e20, decide_eq_false (fun x => p x.2)]
  · rw [if_neg (show ¬ Int32.ofNat (lxT (tx B) n e) = (3 : Int32) by rw [show (3 : Int32) = Int32.ofNat 3 from rfl, z_eq (by omega) (by decide)]; exact q), e20, decide_eq_false (fun x => q x.1)]
theorem PTk.passSign {μ : dtM} {c n e s : Nat} {B : Nat → Int32} (H : PTk μ c n B e) (hs' : s < 128) : ∃ μ', f_X8_passSign c (Int32.ofNat s) μ = some (bI (xOk (xSign (tx B) n s e)), μ') ∧ Fr (Pcl c) μ μ' ∧ PRs μ' c n B (xSign (tx B) n s e) := by
  have T := H.1
  unfold xSign
  by_cases q : lxT (tx B) n e = 3 ∧ tx B (lxF (tx B) n e) = s
  · obtain ⟨μ1, e1, F1, H1⟩ := H.adv
    rw [if_pos q]
    refine ⟨μ1, ?_, F1.wide (fun _ _ x => Ptk.c x), H1⟩
    rw [f_X8_passSign, T.v, o_bind, H.isSign hs', decide_eq_true q, o_call, if_neg (by decide), T.v, o_bind, e1, o_bind, show (1 : Int32) = Int32.ofNat 1 from rfl, o_ret1']; rfl
  · obtain ⟨μ1, e1, F1, H1⟩ := p_flaw (w := 2) H
    rw [if_neg q]
    refine ⟨μ1, ?_, F1, H1⟩
    rw [f_X8_passSign, T.v, o_bind, H.isSign hs', decide_eq_false q, o_call, if_pos (by decide), T.v, o_bind, show (2 : Int32) = Int32.ofNat 2 from rfl, e1, o_call, o_bI]; rfl
theorem PTk.g6 {μ : dtM} {c n e : Nat} {B : Nat → Int32} (H : PTk μ c n B e) : opGI 8 6 μ c = some (oN (lxK (tx B) n e)) := by rw [H.1.g 6, H.2.2.2.2.2.2.2.1]
theorem oN_eqk {o : Option Nat} {k : Nat} (ho : ∀ j, o = some j → j < 24) (hk : k < 24) : (oN o = Int32.ofNat k) = (o = some k) := by
  cases o with
  | none =>
    apply propext
    refine ⟨fun x => ?_, fun x => by cases x⟩
    have x' : -Int32.ofNat 1 = Int32.ofNat k := x
    rw [z_neg' (by omega)] at x'
    exact x'.elim
  | some j =>
    have := ho j rfl
    show (Int32.ofNat j = Int32.ofNat k) = _
    rw [z_eq (by omega) (by omega)]
    exact propext ⟨fun x => by rw [x], fun x => Option.some.inj x⟩
theorem PTk.passKey {μ : dtM} {c n e k : Nat} {B : Nat → Int32} (H : PTk μ c n B e) (hk : k < 24) : ∃ μ', f_X8_passKeyword c (Int32.ofNat k) μ = some (bI (xOk (xKey (tx B) n k e)), μ') ∧ Fr (Pcl c) μ μ' ∧ PRs μ' c n B (xKey (tx B) n k e) := by
  have T := H.1
  have cond := oN_eqk (o := lxK (tx B) n e) (fun j h => lxK_lt h) hk
  unfold xKey
  by_cases q : lxK (tx B) n e = some k
  · obtain ⟨μ1, e1, F1, H1⟩ := H.adv
    rw [if_pos q]
    refine ⟨μ1, ?_, F1.wide (fun _ _ x => Ptk.c x), H1⟩
    rw [f_X8_passKeyword, H.g6, o_bind, if_pos (Eq.mpr cond q), T.v, o_bind, e1, o_bind, show (1 : Int32) = Int32.ofNat 1 from rfl, o_ret1']; rfl
  · obtain ⟨μ1, e1, F1, H1⟩ := p_flaw (w := 2) H
    rw [if_neg q]
    refine ⟨μ1, ?_, F1, H1⟩
    rw [f_X8_passKeyword, H.g6, o_bind, if_neg (fun x => q (Eq.mp cond x)), T.v, o_bind, show (2 : Int32) = Int32.ofNat 2 from rfl, e1, o_call, o_bI]; rfl
theorem PTk.passNum {μ : dtM} {c n e lo hi : Nat} {B : Nat → Int32} (H : PTk μ c n B e) (hl : lo < 10000) (hh : hi < 10000) : ∃ μ' v, f_X8_passNumber c (Int32.ofNat lo) (Int32.ofNat hi) μ = some (v, μ') ∧ Fr (Pcl c) μ μ' ∧ PRv μ' c n B (xNum (tx B) n lo hi e) v := by
  have T := H.1
  have h4 := lxT_4 (tx := tx B) (n := n) (e := e)
  unfold xNum
  by_cases q : lxT (tx B) n e = 2
  · have lv := lxV_lt q
    have st : f_X8_passNumber c (Int32.ofNat lo) (Int32.ofNat hi) μ = if Int32.ofNat (lxV (tx B) n e) < Int32.ofNat lo then (f_X8_passNumber_32 c μ) else if Int32.ofNat (lxV (tx B) n e) ≤ Int32.ofNat hi then ((f_X8_advance c μ).bind fun μ19 => some (Int32.ofNat (lxV (tx B) n e), μ19)) else (f_X8_passNumber_32 c μ) := by
      rw [f_X8_passNumber, T.g 4, H.2.2.2.2.1, o_bind, if_pos (show Int32.ofNat (lxT (tx B) n e) = (2 : Int32) by rw [q]; rfl), T.g 5, H.2.2.2.2.2.1 q, o_bind, o_bind, o_bind, T.v, o_bind]
    have a1 := z_lt (show lxV (tx B) n e < 2147483648 by omega) (show lo < 2147483648 by omega)
    have a2 := z_le (show lxV (tx B) n e < 2147483648 by omega) (show hi < 2147483648 by omega)
    rw [if_pos q, st]
    by_cases r : lo ≤ lxV (tx B) n e ∧ lxV (tx B) n e ≤ hi
    · obtain ⟨μ1, e1, F1, H1⟩ := H.adv
      refine ⟨μ1, _, ?_, F1.wide (fun _ _ x => Ptk.c x), by rw [if_pos r]; exact ⟨rfl, H1⟩⟩
      rw [if_neg (fun x => by have := Eq.mp a1 x; omega), if_pos (Eq.mpr a2 r.2), e1, o_bind]
    · obtain ⟨μ1, e1, F1, H1⟩ := p_flaw (w := 4) H
      have e32 : f_X8_passNumber_32 c μ = some (-Int32.ofNat 1, μ1) := by
        rw [f_X8_passNumber_32, T.v, o_bind, show (4 : Int32) = Int32.ofNat 4 from rfl, e1, o_call]; rfl
      refine ⟨μ1, _, ?_, F1, by rw [if_neg r]; exact ⟨rfl, H1⟩⟩
      by_cases a : lxV (tx B) n e < lo
      · rw [if_pos (Eq.mpr a1 a), e32]
      · rw [if_neg (fun x => a (Eq.mp a1 x)), if_neg (fun x => by have := Eq.mp a2 x; omega), e32]
  · obtain ⟨μ1, e1, F1, H1⟩ := p_flaw (w := 2) H
    refine ⟨μ1, -Int32.ofNat 1, ?_, F1, by rw [if_neg q]; exact ⟨rfl, H1⟩⟩
    rw [f_X8_passNumber, T.g 4, H.2.2.2.2.1, o_bind, if_neg (show ¬ Int32.ofNat (lxT (tx B) n e) = (2 : Int32) by rw [show (2 : Int32) = Int32.ofNat 2 from rfl, z_eq (by omega) (by decide)]; exact q), T.v, o_bind, show (2 : Int32) = Int32.ofNat 2 from rfl, e1, o_call]; rfl
theorem PTk.isSound {μ : dtM} {c n e : Nat} {B : Nat → Int32} (H : PTk μ c n B e) : f_X8_isSoundWord c μ = some (bI (sndO (lxK (tx B) n e)).isSome, μ) := by
  have T := H.1
  have e22 : f_X8_isSoundWord_22 μ = some (bI false, μ) := by rw [f_X8_isSoundWord_22, f_X8_isSoundWord_23, show (0 : Int32) = Int32.ofNat 0 from rfl, o_ret0']
  rw [f_X8_isSoundWord, H.g6, o_bind, o_bind]
  cases hk : lxK (tx B) n e with
  | none =>
    rw [if_pos (show oN none < (7 : Int32) from (by decide : (-1 : Int32) < 7)), e22]; rfl
  | some k =>
    have := lxK_lt hk
    show (if Int32.ofNat k < (7 : Int32) then _ else if (11 : Int32) ≤ Int32.ofNat k then _ else _) = some (bI (if 7 ≤ k ∧ k < 11 then some (k - 7) else none).isSome, μ)
    have a1 : (Int32.ofNat k < (7 : Int32)) = (k < 7) := z_lt (show k < 2147483648 by omega) (show 7 < 2147483648 by decide)
    have a2 : ((11 : Int32) ≤ Int32.ofNat k) = (11 ≤ k) := z_le (show 11 < 2147483648 by decide) (show k < 2147483648 by omega)
    by_cases a : k < 7
    · rw [if_pos (Eq.mpr a1 a), if_neg (by omega), e22]; rfl
    · by_cases b : 11 ≤ k
      · rw [if_neg (fun x => a (Eq.mp a1 x)), if_pos (Eq.mpr a2 b), if_neg (by omega), e22]; rfl
      · rw [if_neg (fun x => a (Eq.mp a1 x)), if_neg (fun x => b (Eq.mp a2 x)), if_pos ⟨by omega, by omega⟩, f_X8_isSoundWord_23, show (1 : Int32) = Int32.ofNat 1 from rfl, o_ret1']; rfl
theorem PTk.passSound {μ : dtM} {c n e : Nat} {B : Nat → Int32} (H : PTk μ c n B e) : ∃ μ' v, f_X8_passSound c μ = some (v, μ') ∧ Fr (Pcl c) μ μ' ∧ PRv μ' c n B (xSnd (tx B) n e) v := by
  have T := H.1
  have hs' := H.isSound
  unfold xSnd
  cases hk : sndO (lxK (tx B) n e) with
  | none =>
    rw [hk] at hs'
    obtain ⟨μ1, e1, F1, H1⟩ := p_flaw (w := 2) H
    refine ⟨μ1, -Int32.ofNat 1, ?_, F1, ⟨rfl, H1⟩⟩
    rw [f_X8_passSound, T.v, o_bind, hs', o_call, if_pos (show bI (none : Option Nat).isSome = 0 from (by decide : bI false = 0)), T.v, o_bind, show (2 : Int32) = Int32.ofNat 2 from rfl, e1, o_call]; rfl
  | some s =>
    rw [hk] at hs'
    obtain ⟨k, hk2, hr, es⟩ : ∃ k, lxK (tx B) n e = some k ∧ (7 ≤ k ∧ k < 11) ∧ k - 7 = s := by
      cases h : lxK (tx B) n e with
      | none => rw [h] at hk; cases hk
      | some k =>
        rw [h] at hk
        have hk' : (if 7 ≤ k ∧ k < 11 then some (k - 7) else none) = some s := hk
        by_cases r : 7 ≤ k ∧ k < 11
        · rw [if_pos r] at hk'
          exact ⟨k, rfl, r, Option.some.inj hk'⟩
        · rw [if_neg r] at hk'; cases hk'
    obtain ⟨μ1, e1, F1, H1⟩ := H.adv
    refine ⟨μ1, Int32.ofNat s, ?_, F1.wide (fun _ _ x => Ptk.c x), ⟨rfl, H1⟩⟩
    have g6 : opGI 8 6 μ c = some (Int32.ofNat k) := by rw [H.g6, hk2]; rfl
    rw [f_X8_passSound, T.v, o_bind, hs', o_call, if_neg (show ¬ bI (some s).isSome = 0 from (by decide : ¬ bI true = 0)), g6, o_bind, show (7 : Int32) = Int32.ofNat 7 from rfl, z_sub hr.1, es, o_bind, T.v, o_bind, e1, o_bind]
theorem PTk.isName {μ : dtM} {c n e : Nat} {B : Nat → Int32} (H : PTk μ c n B e) : f_X8_isName c μ = some (bI (lxN (tx B) n e).isSome, μ) := by
  have T := H.1
  have h7 := H.2.2.2.2.2.2.2.2
  rw [f_X8_isName, o_GJ T.1.1, h7, o_bind]
  unfold lxJ
  cases hn : lxN (tx B) n e with
  | none =>
    rw [if_pos (Eq.mpr (lg0 _) rfl), f_X8_isName_14, show (0 : Int32) = Int32.ofNat 0 from rfl, o_ret0']; rfl
  | some l =>
    obtain ⟨ok, l1, _⟩ := lxN_ok hn
    rw [if_neg (fun x => n32_0 ok l1 (Eq.mp (lg0 _) x)), f_X8_isName_14, show (1 : Int32) = Int32.ofNat 1 from rfl, o_ret1']; rfl
/-- without going on -/
def xFind (u : Nat → Nat) (n : Nat) (N : Nat → List Nat) (many e : Nat) : aX (Nat × Nat) := match lxN u n e with
  | none => .error (flt u n e 2)
  | some l => match fnd N l many 0 with
    | none => .error (flt u n e 3)
    | some i => .ok (i, e)
theorem PTk.findAmong {μ : dtM} {c n e nc L many : Nat} {B : Nat → Int32} (H : PTk μ c n B e) {N : Nat → List Nat} (hs' : dtS μ nc = (3, L)) (hL : many ≤ L ∧ L < 1000) (hN : ∀ k, k < many → dtJ μ nc k = n32 (N k) ∧ nOk (N k)) : ∃ μ' v, f_X8_findAmong c nc (Int32.ofNat many) μ = some (v, μ') ∧ Fr (Pcl c) μ μ' ∧ PRv μ' c n B (xFind (tx B) n N many e) v := by
  have T := H.1
  have hn' := H.isName
  unfold xFind
  cases hn : lxN (tx B) n e with
  | none =>
    rw [hn] at hn'
    obtain ⟨μ1, e1, F1, H1⟩ := p_flaw (w := 2) H
    refine ⟨μ1, -Int32.ofNat 1, ?_, F1, ⟨rfl, H1⟩⟩
    rw [f_X8_findAmong, T.v, o_bind, hn', o_call, if_pos (show bI (none : Option (List Nat)).isSome = 0 from (by decide : bI false = 0)), T.v, o_bind, show (2 : Int32) = Int32.ofNat 2 from rfl, e1, o_call]; rfl
  | some l =>
    rw [hn] at hn'
    have nb := H.find hn hs' hL hN
    have st : f_X8_findAmong c nc (Int32.ofNat many) μ = if oN (fnd N l many 0) = (-1 : Int32) then (opCall (f_X8_flaw c (3 : Int32) μ) fun x18 μ16 => f_X8_findAmong_33 (oN (fnd N l many 0)) μ16) else (f_X8_findAmong_33 (oN (fnd N l many 0)) μ) := by
      rw [f_X8_findAmong, T.v, o_bind, hn', o_call, if_neg (show ¬ bI (some l).isSome = 0 from (by decide : ¬ bI true = 0)), T.v, o_bind, nb, o_call, T.v, o_bind]
    rw [st]
    have key : ∀ μ' v, PRv μ' c n B (match fnd N l many 0 with | none => .error (flt (tx B) n e 3) | some i => .ok (i, e)) v → PRv μ' c n B (match (some l : Option (List Nat)) with | none => .error (flt (tx B) n e 2) | some l => match fnd N l many 0 with | none => .error (flt (tx B) n e 3) | some i => .ok (i, e)) v := fun μ' v h => h
    cases hf : fnd N l many 0 with
    | none =>
      obtain ⟨μ1, e1, F1, H1⟩ := p_flaw (w := 3) H
      refine ⟨μ1, -Int32.ofNat 1, ?_, F1, key μ1 _ (by rw [hf]; exact ⟨rfl, H1⟩)⟩
      rw [if_pos (show oN none = (-1 : Int32) from rfl), show (3 : Int32) = Int32.ofNat 3 from rfl, e1, o_call, f_X8_findAmong_33]; rfl
    | some i =>
      have hi := fnd_lt many 0 i hf
      refine ⟨μ, Int32.ofNat i, ?_, Fr.rf, key μ _ (by rw [hf]; exact ⟨rfl, H⟩)⟩
      rw [if_neg (show ¬ oN (some i) = (-1 : Int32) by
        show ¬ Int32.ofNat i = (-1 : Int32)
        rw [show (-1 : Int32) = -Int32.ofNat 1 from rfl, z_neg (by omega)]; exact id), f_X8_findAmong_33]; rfl
theorem PTk.passAmong {μ : dtM} {c n e nc L many : Nat} {B : Nat → Int32} (H : PTk μ c n B e) {N : Nat → List Nat} (hs' : dtS μ nc = (3, L)) (hL : many ≤ L ∧ L < 1000) (hN : ∀ k, k < many → dtJ μ nc k = n32 (N k) ∧ nOk (N k)) : ∃ μ' v, f_X8_passAmong c nc (Int32.ofNat many) μ = some (v, μ') ∧ Fr (Pcl c) μ μ' ∧ PRv μ' c n B (xOld (tx B) n N many e) v := by
  have T := H.1
  obtain ⟨μ1, v, e1, F1, R1⟩ := H.findAmong hs' hL hN
  have st : f_X8_passAmong c nc (Int32.ofNat many) μ = if v = (-1 : Int32) then (f_X8_passAmong_16 v μ1) else ((opRv 8 μ1 c).bind fun _ => (f_X8_advance c μ1).bind fun μ9 => f_X8_passAmong_16 v μ9) := by
    rw [f_X8_passAmong, T.v, o_bind, e1, o_call]
  rw [st]
  unfold xFind at R1
  unfold xOld
  cases hn : lxN (tx B) n e with
  | none =>
    rw [hn] at R1
    obtain ⟨r1, r2⟩ := R1
    refine ⟨μ1, v, ?_, F1, ⟨r1, r2⟩⟩
    rw [r1, if_pos (show -Int32.ofNat 1 = (-1 : Int32) from rfl), f_X8_passAmong_16]
  | some l =>
    rw [hn] at R1
    cases hf : fnd N l many 0 with
    | none =>
      have R1' : v = -Int32.ofNat 1 ∧ PFl μ1 c (flt (tx B) n e 3) := by
        have y : PRv μ1 c n B (match fnd N l many 0 with | none => .error (flt (tx B) n e 3) | some i => .ok (i, e)) v := R1
        rw [hf] at y; exact y
      obtain ⟨r1, r2⟩ := R1'
      refine ⟨μ1, v, ?_, F1, ?_⟩
      · rw [r1, if_pos (show -Int32.ofNat 1 = (-1 : Int32) from rfl), f_X8_passAmong_16]
      · show PRv μ1 c n B (match fnd N l many 0 with | none => .error (flt (tx B) n e 3) | some i => .ok (i, lxE (tx B) n e)) v
        rw [hf]; exact ⟨r1, r2⟩
    | some i =>
      have R1' : v = Int32.ofNat i ∧ PTk μ1 c n B e := by
        have y : PRv μ1 c n B (match fnd N l many 0 with | none => .error (flt (tx B) n e 3) | some i => .ok (i, e)) v := R1
        rw [hf] at y; exact y
      obtain ⟨r1, r2⟩ := R1'
      have hi := fnd_lt many 0 i hf
      obtain ⟨μ2, e2, F2, H2⟩ := r2.adv
      refine ⟨μ2, v, ?_, F1.tr (F2.wide (fun _ _ x => Ptk.c x)), ?_⟩
      · rw [r1, if_neg (show ¬ Int32.ofNat i = (-1 : Int32) by rw [show (-1 : Int32) = -Int32.ofNat 1 from rfl, z_neg (by omega)]; exact id), r2.1.v, o_bind, e2, o_bind, f_X8_passAmong_16]
      · show PRv μ2 c n B (match fnd N l many 0 with | none => .error (flt (tx B) n e 3) | some i => .ok (i, lxE (tx B) n e)) v
        rw [hf]; exact ⟨r1, H2⟩
