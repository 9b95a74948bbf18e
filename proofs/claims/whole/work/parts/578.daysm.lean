/-! PURE 99991: the days' text, the model's pieces -/
theorem MH.kM {μ μ' : dtM} {A : aH} (HA : MH μ 0 0 A) (F : Fr (fun k j => Mcl k j ∨ (k = 134 ∧ 2016 ≤ j)) μ μ') : MH μ' 0 0 A := HA.keptAt F (fun j h1 h2 _ x => by
  rcases x with x | x
  · have := x.1; omega
  · omega) (fun j h1 h2 x => by
  rcases x with x | x
  · have := x.1; omega
  · omega)
theorem Mat.m {t k j : Nat} (ht : 2016 ≤ t) (x : Mat t k j) : Mcl k j ∨ (k = 134 ∧ 2016 ≤ j) := x.elim Or.inl (fun y => Or.inr ⟨y.1, by omega⟩)
theorem Mat.n {t k j : Nat} (x : Mat t k j) (h : ¬ k = 133) : k = 134 ∧ j = t := x.elim (fun y => absurd y.1 h) id
theorem n_numD {μ : dtM} {n e t nd : Nat} {B : Nat → Int32} (H : MTk μ n B e) (h0 : M0f μ) (ht : t < 2656) (h10 : nd ≤ 10) : ∃ μ', f_X12_number 133 (Int32.ofNat t) (0 : Int32) (Int32.ofNat nd - (1 : Int32)) μ = some (bI (xOk (xDr (tx B) n nd e)), μ') ∧ Fr (Mat t) μ μ' ∧ MRv μ' n B (xDr (tx B) n nd e) t := by
  have T := H.1
  obtain ⟨m5, _, _, m3, _, _⟩ := mkT_b (lxT_4 (tx := tx B) (n := n) (e := e))
  by_cases z : nd = 0
  · subst z
    have hm : Int32.ofNat 0 - (1 : Int32) = -Int32.ofNat 1 := by decide
    unfold xDr
    by_cases q : lxT (tx B) n e = 2
    · have lv := lxV_lt q
      obtain ⟨μ1, e1, F1, H1⟩ := n_fails (w := 4) H h0 (by decide)
      rw [if_pos q, if_neg (Nat.not_lt_zero _)]
      refine ⟨μ1, ?_, F1.wide (fun _ _ x => Or.inl x), H1⟩
      rw [hm, f_X12_number, T.g 12, H.2.2.2.2.1, o_bind, if_pos (show Int32.ofNat (mkT (lxT (tx B) n e)) = (3 : Int32) by rw [m3.mpr q]; rfl), T.g 15, H.2.2.2.2.2.1 q, o_bind, if_neg (show ¬ Int32.ofNat (lxV (tx B) n e) < (0 : Int32) by rw [show (0 : Int32) = Int32.ofNat 0 from rfl, z_lt0 (by omega)]; exact id), o_bind, if_neg (z_nle (by omega)), f_X12_number_30, T.1.v133, o_bind, show (4 : Int32) = Int32.ofNat 4 from rfl, e1, o_call, o_bI]; rfl
    · obtain ⟨μ1, e1, F1, H1⟩ := n_fails (w := 2) H h0 (by decide)
      rw [if_neg q]
      refine ⟨μ1, ?_, F1.wide (fun _ _ x => Or.inl x), H1⟩
      rw [f_X12_number, T.g 12, H.2.2.2.2.1, o_bind, if_neg (show ¬ Int32.ofNat (mkT (lxT (tx B) n e)) = (3 : Int32) by rw [show (3 : Int32) = Int32.ofNat 3 from rfl, z_eq (by omega) (by decide)]; exact fun x => q (m3.mp x)), T.1.v133, o_bind, show (2 : Int32) = Int32.ofNat 2 from rfl, e1, o_call, o_bI]; rfl
  · have y := H.number h0 ht (lo := 0) (hi := nd - 1) (by decide) (by omega)
    rw [xDr_n (by omega)] at y
    rw [show (1 : Int32) = Int32.ofNat 1 from rfl, z_sub (show 1 ≤ nd by omega)]
    exact y
theorem n_doorTo {μ : dtM} {n e t : Nat} {B : Nat → Int32} {A : aH} (H : MTk μ n B e) (h0 : M0f μ) (HA : MH μ 0 0 A) (ht : t < 2656) : ∃ μ', f_X12_doorTo 133 (Int32.ofNat t) μ = some (bI (xOk (xDr (tx B) n (hs A 1) e)), μ') ∧ Fr (Mat t) μ μ' ∧ MRv μ' n B (xDr (tx B) n (hs A 1) e) t := by
  have C := H.1.1
  obtain ⟨μ1, e1, F1, R1⟩ := n_numD H h0 ht HA.nd
  refine ⟨μ1, ?_, F1, R1⟩
  have g1 : opLI 1 μ 134 (1 : Int32) = some (Int32.ofNat (hs A 1)) := HA.g1
  rw [f_X12_doorTo, C.g133_0, o_bind, g1, o_bind, C.v133, o_bind, e1, o_call, o_bI]
theorem n_personTo {μ : dtM} {n e t : Nat} {B : Nat → Int32} {A : aH} (H : MTk μ n B e) (h0 : M0f μ) (HA : MH μ 0 0 A) (ht : t < 2656) : ∃ μ', f_X12_personTo 133 (Int32.ofNat t) μ = some (bI (xOk (xOld (tx B) n (hpn A) (hs A 3) e)), μ') ∧ Fr (Mat t) μ μ' ∧ MRv μ' n B (xOld (tx B) n (hpn A) (hs A 3) e) t := by
  have C := H.1.1
  have np := HA.np
  obtain ⟨μ1, e1, F1, R1⟩ := H.oldOne h0 ht (base := 14) (many := hs A 3) (N := hpn A) (by omega) (fun k hk => ⟨by
    have := HA.2.1.2.2.2.2.2 k hk
    rw [show 0 + 14 + k = 14 + k by omega] at this
    exact this, HA.2.2.2.2.2.2.2 k hk⟩)
  refine ⟨μ1, ?_, F1, R1⟩
  have g3 : opLI 1 μ 134 (3 : Int32) = some (Int32.ofNat (hs A 3)) := HA.g3
  rw [f_X12_personTo, C.g133_0, o_bind, g3, o_bind, C.v133, o_bind, show (14 : Int32) = Int32.ofNat 14 from rfl, e1, o_call, o_bI]
theorem n_roomD {μ : dtM} {n e t : Nat} {B : Nat → Int32} {A : aH} (H : MTk μ n B e) (h0 : M0f μ) (HA : MH μ 0 0 A) (ht : t < 2656) : ∃ μ', f_X12_oldOne 133 (0 : Int32) (Int32.ofNat (hs A 0)) (Int32.ofNat t) μ = some (bI (xOk (xOld (tx B) n (hrn A) (hs A 0) e)), μ') ∧ Fr (Mat t) μ μ' ∧ MRv μ' n B (xOld (tx B) n (hrn A) (hs A 0) e) t := by
  have nr := HA.nr
  exact H.oldOne h0 ht (base := 0) (many := hs A 0) (N := hrn A) (by omega) (fun k hk => ⟨HA.2.1.2.2.2.2.1 k hk, HA.2.2.2.2.2.2.1 k hk⟩)
theorem n_soundTo {μ : dtM} {n e t : Nat} {B : Nat → Int32} (H : MTk μ n B e) (h0 : M0f μ) (ht : t < 2656) : ∃ μ', f_X12_soundTo 133 (Int32.ofNat t) μ = some (bI (xOk (xSnd (tx B) n e)), μ') ∧ Fr (Mat t) μ μ' ∧ MRv μ' n B (xSnd (tx B) n e) t := by
  have C := H.1.1
  have is := H.isSound
  cases q : sndO (lxK (tx B) n e) with
  | none =>
    rw [q] at is
    obtain ⟨μ1, e1, F1, R1⟩ := n_fails (w := 2) H h0 (by decide)
    rw [xSnd_n q]
    refine ⟨μ1, ?_, F1.wide (fun _ _ x => Or.inl x), R1⟩
    rw [f_X12_soundTo, C.v133, o_bind, is, o_call, if_pos (show bI (none : Option Nat).isSome = 0 from (by decide : bI false = 0)), C.v133, o_bind, show (2 : Int32) = Int32.ofNat 2 from rfl, e1, o_call, o_bI]; rfl
  | some s =>
    rw [q] at is
    obtain ⟨k, hk, hr, es⟩ := sndO_k q
    have k24 := lxK_lt hk
    have hm : oN (lxM (tx B) n e) = Int32.ofNat (k + 1) := by
      unfold lxM
      rw [hk]
      show Int32.ofNat (kwM.getD k 99) = _
      rw [(kwM_snd k k24).2 hr.1 hr.2]
    have W := H.words
    rw [hm] at W
    have H1 : MTk (dtSI μ 134 t (Int32.ofNat s)) n B e := H.at4
    have C1 : CX (dtSI μ 134 t (Int32.ofNat s)) := C.SI
    obtain ⟨μ2, e2, F2, H2⟩ := H1.adv
    rw [xSnd_s q]
    refine ⟨μ2, ?_, (Fr.SI (Or.inr ⟨rfl, rfl⟩)).tr (F2.wide (fun _ _ x => Mtk.a x)), ?_, H2, (h0.at4).tk F2⟩
    · rw [f_X12_soundTo, C.v133, o_bind, is, o_call, if_neg (show ¬ bI (some s).isSome = 0 from (by decide : ¬ bI true = 0)), C.g133_0, o_bind, C.v133, o_bind, W, o_call, show (8 : Int32) = Int32.ofNat 8 from rfl, z_sub (show 8 ≤ k + 1 by omega), show k + 1 - 8 = s by omega, o_SI C.s134 ht (by decide), o_bind, C1.v133, o_bind, e2, o_bind, show (1 : Int32) = Int32.ofNat 1 from rfl, o_ret1']; rfl
    · rw [F2.i (fun x => by
        have y : 134 = 133 ∧ 12 ≤ t ∧ t ≤ 15 := x
        omega), m_I_SI, if_pos ⟨rfl, rfl⟩]
def mdR (μ : dtM) (R : Nat) (r : Nat → Nat) : Prop :=
  dtI μ 134 R = Int32.ofNat (mKd (r 0) (r 4)) ∧ (rWho r → dtI μ 134 (R + 1) = Int32.ofNat (r 1)) ∧ (rTwo r → dtI μ 134 (R + 2) = Int32.ofNat (r 2)) ∧ (rOne r → dtI μ 134 (R + 1) = Int32.ofNat (r 2)) ∧ (r 0 = 15 → dtI μ 134 (R + 3) = Int32.ofNat (r 3)) ∧ (r 0 = 19 ∧ r 4 = 20 → dtI μ 134 (R + 5) = Int32.ofNat (cmpM (r 3)))
def MRr (μ : dtM) (n : Nat) (B : Nat → Int32) (R k : Nat) (r : aX (aRw × Nat)) : Prop := match r with
  | .ok y => mdR μ R (rwV k y.1) ∧ MTk μ n B y.2 ∧ M0f μ
  | .error x => MFl μ x
abbrev Mrw (R : Nat) : Nat → Nat → Prop := fun k j => Mcl k j ∨ (k = 134 ∧ R ≤ j ∧ j < R + 6)
theorem Mat.r {R d k j : Nat} (hd : d < 6) (x : Mat (R + d) k j) : Mrw R k j := x.elim Or.inl (fun y => Or.inr ⟨y.1, by omega, by omega⟩)
theorem n_126 {μ : dtM} {n e R c : Nat} {B : Nat → Int32} (H : MTk μ n B e) (h0 : M0f μ) (hR : R + 6 ≤ 2656) (h3 : lxT (tx B) n e = 3 ∧ tx B (lxF (tx B) n e) = cmpM c) : ∃ μ', f_X12_test_126 133 (Int32.ofNat R) μ = some (bI (xOk (xNum (tx B) n 0 8 (lxE (tx B) n e))), μ') ∧ Fr (fun k j => Mcl k j ∨ (k = 134 ∧ (j = R + 2 ∨ j = R + 5))) μ μ' ∧ dtI μ' 134 (R + 5) = Int32.ofNat (cmpM c) ∧ MRv μ' n B (xNum (tx B) n 0 8 (lxE (tx B) n e)) (R + 2) := by
  have T := H.1
  have C := T.1
  have H1 : MTk (dtSI μ 134 (R + 5) (Int32.ofNat (cmpM c))) n B e := H.at4
  have C1 : CX (dtSI μ 134 (R + 5) (Int32.ofNat (cmpM c))) := C.SI
  obtain ⟨μ2, e2, F2, H2⟩ := H1.adv
  have C2 := C1.kept F2
  have h2 : M0f μ2 := (h0.at4).tk F2
  obtain ⟨μ3, e3, F3, R3⟩ := H2.number h2 (t := R + 2) (by omega) (lo := 0) (hi := 8) (by decide) (by decide)
  refine ⟨μ3, ?_, (Fr.SI (Or.inr ⟨rfl, Or.inr rfl⟩)).tr ((F2.wide (fun _ _ x => Or.inl (Mtk.c x))).tr (F3.wide (fun k j x => x.elim Or.inl (fun y => Or.inr ⟨y.1, Or.inl y.2⟩)))), ?_, R3⟩
  · have e3' : f_X12_number 133 (Int32.ofNat (R + 2)) (0 : Int32) (8 : Int32) μ2 = some (bI (xOk (xNum (tx B) n 0 8 (lxE (tx B) n e))), μ3) := e3
    rw [f_X12_test_126, C.g133_0, o_bind, T.g 15, H.2.2.2.2.2.2 h3.1, h3.2, o_bind, show (5 : Int32) = Int32.ofNat 5 from rfl, z_add, o_SI C.s134 (show R + 5 < 2656 by omega) (by decide), o_bind, C1.v133, o_bind, e2, o_bind, C2.v133, o_bind, show (2 : Int32) = Int32.ofNat 2 from rfl, z_add, e3', o_call, o_bI]
  · rw [F3.i (fun x => by have := x.n (by decide); omega), F2.i (fun x => by
      have y : 134 = 133 ∧ _ := x
      omega), m_I_SI, if_pos ⟨rfl, rfl⟩]
