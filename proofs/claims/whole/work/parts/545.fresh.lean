/-! PURE 85: a new name, on both sides -/
def tkn (A : aH) (wn : Nat → List Nat) (l : List Nat) : Bool := (fnd (hrn A) l (hs A 0) 0).isSome || (fnd wn l (hs A 2) 0).isSome || (fnd (hpn A) l (hs A 3) 0).isSome
def xNew (u : Nat → Nat) (n : Nat) (A : aH) (wn : Nat → List Nat) (e : Nat) : aX (List Nat × Nat) := match lxN u n e with
  | none => .error (flt u n e 2)
  | some l => if tkn A wn l = true then .error (flt u n e 3) else .ok (l, lxE u n e)
theorem xNew_0 {u : Nat → Nat} {n e : Nat} {A : aH} {wn : Nat → List Nat} (h : lxN u n e = none) : xNew u n A wn e = .error (flt u n e 2) := by
  unfold xNew
  rw [h]
theorem xNew_1 {u : Nat → Nat} {n e : Nat} {A : aH} {wn : Nat → List Nat} {l : List Nat} (h : lxN u n e = some l) (q : tkn A wn l = true) : xNew u n A wn e = .error (flt u n e 3) := by
  unfold xNew
  rw [h]
  exact if_pos q
theorem xNew_2 {u : Nat → Nat} {n e : Nat} {A : aH} {wn : Nat → List Nat} {l : List Nat} (h : lxN u n e = some l) (q : ¬ tkn A wn l = true) : xNew u n A wn e = .ok (l, lxE u n e) := by
  unfold xNew
  rw [h]
  exact if_neg q
/-! the program's draft: the house at the cell h, the names of its words -/
def PHN (μ : dtM) (h : Nat) (A : aH) (wn : Nat → List Nat) : Prop := CX μ ∧ PH μ h A ∧ (h = 12 ∨ h = 25) ∧ ∀ k, k < hs A 2 → dtJ μ 117 k = n32 (wn k) ∧ nOk (wn k)
theorem PHN.k {μ μ' : dtM} {h : Nat} {A : aH} {wn : Nat → List Nat} (S : PHN μ h A wn) (F : Fr (Pcl 115) μ μ') : PHN μ' h A wn := by
  obtain ⟨C, H, hh, N⟩ := S
  refine ⟨C.kept F, H.kept F (fun k _ _ j x => by have := x.1; omega), hh, fun k hk => ?_⟩
  rw [F.j (fun x => by have := x.1; omega)]; exact N k hk
theorem p_taken {μ : dtM} {h n e : Nat} {B : Nat → Int32} {A : aH} {wn : Nat → List Nat} (S : PHN μ h A wn) (H : PTk μ 115 n B e) {l : List Nat} (hl : lxN (tx B) n e = some l) : f_X4_isTaken 114 h μ = some (bI (tkn A wn l), μ) := by
  obtain ⟨C, HH, hh, N⟩ := S
  have nr := HH.nr; have nw := HH.nw; have np := HH.np
  have b0 := H.find hl HH.s1 (many := hs A 0) ⟨nr, by decide⟩ (N := hrn A) (fun k hk => ⟨HH.2.1.2.2.2.1 k hk, HH.2.2.2.2.2.2.1 k hk⟩)
  have b1 := H.find hl C.s117 (many := hs A 2) ⟨nw, by decide⟩ (N := wn) N
  have b2 := H.find hl HH.s2 (many := hs A 3) ⟨np, by decide⟩ (N := hpn A) (fun k hk => ⟨HH.2.1.2.2.2.2 k hk, HH.2.2.2.2.2.2.2 k hk⟩)
  have e57 : f_X4_isTaken_57 μ = some (bI true, μ) := by rw [f_X4_isTaken_57, f_X4_isTaken_62, show (1 : Int32) = Int32.ofNat 1 from rfl, o_ret1']
  have e62 : f_X4_isTaken_62 (0 : Int32) μ = some (bI false, μ) := by rw [f_X4_isTaken_62, show (0 : Int32) = Int32.ofNat 0 from rfl, o_ret0']
  have m1 : ∀ {N : Nat → List Nat} {m i : Nat}, m ≤ 7 → fnd N l m 0 = some i → ¬ oN (some i) = (-1 : Int32) := fun {N m i} hm hf => by
    have := fnd_lt _ _ _ hf
    show ¬ Int32.ofNat i = (-1 : Int32)
    rw [show (-1 : Int32) = -Int32.ofNat 1 from rfl, z_neg (by omega)]; exact id
  unfold tkn
  rw [f_X4_isTaken, C.g114_0, o_bind, HH.r7, o_bind, HH.g0, o_bind, H.1.v, o_bind, b0, o_call]
  cases a0 : fnd (hrn A) l (hs A 0) 0 with
  | some i => rw [if_neg (m1 nr a0), e57]; rfl
  | none =>
    rw [if_pos (show oN none = (-1 : Int32) from rfl), C.g114_0, o_bind, C.g114_1, o_bind, HH.g2, o_bind, H.1.v, o_bind, b1, o_call]
    cases a1 : fnd wn l (hs A 2) 0 with
    | some i => rw [if_neg (m1 nw a1), e57]; rfl
    | none =>
      rw [if_pos (show oN none = (-1 : Int32) from rfl), C.g114_0, o_bind, HH.r8, o_bind, HH.g3, o_bind, H.1.v, o_bind, b2, o_call]
      cases a2 : fnd (hpn A) l (hs A 3) 0 with
      | some i => rw [if_neg (m1 (by omega) a2), e57]; rfl
      | none => rw [if_pos (show oN none = (-1 : Int32) from rfl), e62]; rfl
def PRn (μ : dtM) (n : Nat) (B : Nat → Int32) (r : aX (List Nat × Nat)) (v : Int64) : Prop := match r with
  | .ok y => v = n32 y.1 ∧ nOk y.1 ∧ 1 ≤ y.1.length ∧ PTk μ 115 n B y.2
  | .error x => v = Int64.ofNat 0 ∧ PFl μ 115 x
theorem p_newName {μ : dtM} {h n e : Nat} {B : Nat → Int32} {A : aH} {wn : Nat → List Nat} (S : PHN μ h A wn) (H : PTk μ 115 n B e) : ∃ μ' v, f_X4_passNewName 114 h μ = some (v, μ') ∧ Fr (Pcl 115) μ μ' ∧ PRn μ' n B (xNew (tx B) n A wn e) v := by
  have C := S.1
  have hn' := H.isName
  cases hn : lxN (tx B) n e with
  | none =>
    rw [hn] at hn'
    obtain ⟨μ1, e1, F1, H1⟩ := p_flaw (w := 2) H
    refine ⟨μ1, Int64.ofNat 0, ?_, F1, by rw [xNew_0 hn]; exact ⟨rfl, H1⟩⟩
    rw [f_X4_passNewName, C.g114_0, o_bind, H.1.v, o_bind, hn', o_call, if_pos (show bI (none : Option (List Nat)).isSome = 0 from (by decide : bI false = 0)), C.g114_0, o_bind, H.1.v, o_bind, show (2 : Int32) = Int32.ofNat 2 from rfl, e1, o_call]; rfl
  | some l =>
    rw [hn] at hn'
    obtain ⟨ok, l1, _⟩ := lxN_ok hn
    have tk := p_taken S H hn
    have g7 : opGJ 8 7 μ 115 = some (n32 l) := by
      rw [o_GJ H.1.1.1, H.2.2.2.2.2.2.2.2]
      unfold lxJ
      rw [hn]
    by_cases q : tkn A wn l = true
    · obtain ⟨μ1, e1, F1, H1⟩ := p_flaw (w := 3) H
      refine ⟨μ1, Int64.ofNat 0, ?_, F1, by rw [xNew_1 hn q]; exact ⟨rfl, H1⟩⟩
      rw [f_X4_passNewName, C.g114_0, o_bind, H.1.v, o_bind, hn', o_call, if_neg (show ¬ bI (some l).isSome = 0 from (by decide : ¬ bI true = 0)), o_Rv C.s114, o_bind, tk, o_call, if_neg (by rw [q]; decide), C.g114_0, o_bind, H.1.v, o_bind, show (3 : Int32) = Int32.ofNat 3 from rfl, e1, o_call]; rfl
    · obtain ⟨μ1, e1, F1, H1⟩ := H.adv
      refine ⟨μ1, n32 l, ?_, F1.wide (fun _ _ x => Ptk.c x), by rw [xNew_2 hn q]; exact ⟨rfl, ok, l1, H1⟩⟩
      have q' : tkn A wn l = false := by
        cases h : tkn A wn l with
        | true => exact absurd h q
        | false => rfl
      rw [f_X4_passNewName, C.g114_0, o_bind, H.1.v, o_bind, hn', o_call, if_neg (show ¬ bI (some l).isSome = 0 from (by decide : ¬ bI true = 0)), o_Rv C.s114, o_bind, tk, o_call, if_pos (by rw [q']; decide), C.g114_0, o_bind, g7, o_bind, o_bind, H.1.v, o_bind, e1, o_bind]
/-! the model's draft -/
def MHN (μ : dtM) (A : aH) (wn : Nat → List Nat) : Prop := CX μ ∧ MH μ 2016 76 A ∧ ∀ k, k < hs A 2 → dtJ μ 135 (83 + k) = n256 (wn k) ∧ nOk (wn k)
theorem MHN.k {P : Nat → Nat → Prop} {μ μ' : dtM} {A : aH} {wn : Nat → List Nat} (S : MHN μ A wn) (F : Fr P μ μ') (q : ∀ j, 2016 ≤ j → j < 2152 → ¬ j = 2023 → ¬ P 134 j) (qn : ∀ r, r < hs A 0 → ¬ P 135 (76 + r)) (qw : ∀ r, r < hs A 2 → ¬ P 135 (83 + r)) (qp : ∀ r, r < hs A 3 → ¬ P 135 (90 + r)) : MHN μ' A wn := by
  obtain ⟨C, ⟨S, V, W⟩, N⟩ := S
  refine ⟨C.kept F, ⟨?_, ⟨fun j hj => ?_, ?_, fun t i x => ?_, fun wd k hw h1 h2 => ?_, fun r hr => ?_, fun p hp => ?_⟩, W⟩, fun k hk => ?_⟩
  · unfold mSh
    rw [F.S, F.Ra]; exact S
  · rw [F.i (q _ (by omega) (by omega) (by omega))]; exact V.1 j hj
  · rw [F.i (q _ (by omega) (by omega) (by omega))]; exact V.2.1
  · have y := mIdx_hok W x
    rw [F.i (q _ (by omega) (by omega) (by omega))]; exact V.2.2.1 t i x
  · have w7 := W.1.2.2.1
    have y : mIdx (4 + k) wd = 40 + 5 * wd + (1 + k) := by
      unfold mIdx
      rw [if_neg (by omega), if_pos (by omega)]; omega
    rw [F.i (q _ (by omega) (by rw [y]; omega) (by rw [y]; omega))]; exact V.2.2.2.1 wd k hw h1 h2
  · rw [F.j (qn r hr)]; exact V.2.2.2.2.1 r hr
  · rw [F.j (show ¬ P 135 (76 + 14 + p) from qp p hp)]; exact V.2.2.2.2.2 p hp
  · rw [F.j (qw k hk)]; exact N k hk
theorem MHN.c {μ μ' : dtM} {A : aH} {wn : Nat → List Nat} (S : MHN μ A wn) (F : Fr Mcl μ μ') : MHN μ' A wn := S.k F (fun j _ _ _ x => by have := x.1; omega) (fun r _ x => by have := x.1; omega) (fun r _ x => by have := x.1; omega) (fun r _ x => by have := x.1; omega)
theorem MHN.cnt {μ : dtM} {A : aH} {wn : Nat → List Nat} (S : MHN μ A wn) {j : Nat} (hj : j < 6) : opLI 1 μ 134 (Int32.ofNat (2016 + j)) = some (Int32.ofNat (hs A j)) := by
  rw [o_LI S.1.s134 (by omega) (by decide), S.2.1.2.1.1 j hj]
theorem n_old {μ : dtM} {n e : Nat} {B : Nat → Int32} {A : aH} {wn : Nat → List Nat} (S : MHN μ A wn) (H : MTk μ n B e) {l : List Nat} (hl : lxN (tx B) n e = some l) : f_X12_isOld 133 μ = some (bI (tkn A wn l), μ) := by
  have S0 := S
  obtain ⟨C, ⟨_, V, W⟩, N⟩ := S
  have nr : hs A 0 ≤ 7 := W.1.1
  have nw : hs A 2 ≤ 7 := W.1.2.2.1
  have np : hs A 3 ≤ 5 := W.1.2.2.2.1
  have b0 := H.find hl (base := 76) (many := hs A 0) (by omega) (N := hrn A) (fun k hk => ⟨V.2.2.2.2.1 k hk, W.2.2.2.2.1 k hk⟩)
  have b1 := H.find hl (base := 83) (many := hs A 2) (by omega) (N := wn) N
  have b2 := H.find hl (base := 90) (many := hs A 3) (by omega) (N := hpn A) (fun k hk => ⟨V.2.2.2.2.2 k hk, W.2.2.2.2.2 k hk⟩)
  have e36 : f_X12_isOld_36 μ = some (bI true, μ) := by rw [f_X12_isOld_36, show (1 : Int32) = Int32.ofNat 1 from rfl, o_ret1']
  have e61 : f_X12_isOld_61 (0 : Int32) μ = some (bI false, μ) := by rw [f_X12_isOld_61, show (0 : Int32) = Int32.ofNat 0 from rfl, o_ret0']
  have e61' : f_X12_isOld_61 (1 : Int32) μ = some (bI true, μ) := by rw [f_X12_isOld_61, show (1 : Int32) = Int32.ofNat 1 from rfl, o_ret1']
  have c0 := S0.cnt (j := 0) (by decide)
  have c2 := S0.cnt (j := 2) (by decide)
  have c3 := S0.cnt (j := 3) (by decide)
  have m1 : ∀ {N : Nat → List Nat} {m i : Nat}, m ≤ 7 → fnd N l m 0 = some i → ¬ oN (some i) = (-1 : Int32) := fun {N m i} hm hf => by
    have := fnd_lt _ _ _ hf
    show ¬ Int32.ofNat i = (-1 : Int32)
    rw [show (-1 : Int32) = -Int32.ofNat 1 from rfl, z_neg (by omega)]; exact id
  unfold tkn
  rw [f_X12_isOld, C.g133_0, o_bind, show (2016 : Int32) = Int32.ofNat (2016 + 0) from rfl, c0, o_bind, C.v133, o_bind, show (76 : Int32) = Int32.ofNat 76 from rfl, b0, o_call]
  cases a0 : fnd (hrn A) l (hs A 0) 0 with
  | some i => rw [if_neg (m1 nr a0), e36]; rfl
  | none =>
    rw [if_pos (show oN none = (-1 : Int32) from rfl), C.g133_0, o_bind, show (2018 : Int32) = Int32.ofNat (2016 + 2) from rfl, c2, o_bind, C.v133, o_bind, show (83 : Int32) = Int32.ofNat 83 from rfl, b1, o_call]
    cases a1 : fnd wn l (hs A 2) 0 with
    | some i => rw [if_neg (m1 nw a1), e36]; rfl
    | none =>
      rw [if_pos (show oN none = (-1 : Int32) from rfl), C.g133_0, o_bind, show (2019 : Int32) = Int32.ofNat (2016 + 3) from rfl, c3, o_bind, C.v133, o_bind, show (90 : Int32) = Int32.ofNat 90 from rfl, b2, o_call]
      cases a2 : fnd (hpn A) l (hs A 3) 0 with
      | some i => rw [if_neg (m1 (by omega) a2), e61']; rfl
      | none => rw [if_pos (show oN none = (-1 : Int32) from rfl), e61]; rfl
/-- the place of a kind's next name: 0 room, 2 word, 3 person -/
def xNw (u : Nat → Nat) (n : Nat) (A : aH) (wn : Nat → List Nat) (q mx e : Nat) : aX (List Nat × Nat) := if hs A q = mx then .error (flt u n e 6) else xNew u n A wn (lxE u n e)
abbrev Mnm (t : Nat) : Nat → Nat → Prop := fun k j => Mcl k j ∨ (k = 135 ∧ j = t)
def MRn (μ : dtM) (n : Nat) (B : Nat → Int32) (t : Nat) (r : aX (List Nat × Nat)) : Prop := match r with
  | .ok y => dtJ μ 135 t = n256 y.1 ∧ nOk y.1 ∧ 1 ≤ y.1.length ∧ MTk μ n B y.2 ∧ M0f μ
  | .error x => MFl μ x
theorem MTk.at5 {μ : dtM} {n e t : Nat} {B : Nat → Int32} {v : Int64} (H : MTk μ n B e) : MTk (dtSJ μ 135 t v) n B e := by
  obtain ⟨T, he, a, b, c, d, f⟩ := H
  have F : Fr (fun k j => k = 135 ∧ j = t) μ (dtSJ μ 135 t v) := Fr.SJ ⟨rfl, rfl⟩
  refine ⟨T.kept F ⟨by omega, by intros; omega⟩, he, ?_, ?_, ?_, fun x => ?_, fun x => ?_⟩
  · rw [F.i (by omega)]; exact a
  · rw [F.i (by omega)]; exact b
  · rw [F.i (by omega)]; exact c
  · rw [F.i (by omega)]; exact d x
  · rw [F.i (by omega)]; exact f x
theorem n_newOne {μ : dtM} {n e q mx o : Nat} {B : Nat → Int32} {A : aH} {wn : Nat → List Nat} (S : MHN μ A wn) (H : MTk μ n B e) (h0 : M0f μ) (hq : q < 6) (hm : hs A q ≤ mx ∧ mx < 20 ∧ o < 15) : ∃ μ', f_X12_newOne 133 (Int32.ofNat q) (Int32.ofNat mx) (Int32.ofNat o) μ = some (bI (xOk (xNw (tx B) n A wn q mx e)), μ') ∧ Fr (Mnm (76 + o + hs A q)) μ μ' ∧ MRn μ' n B (76 + o + hs A q) (xNw (tx B) n A wn q mx e) := by
  have C := S.1
  have ct := S.cnt hq
  have full : f_X12_isFull 133 (Int32.ofNat q) (Int32.ofNat mx) μ = some (bI (decide (hs A q = mx)), μ) := by
    rw [f_X12_isFull, C.g133_0, o_bind, show (2016 : Int32) = Int32.ofNat 2016 from rfl, z_add, ct, o_bind]
    by_cases x : hs A q = mx
    · rw [if_pos (by rw [x]), f_X12_isFull_19, show (1 : Int32) = Int32.ofNat 1 from rfl, o_ret1', decide_eq_true x]
    · rw [if_neg (by rw [z_eq (by omega) (by omega)]; exact x), f_X12_isFull_19, show (0 : Int32) = Int32.ofNat 0 from rfl, o_ret0', decide_eq_false x]
  unfold xNw
  by_cases x : hs A q = mx
  · obtain ⟨μ1, e1, F1, H1⟩ := n_fails (w := 6) H h0 (by decide)
    rw [if_pos x]
    refine ⟨μ1, ?_, F1.wide (fun _ _ y => Or.inl y), H1⟩
    rw [f_X12_newOne, C.v133, o_bind, full, o_call, if_neg (by rw [decide_eq_true x]; decide), C.v133, o_bind, show (6 : Int32) = Int32.ofNat 6 from rfl, e1, o_call, o_bI]; rfl
  · rw [if_neg x]
    obtain ⟨μ1, e1, F1, H1⟩ := H.adv
    have h1 := h0.tk F1
    have S1 := S.c (F1.wide (fun _ _ y => Mtk.c y))
    have C1 := S1.1
    have hn' := H1.isName
    have st : f_X12_newOne 133 (Int32.ofNat q) (Int32.ofNat mx) (Int32.ofNat o) μ = opCall (f_X12_isName 133 1000003 μ1) fun x14 μ12 => if x14 = 0 then ((opRv 12 μ12 133).bind fun _ => opCall (f_X12_fails 133 (2 : Int32) μ12) fun x47 μ45 => opRet x47 μ45) else ((opRv 12 μ12 133).bind fun _ => opCall (f_X12_isOld 133 μ12) fun x21 μ19 => if x21 = 0 then ((opGR 12 1 μ19 133).bind fun x25 => (opGR 12 0 μ19 133).bind fun x27 => (opLI 1 μ19 x27 ((2016 : Int32) + Int32.ofNat q)).bind fun x29 => (opRv 12 μ19 133).bind fun _ => opCall (f_X12_nameHere 133 μ19) fun x34 μ32 => (opSJ μ32 x25 (((76 : Int32) + Int32.ofNat o) + x29) x34).bind fun μ35 => (opRv 12 μ35 133).bind fun _ => (f_X12_ahead 133 μ35).bind fun μ38 => opRet (1 : Int32) μ38) else ((opRv 12 μ19 133).bind fun _ => opCall (f_X12_fails 133 (3 : Int32) μ19) fun x43 μ41 => opRet x43 μ41)) := by
      rw [f_X12_newOne, C.v133, o_bind, full, o_call, if_pos (by rw [decide_eq_false x]; decide), C.v133, o_bind, e1, o_bind, C1.v133, o_bind]
    rw [st]
    cases hn : lxN (tx B) n (lxE (tx B) n e) with
    | none =>
      rw [hn] at hn'
      obtain ⟨μ2, e2, F2, H2⟩ := n_fails (w := 2) H1 h1 (by decide)
      refine ⟨μ2, ?_, (F1.wide (fun _ _ y => Or.inl (Mtk.c y))).tr (F2.wide (fun _ _ y => Or.inl y)), by rw [xNew_0 hn]; exact H2⟩
      rw [xNew_0 hn, hn', o_call, if_pos (show bI (none : Option (List Nat)).isSome = 0 from (by decide : bI false = 0)), C1.v133, o_bind, show (2 : Int32) = Int32.ofNat 2 from rfl, e2, o_call, o_bI]; rfl
    | some l =>
      rw [hn] at hn'
      obtain ⟨ok, l1, _⟩ := lxN_ok hn
      have tk := n_old S1 H1 hn
      by_cases y : tkn A wn l = true
      · obtain ⟨μ2, e2, F2, H2⟩ := n_fails (w := 3) H1 h1 (by decide)
        refine ⟨μ2, ?_, (F1.wide (fun _ _ y => Or.inl (Mtk.c y))).tr (F2.wide (fun _ _ y => Or.inl y)), by rw [xNew_1 hn y]; exact H2⟩
        rw [xNew_1 hn y, hn', o_call, if_neg (show ¬ bI (some l).isSome = 0 from (by decide : ¬ bI true = 0)), C1.v133, o_bind, tk, o_call, if_neg (by rw [y]; decide), C1.v133, o_bind, show (3 : Int32) = Int32.ofNat 3 from rfl, e2, o_call, o_bI]; rfl
      · have y' : tkn A wn l = false := by
          cases h : tkn A wn l with
          | true => exact absurd h y
          | false => rfl
        have ct1 := S1.cnt hq
        have nm := H1.name hn
        have Hx : MTk (dtSJ μ1 135 (76 + o + hs A q) (n256 l)) n B (lxE (tx B) n e) := H1.at5
        obtain ⟨μ2, e2, F2, H2⟩ := Hx.adv
        have Cx : CX (dtSJ μ1 135 (76 + o + hs A q) (n256 l)) := C1.SJ
        have hx : M0f (dtSJ μ1 135 (76 + o + hs A q) (n256 l)) := h1
        refine ⟨μ2, ?_, (F1.wide (fun _ _ y => Or.inl (Mtk.c y))).tr ((Fr.SJ (Or.inr ⟨rfl, rfl⟩)).tr (F2.wide (fun _ _ y => Or.inl (Mtk.c y)))), ?_⟩
        · rw [xNew_2 hn y, hn', o_call, if_neg (show ¬ bI (some l).isSome = 0 from (by decide : ¬ bI true = 0)), C1.v133, o_bind, tk, o_call, if_pos (by rw [y']; decide), C1.g133_1, o_bind, C1.g133_0, o_bind, show (2016 : Int32) = Int32.ofNat 2016 from rfl, z_add, ct1, o_bind, C1.v133, o_bind, nm, o_call, show (76 : Int32) = Int32.ofNat 76 from rfl, z_add, z_add, o_SJ C1.s135 (by omega) (by decide), o_bind, Cx.v133, o_bind, e2, o_bind, show (1 : Int32) = Int32.ofNat 1 from rfl, o_ret1']; rfl
        · rw [xNew_2 hn y]
          refine ⟨?_, ok, l1, H2, hx.tk F2⟩
          rw [F2.j (fun x => by have := x.1; omega), m_J_SJ, if_pos ⟨rfl, rfl⟩]
