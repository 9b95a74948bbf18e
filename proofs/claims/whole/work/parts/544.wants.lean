/-! PURE 84: what a text wants next, the model -/
theorem M0f.tk {μ μ' : dtM} (h : M0f μ) (F : Fr Mtk μ μ') : M0f μ' := by
  unfold M0f
  rw [F.i (fun x => by
    have y : 133 = 133 ∧ 12 ≤ 18 ∧ 18 ≤ 15 := x
    omega), F.i (fun x => by
    have y : 133 = 133 ∧ 12 ≤ 17 ∧ 17 ≤ 15 := x
    omega)]; exact h
abbrev Mat (t : Nat) : Nat → Nat → Prop := fun k j => Mcl k j ∨ (k = 134 ∧ j = t)
theorem Mtk.a {t k j : Nat} (x : Mtk k j) : Mat t k j := Or.inl (Mtk.c x)
def MRv (μ : dtM) (n : Nat) (B : Nat → Int32) (r : aX (Nat × Nat)) (t : Nat) : Prop := match r with
  | .ok y => dtI μ 134 t = Int32.ofNat y.1 ∧ MTk μ n B y.2 ∧ M0f μ
  | .error x => MFl μ x
theorem MTk.at4 {μ : dtM} {n e t : Nat} {B : Nat → Int32} {v : Int32} (H : MTk μ n B e) : MTk (dtSI μ 134 t v) n B e := by
  obtain ⟨T, he, a, b, c, d, f⟩ := H
  have F : Fr (fun k j => k = 134 ∧ j = t) μ (dtSI μ 134 t v) := Fr.SI ⟨rfl, rfl⟩
  refine ⟨T.kept F ⟨by omega, by intros; omega⟩, he, ?_, ?_, ?_, fun x => ?_, fun x => ?_⟩
  · rw [F.i (by omega)]; exact a
  · rw [F.i (by omega)]; exact b
  · rw [F.i (by omega)]; exact c
  · rw [F.i (by omega)]; exact d x
  · rw [F.i (by omega)]; exact f x
theorem M0f.at4 {μ : dtM} {t : Nat} {v : Int32} (h : M0f μ) : M0f (dtSI μ 134 t v) := by
  unfold M0f
  rw [m_I_SI, if_neg (by omega), m_I_SI, if_neg (by omega)]; exact h
theorem MTk.isSign {μ : dtM} {n e s : Nat} {B : Nat → Int32} (H : MTk μ n B e) (hs' : s < 128) : f_X12_isSign 133 (Int32.ofNat s) μ = some (bI (decide (lxT (tx B) n e = 3 ∧ tx B (lxF (tx B) n e) = s)), μ) := by
  have T := H.1
  obtain ⟨m5, _, _, _, m4, _⟩ := mkT_b (lxT_4 (tx := tx B) (n := n) (e := e))
  have e20 : f_X12_isSign_20 μ = some (bI false, μ) := by rw [f_X12_isSign_20, f_X12_isSign_21, show (0 : Int32) = Int32.ofNat 0 from rfl, o_ret0']
  rw [f_X12_isSign, T.g 12, H.2.2.2.2.1, o_bind]
  by_cases q : lxT (tx B) n e = 3
  · have lt := tx_lt (B := B) (j := lxF (tx B) n e)
    rw [if_pos (show Int32.ofNat (mkT (lxT (tx B) n e)) = (4 : Int32) by rw [m4.mpr q]; rfl), T.g 15, H.2.2.2.2.2.2 q, o_bind]
    by_cases p : tx B (lxF (tx B) n e) = s
    · rw [if_pos (show Int32.ofNat (tx B (lxF (tx B) n e)) = Int32.ofNat s by rw [p]), f_X12_isSign_21, show (1 : Int32) = Int32.ofNat 1 from rfl, o_ret1', decide_eq_true ⟨q, p⟩]
    · rw [if_neg (show ¬ Int32.ofNat (tx B (lxF (tx B) n e)) = Int32.ofNat s by rw [z_eq (by omega) (by omega)]; exact p), e20, decide_eq_false (fun x => p x.2)]
  · rw [if_neg (show ¬ Int32.ofNat (mkT (lxT (tx B) n e)) = (4 : Int32) by rw [show (4 : Int32) = Int32.ofNat 4 from rfl, z_eq (by omega) (by decide)]; exact fun x => q (m4.mp x)), e20, decide_eq_false (fun x => q x.1)]
theorem MTk.wantSign {μ : dtM} {n e s : Nat} {B : Nat → Int32} (H : MTk μ n B e) (h0 : M0f μ) (hs' : s < 128) : ∃ μ', f_X12_wantSign 133 (Int32.ofNat s) μ = some (bI (xOk (xSign (tx B) n s e)), μ') ∧ Fr Mcl μ μ' ∧ MRs μ' n B (xSign (tx B) n s e) := by
  have T := H.1
  unfold xSign
  by_cases q : lxT (tx B) n e = 3 ∧ tx B (lxF (tx B) n e) = s
  · obtain ⟨μ1, e1, F1, H1⟩ := H.adv
    rw [if_pos q]
    refine ⟨μ1, ?_, F1.wide (fun _ _ x => Mtk.c x), H1, h0.tk F1⟩
    rw [f_X12_wantSign, T.1.v133, o_bind, H.isSign hs', decide_eq_true q, o_call, if_neg (by decide), T.1.v133, o_bind, e1, o_bind, show (1 : Int32) = Int32.ofNat 1 from rfl, o_ret1']; rfl
  · obtain ⟨μ1, e1, F1, H1⟩ := n_fails (w := 2) H h0 (by decide)
    rw [if_neg q]
    refine ⟨μ1, ?_, F1, H1⟩
    rw [f_X12_wantSign, T.1.v133, o_bind, H.isSign hs', decide_eq_false q, o_call, if_pos (by decide), T.1.v133, o_bind, show (2 : Int32) = Int32.ofNat 2 from rfl, e1, o_call, o_bI]; rfl
theorem kwM_inj : ∀ a, a < 24 → ∀ b, b < 24 → kwM.getD a 99 = kwM.getD b 99 → a = b := by decide
theorem lxM_k {u : Nat → Nat} {n e k : Nat} (hk : k < 24) : (oN (lxM u n e) = Int32.ofNat (kwM.getD k 99)) = (lxK u n e = some k) := by
  rw [oN_eqk (fun j h => lxM_lt h) (kwM_lt k hk)]
  apply propext
  unfold lxM
  cases h : lxK u n e with
  | none => exact ⟨(fun x => (nomatch x)), (fun x => (nomatch x))⟩
  | some j =>
    have hj := lxK_lt h
    refine ⟨fun x => ?_, fun x => congrArg (fun z => (some z : Option Nat).map (fun k => kwM.getD k 99)) (Option.some.inj x)⟩
    have y : kwM.getD j 99 = kwM.getD k 99 := Option.some.inj x
    rw [kwM_inj j hj k hk y]
theorem MTk.wantWord {μ : dtM} {n e k m : Nat} {B : Nat → Int32} (H : MTk μ n B e) (h0 : M0f μ) (hk : k < 24) (hm : kwM.getD k 99 = m) : ∃ μ', f_X12_wantWord 133 1000003 (Int32.ofNat m) μ = some (bI (xOk (xKey (tx B) n k e)), μ') ∧ Fr Mcl μ μ' ∧ MRs μ' n B (xKey (tx B) n k e) := by
  have T := H.1
  subst hm
  have cond := lxM_k (u := tx B) (n := n) (e := e) hk
  unfold xKey
  by_cases q : lxK (tx B) n e = some k
  · obtain ⟨μ1, e1, F1, H1⟩ := H.adv
    rw [if_pos q]
    refine ⟨μ1, ?_, F1.wide (fun _ _ x => Mtk.c x), H1, h0.tk F1⟩
    rw [f_X12_wantWord, T.1.v133, o_bind, H.words, o_call, if_pos (Eq.mpr cond q), T.1.v133, o_bind, e1, o_bind, show (1 : Int32) = Int32.ofNat 1 from rfl, o_ret1']; rfl
  · obtain ⟨μ1, e1, F1, H1⟩ := n_fails (w := 2) H h0 (by decide)
    rw [if_neg q]
    refine ⟨μ1, ?_, F1, H1⟩
    rw [f_X12_wantWord, T.1.v133, o_bind, H.words, o_call, if_neg (fun x => q (Eq.mp cond x)), T.1.v133, o_bind, show (2 : Int32) = Int32.ofNat 2 from rfl, e1, o_call, o_bI]; rfl
theorem MTk.isThere {μ : dtM} {n e k m : Nat} {B : Nat → Int32} (H : MTk μ n B e) (h0 : M0f μ) (hk : k < 24) (hm : kwM.getD k 99 = m) : ∃ μ', f_X12_isThere 133 (Int32.ofNat m) μ = some (bI (decide (lxK (tx B) n e = some k)), μ') ∧ Fr Mcl μ μ' ∧ MTk μ' n B (if lxK (tx B) n e = some k then lxE (tx B) n e else e) ∧ M0f μ' := by
  have T := H.1
  subst hm
  have cond := lxM_k (u := tx B) (n := n) (e := e) hk
  by_cases q : lxK (tx B) n e = some k
  · obtain ⟨μ1, e1, F1, H1⟩ := H.adv
    refine ⟨μ1, ?_, F1.wide (fun _ _ x => Mtk.c x), by rw [if_pos q]; exact H1, h0.tk F1⟩
    rw [f_X12_isThere, T.1.v133, o_bind, H.words, o_call, if_pos (Eq.mpr cond q), T.1.v133, o_bind, e1, o_bind, show (1 : Int32) = Int32.ofNat 1 from rfl, o_ret1', decide_eq_true q]
  · refine ⟨μ, ?_, Fr.rf, by rw [if_neg q]; exact H, h0⟩
    rw [f_X12_isThere, T.1.v133, o_bind, H.words, o_call, if_neg (fun x => q (Eq.mp cond x)), show (0 : Int32) = Int32.ofNat 0 from rfl, o_ret0', decide_eq_false q]
theorem kwM_snd : ∀ k, k < 24 → (8 ≤ kwM.getD k 99 ∧ kwM.getD k 99 ≤ 11 ↔ 7 ≤ k ∧ k < 11) ∧ (7 ≤ k → k < 11 → kwM.getD k 99 = k + 1) := by decide
theorem MTk.isSound {μ : dtM} {n e : Nat} {B : Nat → Int32} (H : MTk μ n B e) : f_X12_isSound 133 μ = some (bI (sndO (lxK (tx B) n e)).isSome, μ) := by
  have T := H.1
  have W := H.words
  have e26 : f_X12_isSound_26 μ = some (bI false, μ) := by rw [f_X12_isSound_26, f_X12_isSound_27, show (0 : Int32) = Int32.ofNat 0 from rfl, o_ret0']
  have st : f_X12_isSound 133 μ = if oN (lxM (tx B) n e) < (8 : Int32) then (f_X12_isSound_26 μ) else if (11 : Int32) < oN (lxM (tx B) n e) then (f_X12_isSound_26 μ) else (f_X12_isSound_27 (1 : Int32) μ) := by
    rw [f_X12_isSound, T.1.v133, o_bind, W, o_call, T.1.v133, o_bind, W, o_call]
  rw [st]
  unfold lxM
  cases hk : lxK (tx B) n e with
  | none =>
    rw [if_pos (show oN ((none : Option Nat).map (fun k => kwM.getD k 99)) < (8 : Int32) from (by decide : (-1 : Int32) < 8)), e26]; rfl
  | some k =>
    have hk24 := lxK_lt hk
    have ks := (kwM_snd k hk24).1
    have kl := kwM_lt k hk24
    have a1 : (Int32.ofNat (kwM.getD k 99) < (8 : Int32)) = (kwM.getD k 99 < 8) := z_lt (by omega) (show 8 < 2147483648 by decide)
    have a2 : ((11 : Int32) < Int32.ofNat (kwM.getD k 99)) = (11 < kwM.getD k 99) := z_lt (show 11 < 2147483648 by decide) (by omega)
    show (if Int32.ofNat (kwM.getD k 99) < (8 : Int32) then _ else if (11 : Int32) < Int32.ofNat (kwM.getD k 99) then _ else _) = some (bI (if 7 ≤ k ∧ k < 11 then some (k - 7) else none).isSome, μ)
    by_cases a : kwM.getD k 99 < 8
    · rw [if_pos (Eq.mpr a1 a), if_neg (fun x => by have := ks.mpr x; omega), e26]; rfl
    · by_cases b : 11 < kwM.getD k 99
      · rw [if_neg (fun x => a (Eq.mp a1 x)), if_pos (Eq.mpr a2 b), if_neg (fun x => by have := ks.mpr x; omega), e26]; rfl
      · rw [if_neg (fun x => a (Eq.mp a1 x)), if_neg (fun x => b (Eq.mp a2 x)), if_pos (ks.mp ⟨by omega, by omega⟩), f_X12_isSound_27, show (1 : Int32) = Int32.ofNat 1 from rfl, o_ret1']; rfl
theorem MTk.number {μ : dtM} {n e t lo hi : Nat} {B : Nat → Int32} (H : MTk μ n B e) (h0 : M0f μ) (ht : t < 2656) (hl : lo < 10000) (hh : hi < 10000) : ∃ μ', f_X12_number 133 (Int32.ofNat t) (Int32.ofNat lo) (Int32.ofNat hi) μ = some (bI (xOk (xNum (tx B) n lo hi e)), μ') ∧ Fr (Mat t) μ μ' ∧ MRv μ' n B (xNum (tx B) n lo hi e) t := by
  have T := H.1
  obtain ⟨m5, _, _, m3, _, _⟩ := mkT_b (lxT_4 (tx := tx B) (n := n) (e := e))
  unfold xNum
  by_cases q : lxT (tx B) n e = 2
  · have lv := lxV_lt q
    have st : f_X12_number 133 (Int32.ofNat t) (Int32.ofNat lo) (Int32.ofNat hi) μ = if Int32.ofNat (lxV (tx B) n e) < Int32.ofNat lo then (f_X12_number_30 133 μ) else if Int32.ofNat (lxV (tx B) n e) ≤ Int32.ofNat hi then ((f_X12_ahead 133 (dtSI μ 134 t (Int32.ofNat (lxV (tx B) n e)))).bind fun μ23 => opRet (1 : Int32) μ23) else (f_X12_number_30 133 μ) := by
      rw [f_X12_number, T.g 12, H.2.2.2.2.1, o_bind, if_pos (show Int32.ofNat (mkT (lxT (tx B) n e)) = (3 : Int32) by rw [m3.mpr q]; rfl), T.g 15, H.2.2.2.2.2.1 q, o_bind, o_bind, T.1.g133_0, o_bind, o_bind, o_SI T.1.s134 ht (by decide), o_bind, (show CX (dtSI μ 134 t (Int32.ofNat (lxV (tx B) n e))) from T.1.SI).v133, o_bind]
    have a1 := z_lt (show lxV (tx B) n e < 2147483648 by omega) (show lo < 2147483648 by omega)
    have a2 := z_le (show lxV (tx B) n e < 2147483648 by omega) (show hi < 2147483648 by omega)
    rw [if_pos q, st]
    by_cases r : lo ≤ lxV (tx B) n e ∧ lxV (tx B) n e ≤ hi
    · have Ha : MTk (dtSI μ 134 t (Int32.ofNat (lxV (tx B) n e))) n B e := H.at4
      obtain ⟨μ1, e1, F1, H1⟩ := Ha.adv
      refine ⟨μ1, ?_, (Fr.SI (Or.inr ⟨rfl, rfl⟩)).tr (F1.wide (fun _ _ x => Mtk.a x)), ?_⟩
      · rw [if_neg (fun x => by have := Eq.mp a1 x; omega), if_pos (Eq.mpr a2 r.2), e1, o_bind, show (1 : Int32) = Int32.ofNat 1 from rfl, o_ret1', if_pos r]; rfl
      · rw [if_pos r]
        refine ⟨?_, H1, (h0.at4).tk F1⟩
        rw [F1.i (fun x => by
          have y : 134 = 133 ∧ 12 ≤ t ∧ t ≤ 15 := x
          omega), m_I_SI, if_pos ⟨rfl, rfl⟩]
    · obtain ⟨μ1, e1, F1, H1⟩ := n_fails (w := 4) H h0 (by decide)
      have e30 : f_X12_number_30 133 μ = some (bI false, μ1) := by
        rw [f_X12_number_30, T.1.v133, o_bind, show (4 : Int32) = Int32.ofNat 4 from rfl, e1, o_call, o_bI]
      refine ⟨μ1, ?_, F1.wide (fun _ _ x => Or.inl x), by rw [if_neg r]; exact H1⟩
      rw [if_neg r]
      by_cases a : lxV (tx B) n e < lo
      · rw [if_pos (Eq.mpr a1 a), e30]; rfl
      · rw [if_neg (fun x => a (Eq.mp a1 x)), if_neg (fun x => by have := Eq.mp a2 x; omega), e30]; rfl
  · obtain ⟨μ1, e1, F1, H1⟩ := n_fails (w := 2) H h0 (by decide)
    refine ⟨μ1, ?_, F1.wide (fun _ _ x => Or.inl x), by rw [if_neg q]; exact H1⟩
    rw [f_X12_number, T.g 12, H.2.2.2.2.1, o_bind, if_neg (show ¬ Int32.ofNat (mkT (lxT (tx B) n e)) = (3 : Int32) by rw [show (3 : Int32) = Int32.ofNat 3 from rfl, z_eq (by omega) (by decide)]; exact fun x => q (m3.mp x)), T.1.v133, o_bind, show (2 : Int32) = Int32.ofNat 2 from rfl, e1, o_call, o_bI, if_neg q]; rfl
theorem xOld_0 {u : Nat → Nat} {n many e : Nat} {N : Nat → List Nat} (h : lxN u n e = none) : xOld u n N many e = .error (flt u n e 2) := by
  unfold xOld
  rw [h]
theorem xOld_1 {u : Nat → Nat} {n many e : Nat} {N : Nat → List Nat} {l : List Nat} (h : lxN u n e = some l) (q : fnd N l many 0 = none) : xOld u n N many e = .error (flt u n e 3) := by
  unfold xOld
  rw [h]
  show (match fnd N l many 0 with | none => _ | some i => _) = _
  rw [q]
theorem xOld_2 {u : Nat → Nat} {n many e i : Nat} {N : Nat → List Nat} {l : List Nat} (h : lxN u n e = some l) (q : fnd N l many 0 = some i) : xOld u n N many e = .ok (i, lxE u n e) := by
  unfold xOld
  rw [h]
  show (match fnd N l many 0 with | none => _ | some i => _) = _
  rw [q]
theorem MTk.oldOne {μ : dtM} {n e t base many : Nat} {B : Nat → Int32} (H : MTk μ n B e) (h0 : M0f μ) (ht : t < 2656) {N : Nat → List Nat} (hb : base + many ≤ 114) (hN : ∀ k, k < many → dtJ μ 135 (base + k) = n256 (N k) ∧ nOk (N k)) : ∃ μ', f_X12_oldOne 133 (Int32.ofNat base) (Int32.ofNat many) (Int32.ofNat t) μ = some (bI (xOk (xOld (tx B) n N many e)), μ') ∧ Fr (Mat t) μ μ' ∧ MRv μ' n B (xOld (tx B) n N many e) t := by
  have T := H.1
  have hn' := H.isName
  cases hn : lxN (tx B) n e with
  | none =>
    rw [hn] at hn'
    obtain ⟨μ1, e1, F1, H1⟩ := n_fails (w := 2) H h0 (by decide)
    refine ⟨μ1, ?_, F1.wide (fun _ _ x => Or.inl x), by rw [xOld_0 hn]; exact H1⟩
    rw [xOld_0 hn, f_X12_oldOne, T.1.v133, o_bind, hn', o_call, if_pos (show bI (none : Option (List Nat)).isSome = 0 from (by decide : bI false = 0)), T.1.v133, o_bind, show (2 : Int32) = Int32.ofNat 2 from rfl, e1, o_call, o_bI]; rfl
  | some l =>
    rw [hn] at hn'
    have nb := H.find hn hb hN
    have Ca : CX (dtSI μ 134 t (oN (fnd N l many 0))) := T.1.SI
    have la : opLI 1 (dtSI μ 134 t (oN (fnd N l many 0))) 134 (Int32.ofNat t) = some (oN (fnd N l many 0)) := by rw [o_LI Ca.s134 ht (by decide), m_I_SI, if_pos ⟨rfl, rfl⟩]
    have st : f_X12_oldOne 133 (Int32.ofNat base) (Int32.ofNat many) (Int32.ofNat t) μ = if oN (fnd N l many 0) = (-1 : Int32) then (opCall (f_X12_fails 133 (3 : Int32) (dtSI μ 134 t (oN (fnd N l many 0)))) fun x29 μ27 => opRet x29 μ27) else ((f_X12_ahead 133 (dtSI μ 134 t (oN (fnd N l many 0)))).bind fun μ24 => opRet (1 : Int32) μ24) := by
      rw [f_X12_oldOne, T.1.v133, o_bind, hn', o_call, if_neg (show ¬ bI (some l).isSome = 0 from (by decide : ¬ bI true = 0)), T.1.g133_0, o_bind, T.1.v133, o_bind, nb, o_call, o_SI T.1.s134 ht (by decide), o_bind, Ca.g133_0, o_bind, la, o_bind, Ca.v133, o_bind, o_bind]
    have Ha : MTk (dtSI μ 134 t (oN (fnd N l many 0))) n B e := H.at4
    have F0 : Fr (Mat t) μ (dtSI μ 134 t (oN (fnd N l many 0))) := Fr.SI (Or.inr ⟨rfl, rfl⟩)
    rw [st]
    cases hf : fnd N l many 0 with
    | none =>
      rw [hf] at Ha F0
      obtain ⟨μ1, e1, F1, H1⟩ := n_fails (w := 3) Ha (h0.at4) (by decide)
      refine ⟨μ1, ?_, F0.tr (F1.wide (fun _ _ x => Or.inl x)), by rw [xOld_1 hn hf]; exact H1⟩
      rw [xOld_1 hn hf, if_pos (show oN none = (-1 : Int32) from rfl), show (3 : Int32) = Int32.ofNat 3 from rfl, e1, o_call, o_bI]; rfl
    | some i =>
      have hi := fnd_lt many 0 i hf
      rw [hf] at Ha F0
      obtain ⟨μ1, e1, F1, H1⟩ := Ha.adv
      refine ⟨μ1, ?_, F0.tr (F1.wide (fun _ _ x => Mtk.a x)), by
        rw [xOld_2 hn hf]
        refine ⟨?_, H1, (h0.at4).tk F1⟩
        rw [F1.i (fun x => by
          have y : 134 = 133 ∧ 12 ≤ t ∧ t ≤ 15 := x
          omega), m_I_SI, if_pos ⟨rfl, rfl⟩]; rfl⟩
      rw [xOld_2 hn hf, if_neg (show ¬ oN (some i) = (-1 : Int32) by
        show ¬ Int32.ofNat i = (-1 : Int32)
        rw [show (-1 : Int32) = -Int32.ofNat 1 from rfl, z_neg (by omega)]; exact id), e1, o_bind, show (1 : Int32) = Int32.ofNat 1 from rfl, o_ret1']; rfl
