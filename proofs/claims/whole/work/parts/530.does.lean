/-! PURE 70: a step of the days, the model -/
abbrev Mru : Nat → Nat → Prop := fun k j => P134 k j ∨ k = 142 ∨ k = 152 ∨ k = 151 ∨ (k = 133 ∧ (j = 34 ∨ j = 35))
theorem MU.mh {μ : dtM} {A : aH} {Q : aQ} (H : MU μ A Q) : MH μ 0 0 A := H.2.1
theorem MU.c {μ : dtM} {A : aH} {Q : aQ} (H : MU μ A Q) : CX μ := H.1
abbrev Mr0 : Nat → Nat → Prop := fun k j => P134 k j ∨ k = 142
theorem Mr0.w {k j : Nat} (x : Mr0 k j) : Mru k j := x.elim (fun y => Or.inl y) (fun y => Or.inr (Or.inl y))
theorem MU.hou {μ μ' : dtM} {A A' : aH} {Q : aQ} (H : MU μ A Q) (F : Fr Mr0 μ μ') (H' : MH μ' 0 0 A') : MU μ' A' Q := by
  obtain ⟨C, _, ⟨a1, a2⟩, ⟨b0, b1, b2, b3, b4⟩, L⟩ := H
  have n : ∀ k j, ¬ k = 134 → ¬ k = 142 → ¬ Mr0 k j := fun k j h1 h2 x => x.elim (fun y => h1 y.1) h2
  refine ⟨C.kept F, H', ⟨?_, ?_⟩, ⟨?_, ?_, ?_, ?_, ?_⟩, L.kept F (fun j => n 151 j (by decide) (by decide))⟩
  · rw [F.i (n _ _ (by decide) (by decide))]; exact a1
  · rw [F.i (n _ _ (by decide) (by decide))]; exact a2
  · rw [F.i (n _ _ (by decide) (by decide))]; exact b0
  · rw [F.i (n _ _ (by decide) (by decide))]; exact b1
  · rw [F.i (n _ _ (by decide) (by decide))]; exact b2
  · rw [F.i (n _ _ (by decide) (by decide))]; exact b3
  · rw [F.i (n _ _ (by decide) (by decide))]; exact b4
theorem n_isOp {μ : dtM} {A : aH} (HH : MH μ 0 0 A) {d : Nat} (hd : d < hs A 1) : f_X12_isOpen 133 (Int32.ofNat d) μ = some (bI ((hs A 5).testBit d), μ) := HH.isOpen (by have := HH.nd; omega)
/-- the tally of a run: cell 152 -/
theorem MU.tal {μ : dtM} {A : aH} {Q Q' : aQ} (H : MU μ A Q) {μ' : dtM} (F : Fr (fun k _ => k = 152) μ μ') (q : Q'.1.1 = Q.1.1 ∧ Q'.1.2.1 = Q.1.2.1 ∧ ql Q' = ql Q) (c : dtI μ' 152 0 = Int32.ofNat (qm Q') ∧ dtI μ' 152 1 = Int32.ofNat (qk Q') ∧ dtI μ' 152 2 = Int32.ofNat (qc Q') ∧ dtI μ' 152 3 = Int32.ofNat (qp Q') ∧ dtI μ' 152 4 = Int32.ofNat 0) : MU μ' A Q' := by
  obtain ⟨C, M, ⟨a1, a2⟩, _, L⟩ := H
  refine ⟨C.kept F, M.keptAt F (by intros; omega) (by intros; omega), ⟨?_, ?_⟩, c, ?_⟩
  · rw [F.i (by omega), a1]
    show Int32.ofNat Q.1.1 = Int32.ofNat Q'.1.1
    rw [q.1]
  · rw [F.i (by omega), a2]
    show Int32.ofNat Q.1.2.1 = Int32.ofNat Q'.1.2.1
    rw [q.2.1]
  · rw [q.2.2]; exact L.kept F (by intros; omega)
theorem n_counts {μ : dtM} {A : aH} {Q : aQ} (H : MU μ A Q) {set : Nat} (hs' : set < 1024) : ∃ μ', f_X12_counts 133 (Int32.ofNat set) μ = some μ' ∧ Fr Mru μ μ' ∧ MU μ' A (qShut Q (pc set)) := by
  have C := H.c
  have hc := H.2.2.2.1
  have C1 : CX (dtSI μ 152 1 (Int32.ofNat (qk Q + 1))) := C.SI
  have F : Fr (fun k _ => k = 152) μ (dtSI (dtSI μ 152 1 (Int32.ofNat (qk Q + 1))) 152 2 (Int32.ofNat (qc Q + pc set))) := (Fr.SI (P := fun k _ => k = 152) rfl).tr (Fr.SI rfl)
  have g1 : opLI 1 μ 152 (Int32.ofNat 1) = some (Int32.ofNat (qk Q)) := by rw [o_LI C.s152 (by decide) (by decide), hc.2.1]
  have g2 : opLI 1 (dtSI μ 152 1 (Int32.ofNat (qk Q + 1))) 152 (Int32.ofNat 2) = some (Int32.ofNat (qc Q)) := by rw [o_LI C1.s152 (by decide) (by decide), m_I_SI, if_neg (by decide), hc.2.2.1]
  refine ⟨_, ?_, F.wide (fun k j x => Or.inr (Or.inr (Or.inl x))), H.tal F ⟨rfl, rfl, rfl⟩ ⟨?_, ?_, ?_, ?_, ?_⟩⟩
  · rw [f_X12_counts, C.g133_37, o_bind, show (1 : Int32) = Int32.ofNat 1 from rfl, show (2 : Int32) = Int32.ofNat 2 from rfl, g1, o_bind, z_add, o_SI C.s152 (by decide) (by decide), o_bind, C1.g133_37, o_bind, g2, o_bind, f_bits hs', o_call, z_add, o_SI C1.s152 (by decide) (by decide), o_bind]
  · rw [m_I_SI, if_neg (by decide), m_I_SI, if_neg (by decide)]; exact hc.1
  · rw [m_I_SI, if_neg (by decide), m_I_SI, if_pos ⟨rfl, rfl⟩]; rfl
  · rw [m_I_SI, if_pos ⟨rfl, rfl⟩]; rfl
  · rw [m_I_SI, if_neg (by decide), m_I_SI, if_neg (by decide)]; exact hc.2.2.2.1
  · rw [m_I_SI, if_neg (by decide), m_I_SI, if_neg (by decide)]; exact hc.2.2.2.2
theorem xor_or {O d : Nat} (h : O.testBit d = false) : O ^^^ 2 ^ d = O ||| 2 ^ d := by
  apply Nat.eq_of_testBit_eq
  intro i
  rw [Nat.testBit_xor, Nat.testBit_or, Nat.testBit_two_pow]
  by_cases e : d = i
  · subst e; rw [h, decide_eq_true rfl]; rfl
  · rw [decide_eq_false e, Bool.xor_false, Bool.or_false]
theorem sh_bit {d : Nat} (hd : d < 10) : (Int32.ofNat 1) <<< (Int32.ofNat d &&& 31) = Int32.ofNat (2 ^ d) := by
  have h : d = 0 ∨ d = 1 ∨ d = 2 ∨ d = 3 ∨ d = 4 ∨ d = 5 ∨ d = 6 ∨ d = 7 ∨ d = 8 ∨ d = 9 := by omega
  rcases h with rfl | rfl | rfl | rfl | rfl | rfl | rfl | rfl | rfl | rfl <;> decide
theorem n_blow41 {μ : dtM} {A : aH} {d : Nat} (H : MH μ 0 0 A) (C : CX μ) (hd : d < hs A 1) : f_X12_blows_41 133 (Int32.ofNat d) μ = some (bI true, dtSI μ 134 5 (Int32.ofNat (hs A 5 ^^^ 2 ^ d))) ∧ MH (dtSI μ 134 5 (Int32.ofNat (hs A 5 ^^^ 2 ^ d))) 0 0 (hUs A 5 (hs A 5 ^^^ 2 ^ d)) := by
  have hnd := H.nd
  have g5 : opLI 1 μ 134 (Int32.ofNat 5) = some (Int32.ofNat (hs A 5)) := H.gj (by decide)
  refine ⟨?_, H.setS (Or.inr ⟨rfl, Nat.xor_lt_two_pow H.2.2.1.2.2.2.2.2 (Nat.pow_lt_pow_right (by decide) hd)⟩)⟩
  rw [f_X12_blows_41, C.g133_0, o_bind, show (5 : Int32) = Int32.ofNat 5 from rfl, g5, o_bind, show (1 : Int32) = Int32.ofNat 1 from rfl, sh_bit (by omega), z_xor, o_SI C.s134 (by decide) (by decide), o_bind, o_ret1']
theorem n_draw {μ : dtM} {A : aH} {Q : aQ} (H : MU μ A Q) (hq : qd Q < 65536) (hd : 0 < hs A 1) : ∃ μ', f_X12_draw 133 (Int32.ofNat (hs A 1)) μ = some (Int32.ofNat (drN A Q), μ') ∧ Fr Mru μ μ' ∧ MU μ' A (qDraw Q (drV Q)) := by
  have hnd := H.mh.nd
  have hv : (qd Q * 3221 + 11449) % 65536 < 65536 := Nat.mod_lt _ (by decide)
  have ev : drV Q = (qd Q * 3221 + 11449) % 65536 := by unfold drV; rfl
  unfold drN
  rw [ev]
  generalize hx : (qd Q * 3221 + 11449) % 65536 = v at hv
  obtain ⟨C, M, ⟨a1, a2⟩, c, L⟩ := H
  have Fk : Fr (fun k j => k = 133 ∧ j = 34) μ (dtSI μ 133 34 (Int32.ofNat v)) := Fr.SI ⟨rfl, rfl⟩
  have C1 := C.kept Fk
  refine ⟨_, ?_, Fk.wide (fun k j x => Or.inr (Or.inr (Or.inr (Or.inr ⟨x.1, Or.inl x.2⟩)))), C1, M.keptAt Fk (by intros; omega) (by intros; omega), ⟨?_, ?_⟩, ⟨?_, ?_, ?_, ?_, ?_⟩, L.kept Fk (by intros; omega)⟩
  · rw [f_X12_draw, o_GI C.s133, o_bind, a1, show (3221 : Int32) = Int32.ofNat 3221 from rfl, show (11449 : Int32) = Int32.ofNat 11449 from rfl, show (65536 : Int32) = Int32.ofNat 65536 from rfl, z_mul, z_add, z_rem (by omega) (by decide), hx, o_bind, o_PI C.s133, o_bind, o_GI C1.s133, o_bind, m_I_SI, if_pos ⟨rfl, rfl⟩, show (8 : Int32) = Int32.ofNat 8 from rfl, z_div (by omega) (by decide), o_bind, z_rem (by omega) (by omega), o_bind]
  · rw [m_I_SI, if_pos ⟨rfl, rfl⟩]; rfl
  · rw [Fk.i (by omega)]; exact a2
  · rw [Fk.i (by omega)]; exact c.1
  · rw [Fk.i (by omega)]; exact c.2.1
  · rw [Fk.i (by omega)]; exact c.2.2.1
  · rw [Fk.i (by omega)]; exact c.2.2.2.1
  · rw [Fk.i (by omega)]; exact c.2.2.2.2
theorem n_blows {μ : dtM} {A : aH} {Q : aQ} (H : MU μ A Q) (hq : qd Q < 65536) : ∃ μ', f_X12_blows 133 μ = some (bI (!decide (hs A 1 = 0)), μ') ∧ Fr Mru μ μ' ∧ MU μ' (if hs A 1 = 0 then A else if (hs A 5).testBit (drN A Q) = true then hSn A (drN A Q) 0 (hSet A (drN A Q) 0 (-Int32.ofNat 1)) else hOp A (drN A Q)) (if hs A 1 = 0 then Q else if (hs A 5).testBit (drN A Q) = true then qShut (qDraw Q (drV Q)) (pc (hSet A (drN A Q) 0 (-Int32.ofNat 1))) else qDraw Q (drV Q)) := by
  have C := H.c
  have M := H.mh
  have hnd := M.nd
  have g1 : opLI 1 μ 134 (Int32.ofNat 1) = some (Int32.ofNat (hs A 1)) := M.gj (by decide)
  by_cases q : hs A 1 = 0
  · refine ⟨μ, ?_, Fr.rf, by rw [if_pos q, if_pos q]; exact H⟩
    rw [f_X12_blows, C.g133_0, o_bind, show (1 : Int32) = Int32.ofNat 1 from rfl, g1, o_bind, q, if_pos (by decide), show (0 : Int32) = Int32.ofNat 0 from rfl, o_ret0']; rfl
  · obtain ⟨μ1, e1, F1, H1⟩ := n_draw H hq (by omega)
    have hd : drN A Q < hs A 1 := Nat.mod_lt _ (by omega)
    have C1 := H1.c
    have M1 := H1.mh
    have st : f_X12_blows 133 μ = if bI ((hs A 5).testBit (drN A Q)) = 0 then f_X12_blows_41 133 (Int32.ofNat (drN A Q)) μ1 else opCall (f_X12_sounds 133 (Int32.ofNat (drN A Q)) (0 : Int32) (-1 : Int32) μ1) fun x26 μ24 => (opRv 12 μ24 133).bind fun _ => (f_X12_counts 133 x26 μ24).bind fun μ28 => f_X12_blows_41 133 (Int32.ofNat (drN A Q)) μ28 := by
      rw [f_X12_blows, C.g133_0, o_bind, show (1 : Int32) = Int32.ofNat 1 from rfl, g1, o_bind, if_neg (show ¬ Int32.ofNat (hs A 1) = 0 by rw [show (0 : Int32) = Int32.ofNat 0 from rfl, z_eq (by omega) (by decide)]; exact q), o_bind, g1, o_bind, C.v133, o_bind, e1, o_call, C1.v133, o_bind, n_isOp M1 hd, o_call, C1.v133, o_bind]
    rw [if_neg q, if_neg q, decide_eq_false q]
    cases hb : (hs A 5).testBit (drN A Q)
    · obtain ⟨e2, M2⟩ := n_blow41 M1 C1 hd
      rw [xor_or hb] at e2 M2
      have F2 : Fr Mr0 μ1 (dtSI μ1 134 5 (Int32.ofNat (hs A 5 ||| 2 ^ drN A Q))) := Fr.SI (Or.inl ⟨rfl, by decide, by decide⟩)
      refine ⟨_, ?_, F1.tr (F2.wide (fun k j x => Mr0.w x)), H1.hou F2 M2⟩
      rw [st, hb, if_pos (by decide), e2]; rfl
    · obtain ⟨μ2, e2, F2, M2⟩ := M1.sounds C1.mLs (d := drN A Q) (s := 0) (mk := -Int32.ofNat 1) (by decide) hd
      have H2 := H1.hou F2 M2
      have hl := hSet_lt M.2.2 (d := drN A Q) (s := 0) (mk := -Int32.ofNat 1)
      obtain ⟨μ3, e3, F3, H3⟩ := n_counts H2 (set := hSet A (drN A Q) 0 (-Int32.ofNat 1)) (by omega)
      have hd3 : drN A Q < hs (hMd (fo (hC1 (hSet A (drN A Q) 0 (-Int32.ofNat 1)) 0) (hs A 3) 0 A)) 1 := by
        show drN A Q < hs (fo (hC1 (hSet A (drN A Q) 0 (-Int32.ofNat 1)) 0) (hs A 3) 0 A) 1
        rw [fo_s]; exact hd
      obtain ⟨e4, M4⟩ := n_blow41 H3.mh H3.c hd3
      have e5 : hs (hMd (fo (hC1 (hSet A (drN A Q) 0 (-Int32.ofNat 1)) 0) (hs A 3) 0 A)) 5 = hs A 5 := by
        show hs (fo (hC1 (hSet A (drN A Q) 0 (-Int32.ofNat 1)) 0) (hs A 3) 0 A) 5 = hs A 5
        exact fo_s _ _ _
      have F4 : Fr Mr0 μ3 (dtSI μ3 134 5 (Int32.ofNat (hs (hMd (fo (hC1 (hSet A (drN A Q) 0 (-Int32.ofNat 1)) 0) (hs A 3) 0 A)) 5 ^^^ 2 ^ drN A Q))) := Fr.SI (Or.inl ⟨rfl, by decide, by decide⟩)
      have C2 := H2.c
      refine ⟨_, ?_, ((F1.tr (F2.wide (fun k j x => Mr0.w x))).tr F3).tr (F4.wide (fun k j x => Mr0.w x)), ?_⟩
      · have e2' : f_X12_sounds 133 (Int32.ofNat (drN A Q)) (0 : Int32) (-1 : Int32) μ1 = some (Int32.ofNat (hSet A (drN A Q) 0 (-Int32.ofNat 1)), μ2) := e2
        rw [st, hb, if_neg (by decide), e2', o_call, C2.v133, o_bind, e3, o_bind, e4]; rfl
      · have M5 := H3.hou F4 M4
        have e6 : hSn A (drN A Q) 0 (hSet A (drN A Q) 0 (-Int32.ofNat 1)) = hUs (hMd (fo (hC1 (hSet A (drN A Q) 0 (-Int32.ofNat 1)) 0) (hs A 3) 0 A)) 5 (hs (hMd (fo (hC1 (hSet A (drN A Q) 0 (-Int32.ofNat 1)) 0) (hs A 3) 0 A)) 5 ^^^ 2 ^ drN A Q) := by
          unfold hSn
          rw [if_neg (by decide)]
          unfold hSh
          rw [e5, andnot_in hb]
        rw [if_pos rfl, if_pos rfl, e6]
        exact M5
/-- what the model reads of a step -/
theorem MD.g {μ : dtM} {D : aD} (H : MD μ 0 D) (C : CX μ) (h1 : D.1 = 1) (h60 : dLen D ≤ 60) {k : Nat} (hk : k < dLen D) : (∀ t, t < 6 → opLI 1 μ 134 (Int32.ofNat (136 + 6 * k + t)) = some (dtI μ 134 (0 + 136 + 6 * k + t))) ∧ mdE μ 0 D k :=
  ⟨fun t ht => by rw [o_LI C.s134 (by omega) (by decide), show 0 + 136 + 6 * k + t = 136 + 6 * k + t by omega], (H.2 h1).2 k hk⟩
theorem n_does {μ : dtM} {A : aH} {D : aD} {Q : aQ} (H : MU μ A Q) (HD : MD μ 0 D) (W : dWF A D) (h1 : D.1 = 1) (hq : qd Q < 65536) {k : Nat} (hk : k < dLen D) : ∃ μ', f_X12_does 133 (Int32.ofNat (136 + 6 * k)) μ = some (bI (doK A D k Q).1, μ') ∧ Fr Mru μ μ' ∧ MU μ' (doK A D k Q).2.1 (doK A D k Q).2.2 := by
  have C := H.c
  have M := H.mh
  obtain ⟨h60, dk⟩ := W.2 h1
  obtain ⟨c0, c1, c2, c3, c4, c5, c6, c7⟩ := dk k hk
  obtain ⟨L, E⟩ := HD.g C h1 h60 hk
  obtain ⟨e0, e1, e2, e3, e4, e5, e6⟩ := E
  have hnd := M.nd
  have hnp := M.np
  have st : f_X12_does 133 (Int32.ofNat (136 + 6 * k)) μ = (if Int32.ofNat (mKd (dd D 0 k) (dd D 4 k)) = 6 then (f_X12_does_107 133 (dtI μ 134 (0 + 136 + 6 * k + 1)) (dtI μ 134 (0 + 136 + 6 * k + 2)) μ) else if Int32.ofNat (mKd (dd D 0 k) (dd D 4 k)) = 15 then (f_X12_does_92 133 (Int32.ofNat (136 + 6 * k)) (dtI μ 134 (0 + 136 + 6 * k + 1)) (dtI μ 134 (0 + 136 + 6 * k + 2)) μ) else if Int32.ofNat (mKd (dd D 0 k) (dd D 4 k)) = 16 then (f_X12_does_114 133 (dtI μ 134 (0 + 136 + 6 * k + 1)) (dtI μ 134 (0 + 136 + 6 * k + 2)) μ) else if Int32.ofNat (mKd (dd D 0 k) (dd D 4 k)) = 17 then (f_X12_does_121 133 (dtI μ 134 (0 + 136 + 6 * k + 1)) μ) else if Int32.ofNat (mKd (dd D 0 k) (dd D 4 k)) = 18 then (f_X12_does_135 133 μ) else f_X12_does_140 μ) := by
    have l0 : opLI 1 μ 134 (Int32.ofNat (136 + 6 * k)) = some (Int32.ofNat (mKd (dd D 0 k) (dd D 4 k))) := (L 0 (by decide)).trans (congrArg some e0)
    rw [f_X12_does, C.g133_0, o_bind, show (1 : Int32) = Int32.ofNat 1 from rfl, show (2 : Int32) = Int32.ofNat 2 from rfl, z_add, z_add, L 1 (by decide), o_bind, o_bind, L 2 (by decide), o_bind, o_bind, l0, o_bind]
  rw [st]
  unfold doK
  rcases c0 with x | x | x | x | x | x | x | x | x
  · have hp := c1 (Or.inr (Or.inl x))
    have hd := c2 (Or.inr (Or.inl x))
    have v1 := e1 (Or.inr (Or.inl x))
    have v2 := e2 (Or.inr (Or.inl x))
    obtain ⟨μ', e, F, M'⟩ := M.opens hp hd
    have mk : mKd (dd D 0 k) (dd D 4 k) = 6 := by rw [x]; rfl
    refine ⟨μ', ?_, F.wide (fun k j y => Or.inl y), ?_⟩
    · rw [mk, if_pos (by decide), v1, v2, f_X12_does_107, C.v133, o_bind, e, o_call, o_bI, x, if_neg (by decide), if_pos rfl]
      cases hb : (hAt A (dd D 1 k) (dd D 2 k) && !(hs A 5).testBit (dd D 2 k))
      · rw [if_neg (by decide)]
      · rw [if_pos rfl]
    · have H' := H.hou (F.wide (fun k j y => Or.inl y)) M'
      rw [x, if_neg (by decide), if_pos rfl]
      cases hb : (hAt A (dd D 1 k) (dd D 2 k) && !(hs A 5).testBit (dd D 2 k))
      · rw [hb, if_neg (by decide)] at H'
        rw [if_neg (by decide)]; exact H'
      · rw [hb, if_pos rfl] at H'
        rw [if_pos rfl]; exact H'
  · have hp := c1 (Or.inl x)
    have hd := c2 (Or.inl x)
    have h4 := c3 x
    have v1 := e1 (Or.inl x)
    have v2 := e2 (Or.inl x)
    have v3 := e4 x
    have mk : mKd (dd D 0 k) (dd D 4 k) = 15 := by rw [x]; rfl
    have l3 : opLI 1 μ 134 (Int32.ofNat (136 + 6 * k + 3)) = some (Int32.ofNat (dd D 3 k)) := (L 3 (by decide)).trans (congrArg some v3)
    obtain ⟨μ1, e, F, M'⟩ := M.closes C.mLs hp h4 hd
    have H' := H.hou F M'
    have C1 := H'.c
    have hl := hSet_lt M.2.2 (d := dd D 2 k) (s := dd D 3 k) (mk := Int32.ofNat (dd D 1 k))
    have st2 : f_X12_does 133 (Int32.ofNat (136 + 6 * k)) μ = opCall (f_X12_closesBy 133 (Int32.ofNat (dd D 1 k)) (Int32.ofNat (dd D 2 k)) (Int32.ofNat (dd D 3 k)) μ) fun x8 μ6 => opRet x8 μ6 := by
      rw [st, mk, if_neg (by decide), if_pos (by decide), v1, v2, f_X12_does_92, C.g133_0, o_bind, show (3 : Int32) = Int32.ofNat 3 from rfl, z_add, l3, o_bind, C.v133, o_bind]
    rw [← st, x, if_pos rfl]
    cases hb : (hAt A (dd D 1 k) (dd D 2 k) && (hs A 5).testBit (dd D 2 k))
    · rw [if_neg (by decide)]
      unfold hCl1 at H'
      rw [hb, if_neg (by decide)] at H' e
      refine ⟨μ1, ?_, F.wide (fun k j y => Mr0.w y), H'⟩
      rw [st2, f_X12_closesBy, C.v133, o_bind, e, o_call, if_pos (by decide), show (0 : Int32) = Int32.ofNat 0 from rfl, o_ret0', o_call, o_bI]
    · rw [if_pos rfl]
      unfold hCl1 at H'
      rw [hb, if_pos rfl] at H' e
      obtain ⟨μ2, e2, F2, H2⟩ := n_counts H' (set := hSet A (dd D 2 k) (dd D 3 k) (Int32.ofNat (dd D 1 k))) (by omega)
      refine ⟨μ2, ?_, (F.wide (fun k j y => Mr0.w y)).tr F2, H2⟩
      rw [st2, f_X12_closesBy, C.v133, o_bind, e, o_call, if_neg (show ¬ Int32.ofNat (hSet A (dd D 2 k) (dd D 3 k) (Int32.ofNat (dd D 1 k))) = (-1 : Int32) by rw [show (-1 : Int32) = -Int32.ofNat 1 from rfl, z_neg (by omega)]; exact id), C1.v133, o_bind, e2, o_bind, show (1 : Int32) = Int32.ofNat 1 from rfl, o_ret1', o_call, o_bI]
  · have hp := c1 (Or.inr (Or.inr (Or.inl x)))
    have hd := c2 (Or.inr (Or.inr x))
    have v1 := e1 (Or.inr (Or.inr (Or.inl x)))
    have v2 := e2 (Or.inr (Or.inr (Or.inl x)))
    have mk : mKd (dd D 0 k) (dd D 4 k) = 16 := by rw [x]; rfl
    obtain ⟨μ1, e, F, M'⟩ := M.goes hp hd
    have F' : Fr Mr0 μ μ1 := F.wide (fun k j y => Or.inl y)
    have H' := H.hou F' M'
    have C1 := H'.c
    have st2 : f_X12_does 133 (Int32.ofNat (136 + 6 * k)) μ = opCall (f_X12_goesBy 133 (Int32.ofNat (dd D 1 k)) (Int32.ofNat (dd D 2 k)) μ) fun x4 μ2 => opRet x4 μ2 := by
      rw [st, mk, if_neg (by decide), if_neg (by decide), if_pos (by decide), v1, v2, f_X12_does_114, C.v133, o_bind]
    rw [← st, x, if_neg (by decide), if_neg (by decide), if_pos rfl]
    cases hb : (hAt A (dd D 1 k) (dd D 2 k) && (hs A 5).testBit (dd D 2 k))
    · rw [if_neg (by decide)]
      rw [hb, if_neg (by decide)] at H'
      rw [hb] at e
      refine ⟨μ1, ?_, F'.wide (fun k j y => Mr0.w y), H'⟩
      rw [st2, f_X12_goesBy, C.v133, o_bind, e, o_call, if_pos (by decide), show (0 : Int32) = Int32.ofNat 0 from rfl, o_ret0', o_call, o_bI]
    · rw [if_pos rfl]
      rw [hb, if_pos rfl] at H'
      rw [hb] at e
      have hc := H'.2.2.2.1
      have F2 : Fr (fun k _ => k = 152) μ1 (dtSI μ1 152 3 (Int32.ofNat (qp Q + 1))) := Fr.SI rfl
      have g3 : opLI 1 μ1 152 (Int32.ofNat 3) = some (Int32.ofNat (qp Q)) := by rw [o_LI C1.s152 (by decide) (by decide), hc.2.2.2.1]
      refine ⟨dtSI μ1 152 3 (Int32.ofNat (qp Q + 1)), ?_, (F'.wide (fun k j y => Mr0.w y)).tr (F2.wide (fun k j y => Or.inr (Or.inr (Or.inl y)))), H'.tal F2 ⟨rfl, rfl, rfl⟩ ⟨?_, ?_, ?_, ?_, ?_⟩⟩
      · rw [st2, f_X12_goesBy, C.v133, o_bind, e, o_call, if_neg (by decide), C1.g133_37, o_bind, show (3 : Int32) = Int32.ofNat 3 from rfl, g3, o_bind, show (1 : Int32) = Int32.ofNat 1 from rfl, z_add, o_SI C1.s152 (by decide) (by decide), o_bind, o_ret1', o_call, o_bI]
      · rw [m_I_SI, if_neg (by decide)]; exact hc.1
      · rw [m_I_SI, if_neg (by decide)]; exact hc.2.1
      · rw [m_I_SI, if_neg (by decide)]; exact hc.2.2.1
      · rw [m_I_SI, if_pos ⟨rfl, rfl⟩]; rfl
      · rw [m_I_SI, if_neg (by decide)]; exact hc.2.2.2.2
  · have hp := c1 (Or.inr (Or.inr (Or.inr (Or.inl x))))
    have v1 := e1 (Or.inr (Or.inr (Or.inr (Or.inl x))))
    have mk : mKd (dd D 0 k) (dd D 4 k) = 17 := by rw [x]; rfl
    have h8 := (M.pers hp).2.2.2.1
    obtain ⟨μ1, e, F, M'⟩ := M.forgets hp
    have F' : Fr Mr0 μ μ1 := F.wide (fun k j y => Or.inl y)
    have H' := H.hou F' M'
    have st2 : f_X12_does 133 (Int32.ofNat (136 + 6 * k)) μ = if Int32.ofNat (ht A 11 (dd D 1 k)) ≤ 0 then (f_X12_does_134 (0 : Int32) μ1) else (f_X12_does_134 (1 : Int32) μ1) := by
      rw [st, mk, if_neg (by decide), if_neg (by decide), if_neg (by decide), if_pos (by decide), v1, f_X12_does_121, C.v133, o_bind, e, o_call]
    rw [← st, st2, x, if_neg (show ¬ (17 : Nat) = 15 by decide), if_neg (show ¬ (17 : Nat) = 4 by decide), if_neg (show ¬ (17 : Nat) = 16 by decide), if_pos (show (17 : Nat) = 17 from rfl)]
    by_cases q : ht A 11 (dd D 1 k) = 0
    · refine ⟨μ1, ?_, F'.wide (fun k j y => Mr0.w y), ?_⟩
      · rw [if_pos q, q, if_pos (by decide), f_X12_does_134, show (0 : Int32) = Int32.ofNat 0 from rfl, o_ret0']
      · rw [if_pos q]
        rw [hUt_same q] at H'
        exact H'
    · refine ⟨μ1, ?_, F'.wide (fun k j y => Mr0.w y), ?_⟩
      · rw [if_neg q, if_neg (show ¬ Int32.ofNat (ht A 11 (dd D 1 k)) ≤ 0 by rw [show (0 : Int32) = Int32.ofNat 0 from rfl, z_le (by omega) (by decide)]; omega), f_X12_does_134, show (1 : Int32) = Int32.ofNat 1 from rfl, o_ret1']
      · rw [if_neg q]; exact H'
  · have mk : mKd (dd D 0 k) (dd D 4 k) = 18 := by rw [x]; rfl
    obtain ⟨μ1, e, F, H'⟩ := n_blows H hq
    rw [mk, if_neg (by decide), if_neg (by decide), if_neg (by decide), if_neg (by decide), if_pos (by decide), f_X12_does_135, C.v133, o_bind, e, o_call, o_bI, x, if_neg (by decide), if_neg (by decide), if_neg (by decide), if_neg (by decide), if_pos rfl]
    refine ⟨μ1, ?_, F, ?_⟩
    · by_cases q : hs A 1 = 0
      · rw [if_pos q, decide_eq_true q]; rfl
      · rw [if_neg q, decide_eq_false q]
        by_cases q2 : (hs A 5).testBit (drN A Q) = true
        · rw [if_pos q2]; rfl
        · rw [if_neg q2]; rfl
    · by_cases q : hs A 1 = 0
      · rw [if_pos q, if_pos q] at H'
        rw [if_pos q]; exact H'
      · rw [if_neg q, if_neg q] at H'
        rw [if_neg q]
        by_cases q2 : (hs A 5).testBit (drN A Q) = true
        · rw [if_pos q2, if_pos q2] at H'
          rw [if_pos q2]; exact H'
        · rw [if_neg q2, if_neg q2] at H'
          rw [if_neg q2]; exact H'
  all_goals
    refine ⟨μ, ?_, Fr.rf, ?_⟩
    · have n : ∀ v, (v = 6 ∨ v = 15 ∨ v = 16 ∨ v = 17 ∨ v = 18) → ¬ Int32.ofNat (mKd (dd D 0 k) (dd D 4 k)) = Int32.ofNat v := fun v hv => by
        have : mKd (dd D 0 k) (dd D 4 k) = 1912 ∨ mKd (dd D 0 k) (dd D 4 k) = 1906 ∨ mKd (dd D 0 k) (dd D 4 k) = 1923 ∨ mKd (dd D 0 k) (dd D 4 k) = 20 ∨ mKd (dd D 0 k) (dd D 4 k) = 21 ∨ mKd (dd D 0 k) (dd D 4 k) = 22 := by
          rw [x]
          unfold mKd
          by_cases t1 : dd D 4 k = 12
          · simp [t1]
          · by_cases t2 : dd D 4 k = 4
            · simp [t2]
            · simp [t1, t2]
        rw [z_eq (by omega) (by omega)]
        omega
      rw [if_neg (show ¬ Int32.ofNat (mKd (dd D 0 k) (dd D 4 k)) = (6 : Int32) from n 6 (by decide)), if_neg (show ¬ Int32.ofNat (mKd (dd D 0 k) (dd D 4 k)) = (15 : Int32) from n 15 (by decide)), if_neg (show ¬ Int32.ofNat (mKd (dd D 0 k) (dd D 4 k)) = (16 : Int32) from n 16 (by decide)), if_neg (show ¬ Int32.ofNat (mKd (dd D 0 k) (dd D 4 k)) = (17 : Int32) from n 17 (by decide)), if_neg (show ¬ Int32.ofNat (mKd (dd D 0 k) (dd D 4 k)) = (18 : Int32) from n 18 (by decide)), f_X12_does_140, show (1 : Int32) = Int32.ofNat 1 from rfl, o_ret1', x]
      rfl
    · rw [x]; exact H
theorem n_holds {μ : dtM} {A : aH} {D : aD} (M : MH μ 0 0 A) (C : CX μ) (HD : MD μ 0 D) (W : dWF A D) (h1 : D.1 = 1) {k : Nat} (hk : k < dLen D) (x : dd D 0 k = 19) : f_X12_holds 133 (Int32.ofNat (136 + 6 * k)) μ = some (bI (holdK A D k), μ) := by
  obtain ⟨h60, dk⟩ := W.2 h1
  obtain ⟨c0, c1, c2, c3, c4, c5, c6, c7⟩ := dk k hk
  obtain ⟨L, E⟩ := HD.g C h1 h60 hk
  obtain ⟨e0, e1, e2, e3, e4, e5, e6⟩ := E
  have hnd := M.nd
  have hnr := M.nr
  have l0 : opLI 1 μ 134 (Int32.ofNat (136 + 6 * k)) = some (Int32.ofNat (mKd (dd D 0 k) (dd D 4 k))) := (L 0 (by decide)).trans (congrArg some e0)
  have l1 := L 1 (by decide)
  unfold holdK
  rcases c4 x with y | y | y
  · have mk : mKd (dd D 0 k) (dd D 4 k) = 1906 := by rw [x, y.1]; rfl
    have v1 := e3 (Or.inr ⟨x, y.1⟩)
    rw [v1] at l1
    rw [f_X12_holds, C.g133_0, o_bind, l0, o_bind, o_bind, o_bind, show (1 : Int32) = Int32.ofNat 1 from rfl, z_add, l1, o_bind, mk, if_pos (by decide), C.v133, o_bind, n_isOp M y.2, o_call, o_bI, y.1, if_pos rfl]
  · have n4 : ¬ dd D 4 k = 4 := by omega
    have hp := c1 (Or.inr (Or.inr (Or.inr (Or.inr ⟨x, n4⟩))))
    have v1 := e1 (Or.inr (Or.inr (Or.inr (Or.inr ⟨x, n4⟩))))
    have v2 := e2 (Or.inr (Or.inr (Or.inr ⟨x, n4⟩)))
    have l2 := L 2 (by decide)
    rw [v1] at l1
    rw [v2] at l2
    have h8 := (M.pers hp).1
    have po : f_X12_personOf 133 (Int32.ofNat (dd D 1 k)) (0 : Int32) μ = some (Int32.ofNat (ht A 8 (dd D 1 k)), μ) := M.personOf (k := 0) (by decide) hp
    have mk : mKd (dd D 0 k) (dd D 4 k) = 1912 := by rw [x, y.1]; rfl
    rw [f_X12_holds, C.g133_0, o_bind, l0, o_bind, o_bind, o_bind, show (1 : Int32) = Int32.ofNat 1 from rfl, z_add, l1, o_bind, mk, if_neg (by decide), if_pos (by decide), C.v133, o_bind, po, o_call, C.g133_0, o_bind, show (2 : Int32) = Int32.ofNat 2 from rfl, z_add, l2, o_bind, y.1, if_neg (show ¬ (12 : Nat) = 4 by decide), if_pos (show (12 : Nat) = 12 from rfl)]
    by_cases q : ht A 8 (dd D 1 k) = dd D 2 k
    · rw [if_pos (show Int32.ofNat (ht A 8 (dd D 1 k)) = Int32.ofNat (dd D 2 k) by rw [q]), f_X12_holds_60, o_ret1', decide_eq_true q]
    · rw [if_neg (show ¬ Int32.ofNat (ht A 8 (dd D 1 k)) = Int32.ofNat (dd D 2 k) by rw [z_eq (by omega) (by omega)]; exact q), f_X12_holds_60, show (0 : Int32) = Int32.ofNat 0 from rfl, o_ret0', decide_eq_false q]
  · have n4 : ¬ dd D 4 k = 4 := by omega
    have hp := c1 (Or.inr (Or.inr (Or.inr (Or.inr ⟨x, n4⟩))))
    have v1 := e1 (Or.inr (Or.inr (Or.inr (Or.inr ⟨x, n4⟩))))
    have v2 := e2 (Or.inr (Or.inr (Or.inr ⟨x, n4⟩)))
    have v5 := e5 ⟨x, y.1⟩
    have l2 := L 2 (by decide)
    have l5 := L 5 (by decide)
    rw [v1] at l1
    rw [v2] at l2
    rw [v5] at l5
    have h11 := (M.pers hp).2.2.2.1
    have y3 := y.2.2
    have po : f_X12_personOf 133 (Int32.ofNat (dd D 1 k)) (3 : Int32) μ = some (Int32.ofNat (ht A 11 (dd D 1 k)), μ) := M.personOf (k := 3) (by decide) hp
    have mk : mKd (dd D 0 k) (dd D 4 k) = 1923 := by rw [x, y.1]; rfl
    have hle := z_le (show dd D 2 k < 2147483648 by omega) (show ht A 11 (dd D 1 k) < 2147483648 by omega)
    have hge := z_le (show ht A 11 (dd D 1 k) < 2147483648 by omega) (show dd D 2 k < 2147483648 by omega)
    have heq := z_eq (show ht A 11 (dd D 1 k) < 2147483648 by omega) (show dd D 2 k < 2147483648 by omega)
    rw [f_X12_holds, C.g133_0, o_bind, l0, o_bind, o_bind, o_bind, show (1 : Int32) = Int32.ofNat 1 from rfl, z_add, l1, o_bind, mk, if_neg (by decide), if_neg (by decide), C.v133, o_bind, po, o_call]
    simp only [C.g133_0, o_bind, z_lit, z_add, l5, l2, f_X12_holds_155, o_ret1', o_ret0', hle, hge, heq]
    rw [y.1, if_neg (show ¬ (20 : Nat) = 4 by decide), if_neg (show ¬ (20 : Nat) = 12 by decide)]
    have c3' : dd D 3 k = 0 ∨ dd D 3 k = 1 ∨ dd D 3 k = 2 := by omega
    generalize ht A 11 (dd D 1 k) = a
    generalize dd D 2 k = b
    rcases c3' with z | z | z
    · rw [z, if_pos (show Int32.ofNat (cmpM 0) = Int32.ofNat 60 by decide), if_pos (show (0 : Nat) = 0 from rfl)]
      by_cases q : b ≤ a
      · rw [if_pos q, decide_eq_false (by omega)]
      · rw [if_neg q, decide_eq_true (by omega)]
    · rw [z, if_neg (show ¬ Int32.ofNat (cmpM 1) = Int32.ofNat 60 by decide), if_pos (show Int32.ofNat (cmpM 1) = Int32.ofNat 62 by decide), if_neg (show ¬ (1 : Nat) = 0 by decide), if_pos (show (1 : Nat) = 1 from rfl)]
      by_cases q : a ≤ b
      · rw [if_pos q, decide_eq_false (by omega)]
      · rw [if_neg q, decide_eq_true (by omega)]
    · rw [z, if_neg (show ¬ Int32.ofNat (cmpM 2) = Int32.ofNat 60 by decide), if_neg (show ¬ Int32.ofNat (cmpM 2) = Int32.ofNat 62 by decide), if_neg (show ¬ (2 : Nat) = 0 by decide), if_neg (show ¬ (2 : Nat) = 1 by decide)]
      by_cases q : a = b
      · rw [if_pos q, decide_eq_true q]
      · rw [if_neg q, decide_eq_false q]
