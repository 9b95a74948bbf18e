/-! PURE 994: the parts of a house, the model -/
abbrev MDq : Nat → Nat → Prop := fun k j => MDp k j ∨ (k = 133 ∧ j = 20)
theorem n_127 {μ : dtM} {n : Nat} {B : Nat → Int32} {r : aX ((aH × (Nat → List Nat)) × Nat)} (C : CX μ) (R : MRh μ n B r) : ∃ μ', f_X12_housePart_127 133 (bI (xOk r)) μ = some (bI (xOk (xEnd (tx B) n r)), μ') ∧ Fr Mcl μ μ' ∧ MRh μ' n B (xEnd (tx B) n r) := by
  have e144 : ∀ μ, f_X12_housePart_144 μ = some (bI false, μ) := fun μ => by rw [f_X12_housePart_144, f_X12_housePart_145, show (0 : Int32) = Int32.ofNat 0 from rfl, o_ret0']
  cases r with
  | error x =>
    refine ⟨μ, ?_, Fr.rf, R⟩
    rw [f_X12_housePart_127, if_pos (show bI (xOk (Except.error x : aX ((aH × (Nat → List Nat)) × Nat))) = 0 from (by decide : bI false = 0)), e144]; rfl
  | ok y =>
    obtain ⟨S, H, h0⟩ := R
    obtain ⟨μ1, e1, F1, R1⟩ := n_end S H h0
    refine ⟨μ1, ?_, F1, R1⟩
    rw [f_X12_housePart_127, if_neg (show ¬ bI (xOk (Except.ok y : aX ((aH × (Nat → List Nat)) × Nat))) = 0 from (by decide : ¬ bI true = 0)), C.v133, o_bind, e1, o_call]
    cases q : xOk (xEnd (tx B) n (Except.ok ((y.1.1, y.1.2), y.2))) with
    | false =>
      rw [if_pos (by decide), e144]
    | true =>
      rw [if_neg (by decide), f_X12_housePart_145, show (1 : Int32) = Int32.ofNat 1 from rfl, o_ret1']
theorem kwM_pt : ∀ k, k < 24 → (kwM.getD k 99 = 0 ↔ k = 0) ∧ (kwM.getD k 99 = 1 ↔ k = 1) ∧ (kwM.getD k 99 = 2 ↔ k = 2) ∧ (kwM.getD k 99 = 3 ↔ k = 5) ∧ (kwM.getD k 99 = 4 ↔ k = 11) := by decide
theorem MDp.fl {μ μ' : dtM} {b : Bool} (F : Fr MDp μ μ') (fl : dtI μ 133 20 = bI b) : dtI μ' 133 20 = bI b := by
  rw [F.i (fun x => by
    rcases x with x | x | x
    · have := x.2.2.1; omega
    · omega
    · omega)]
  exact fl
theorem Mcl.p {k j : Nat} (x : Mcl k j) : MDp k j := Or.inl x
theorem n_part {μ : dtM} {n e : Nat} {B : Nat → Int32} {A : aH} {wn : Nat → List Nat} {od : Bool} (S : MHN μ A wn) (Z : MZ μ A) (H : MTk μ n B e) (h0 : M0f μ) (fl : dtI μ 133 20 = bI od) : ∃ μ', f_X12_housePart 133 μ = some (bI (xOk (xEnd (tx B) n (xPart (tx B) n A wn od e))), μ') ∧ Fr MDq μ μ' ∧ MRh μ' n B (xEnd (tx B) n (xPart (tx B) n A wn od e)) ∧ (xOk (xEnd (tx B) n (xPart (tx B) n A wn od e)) = true → dtI μ' 133 20 = bI (od || decide (lxK (tx B) n e = some 0))) := by
  have C := S.1
  have Wd := H.words
  have e16 : ∃ μ', f_X12_housePart_16 133 μ = some (bI false, μ') ∧ Fr Mcl μ μ' ∧ MFl μ' (flt (tx B) n e 2) := by
    obtain ⟨μ1, e1, F1, R1⟩ := n_fails (w := 2) H h0 (by decide)
    refine ⟨μ1, ?_, F1, R1⟩
    rw [f_X12_housePart_16, C.v133, o_bind, show (2 : Int32) = Int32.ofNat 2 from rfl, e1, o_call, o_bI]
  unfold xPart
  cases hk : lxK (tx B) n e with
  | none =>
    obtain ⟨μ1, e1, F1, R1⟩ := e16
    rw [if_neg (fun x => nomatch x), if_neg (fun x => nomatch x), if_neg (fun x => nomatch x), if_neg (fun x => nomatch x), if_neg (fun x => nomatch x)]
    refine ⟨μ1, ?_, F1.wide (fun _ _ x => Or.inl (Mcl.p x)), R1, fun x => absurd x (fun y => nomatch y)⟩
    have w : oN (lxM (tx B) n e) = -Int32.ofNat 1 := by
      unfold lxM
      rw [hk]; rfl
    rw [w] at Wd
    rw [f_X12_housePart, C.v133, o_bind, Wd, o_call, if_pos (by decide), e1]; rfl
  | some k =>
    have hk24 := lxK_lt hk
    obtain ⟨p0, p1, p2, p3, p4⟩ := kwM_pt k hk24
    have kl := kwM_lt k hk24
    have w : oN (lxM (tx B) n e) = Int32.ofNat (kwM.getD k 99) := by
      unfold lxM
      rw [hk]; rfl
    rw [w] at Wd
    have ne : ∀ a, kwM.getD k 99 ≠ a → a < 100 → ¬ Int32.ofNat (kwM.getD k 99) = Int32.ofNat a := fun a h ha => by
      rw [z_eq (by omega) (by omega)]; exact h
    have sk : ∀ a, ((some k : Option Nat) = some a) = (k = a) := fun a => propext ⟨Option.some.inj, fun x => by rw [x]⟩
    have lt0 : ¬ Int32.ofNat (kwM.getD k 99) < 0 := by
      rw [show (0 : Int32) = Int32.ofNat 0 from rfl, z_lt (by omega) (by decide)]; omega
    rw [f_X12_housePart, C.v133, o_bind, Wd, o_call, if_neg lt0]
    by_cases big : 4 < kwM.getD k 99
    · obtain ⟨μ1, e1, F1, R1⟩ := e16
      rw [if_neg (Eq.mpr (congrArg Not (sk 0)) (fun x => by have := p0.mpr x; omega)), if_neg (Eq.mpr (congrArg Not (sk 1)) (fun x => by have := p1.mpr x; omega)), if_neg (Eq.mpr (congrArg Not (sk 2)) (fun x => by have := p2.mpr x; omega)), if_neg (Eq.mpr (congrArg Not (sk 5)) (fun x => by have := p3.mpr x; omega)), if_neg (Eq.mpr (congrArg Not (sk 11)) (fun x => by have := p4.mpr x; omega))]
      refine ⟨μ1, ?_, F1.wide (fun _ _ x => Or.inl (Mcl.p x)), R1, fun x => absurd x (fun y => nomatch y)⟩
      rw [if_neg (show ¬ Int32.ofNat (kwM.getD k 99) ≤ (4 : Int32) by rw [show (4 : Int32) = Int32.ofNat 4 from rfl, z_le (by omega) (by decide)]; omega), e1]; rfl
    · rw [if_pos (show Int32.ofNat (kwM.getD k 99) ≤ (4 : Int32) by rw [show (4 : Int32) = Int32.ofNat 4 from rfl, z_le (by omega) (by decide)]; omega)]
      by_cases q0 : kwM.getD k 99 = 0
      · have k0 := p0.mp q0
        subst k0
        rw [if_pos rfl, if_pos (by rw [q0]; rfl), H.1.g 20, fl, o_bind]
        unfold xOdds
        cases od with
        | true =>
          obtain ⟨μ1, e1, F1, R1⟩ := n_fails (w := 5) H h0 (by decide)
          rw [if_pos rfl, if_pos (show bI true = (1 : Int32) from rfl)]
          refine ⟨μ1, ?_, F1.wide (fun _ _ x => Or.inl (Mcl.p x)), R1, fun x => absurd x (fun y => nomatch y)⟩
          rw [C.v133, o_bind, show (5 : Int32) = Int32.ofNat 5 from rfl, e1, o_call, o_bI]; rfl
        | false =>
          have F0 : Fr (fun k j => k = 133 ∧ j = 20) μ (dtSI μ 133 20 (1 : Int32)) := Fr.SI ⟨rfl, rfl⟩
          have S0 : MHN (dtSI μ 133 20 (1 : Int32)) A wn := S.k F0 (fun j _ _ _ x => by omega) (fun r _ x => by omega) (fun r _ x => by omega) (fun r _ x => by omega)
          have C0 := S0.1
          have H0 : MTk (dtSI μ 133 20 (1 : Int32)) n B e := by
            obtain ⟨T, he, a, b, c, d, f⟩ := H
            refine ⟨T.kept F0 ⟨by omega, by intros; omega⟩, he, ?_, ?_, ?_, fun x => ?_, fun x => ?_⟩
            · rw [F0.i (by omega)]; exact a
            · rw [F0.i (by omega)]; exact b
            · rw [F0.i (by omega)]; exact c
            · rw [F0.i (by omega)]; exact d x
            · rw [F0.i (by omega)]; exact f x
          have hf0 : M0f (dtSI μ 133 20 (1 : Int32)) := by
            unfold M0f
            rw [F0.i (by omega), F0.i (by omega)]; exact h0
          obtain ⟨μ1, e1, F1, H1⟩ := H0.adv
          have h1 := hf0.tk F1
          have S1 := S0.c (F1.wide (fun _ _ x => Mtk.c x))
          obtain ⟨μ2, e2, F2, R2⟩ := n_odds S1 H1 h1
          have C1 := S1.1
          obtain ⟨μ3, e3, F3, R3⟩ := n_127 (C1.kept F2) R2
          rw [if_neg (show ¬ false = true from fun x => nomatch x), if_neg (show ¬ bI false = (1 : Int32) from (by decide : ¬ bI false = (1 : Int32)))]
          refine ⟨μ3, ?_, (F0.wide (fun _ _ x => Or.inr x)).tr ((F1.wide (fun _ _ x => Or.inl (Mcl.p (Mtk.c x)))).tr ((F2.wide (fun _ _ x => Or.inl (MDr.p x))).tr (F3.wide (fun _ _ x => Or.inl (Mcl.p x))))), R3, fun _ => ?_⟩
          · rw [f_X12_housePart_40, if_pos (by rw [q0]; rfl), o_PI C.s133, o_bind, C0.v133, o_bind, e1, o_bind, f_X12_housePart_53, if_pos (by rw [q0]; rfl), f_X12_housePart_84, C1.v133, o_bind, e2, o_call]
            exact e3
          · have f1 : dtI μ1 133 20 = bI true := by
              rw [F1.i (fun x => by have := x.2.2; omega), m_I_SI, if_pos ⟨rfl, rfl⟩]; rfl
            exact MDp.fl (F3.wide (fun _ _ x => Mcl.p x)) (MDp.fl (F2.wide (fun _ _ x => MDr.p x)) f1)
      · have k0 : ¬ k = 0 := fun x => q0 (p0.mpr x)
        have n0 := ne 0 q0 (by decide)
        rw [if_neg (Eq.mpr (congrArg Not (sk 0)) k0), if_neg (show ¬ Int32.ofNat (kwM.getD k 99) = 0 from n0), f_X12_housePart_40, if_neg (show ¬ Int32.ofNat (kwM.getD k 99) = 0 from n0), f_X12_housePart_53, if_neg (show ¬ Int32.ofNat (kwM.getD k 99) = 0 from n0), decide_eq_false (Eq.mpr (congrArg Not (sk 0)) k0), Bool.or_false]
        by_cases q1 : kwM.getD k 99 = 1
        · obtain ⟨μ1, e1, F1, R1⟩ := n_room S H h0
          obtain ⟨μ2, e2, F2, R2⟩ := n_127 (C.kept F1) R1
          rw [if_pos (Eq.mpr (sk 1) (p1.mp q1)), if_pos (by rw [q1]; rfl), f_X12_housePart_98, C.v133, o_bind, e1, o_call]
          exact ⟨μ2, e2, (F1.wide (fun _ _ x => Or.inl (MDr.p x))).tr (F2.wide (fun _ _ x => Or.inl (Mcl.p x))), R2, fun _ => MDp.fl (F2.wide (fun _ _ x => Mcl.p x)) (MDp.fl (F1.wide (fun _ _ x => MDr.p x)) fl)⟩
        · rw [if_neg (Eq.mpr (congrArg Not (sk 1)) (fun x => q1 (p1.mpr x))), if_neg (show ¬ Int32.ofNat (kwM.getD k 99) = 1 from ne 1 q1 (by decide))]
          by_cases q2 : kwM.getD k 99 = 2
          · obtain ⟨μ1, e1, F1, R1⟩ := n_door S H h0
            obtain ⟨μ2, e2, F2, R2⟩ := n_127 (C.kept F1) R1
            rw [if_pos (Eq.mpr (sk 2) (p2.mp q2)), if_pos (by rw [q2]; rfl), f_X12_housePart_106, C.v133, o_bind, e1, o_call]
            exact ⟨μ2, e2, (F1.wide (fun _ _ x => Or.inl (MDr.p x))).tr (F2.wide (fun _ _ x => Or.inl (Mcl.p x))), R2, fun _ => MDp.fl (F2.wide (fun _ _ x => Mcl.p x)) (MDp.fl (F1.wide (fun _ _ x => MDr.p x)) fl)⟩
          · rw [if_neg (Eq.mpr (congrArg Not (sk 2)) (fun x => q2 (p2.mpr x))), if_neg (show ¬ Int32.ofNat (kwM.getD k 99) = 2 from ne 2 q2 (by decide))]
            by_cases q3 : kwM.getD k 99 = 3
            · obtain ⟨μ1, e1, F1, R1⟩ := n_word S H h0
              obtain ⟨μ2, e2, F2, R2⟩ := n_127 (C.kept F1) R1
              rw [if_pos (Eq.mpr (sk 5) (p3.mp q3)), if_pos (by rw [q3]; rfl), f_X12_housePart_114, C.v133, o_bind, e1, o_call]
              exact ⟨μ2, e2, (F1.wide (fun _ _ x => Or.inl (MDr.p x))).tr (F2.wide (fun _ _ x => Or.inl (Mcl.p x))), R2, fun _ => MDp.fl (F2.wide (fun _ _ x => Mcl.p x)) (MDp.fl (F1.wide (fun _ _ x => MDr.p x)) fl)⟩
            · have q4 : kwM.getD k 99 = 4 := by omega
              obtain ⟨μ1, e1, F1, R1⟩ := n_person S Z H h0
              obtain ⟨μ2, e2, F2, R2⟩ := n_127 (C.kept F1) R1
              rw [if_neg (Eq.mpr (congrArg Not (sk 5)) (fun x => q3 (p3.mpr x))), if_neg (show ¬ Int32.ofNat (kwM.getD k 99) = 3 from ne 3 q3 (by decide)), if_pos (Eq.mpr (sk 11) (p4.mp q4)), f_X12_housePart_122, C.v133, o_bind, e1, o_call]
              exact ⟨μ2, e2, (F1.wide (fun _ _ x => Or.inl x)).tr (F2.wide (fun _ _ x => Or.inl (Mcl.p x))), R2, fun _ => MDp.fl (F2.wide (fun _ _ x => Mcl.p x)) (MDp.fl F1 fl)⟩
