/-! PURE 9998: the days' text, a step and an end, the program -/
def PRd (μ : dtM) (n : Nat) (B : Nat → Int32) (g : Nat) (r : aX (aY × Nat)) : Prop := match r with
  | .ok y => PDs μ g y.1 ∧ PTk μ 119 n B y.2
  | .error x => PFl μ 119 x
theorem xStp_n {u : Nat → Nat} {n e : Nat} {A : aH} {S : aY} (h : lxK u n e = none) : xStp u n A S e = .error (flt u n e 2) := by
  unfold xStp
  rw [h]
theorem xStp_k {u : Nat → Nat} {n e k : Nat} {A : aH} {S : aY} (h : lxK u n e = some k) : xStp u n A S e = if k = 22 then (if sN S = 0 then .error (flt u n e 2) else .ok (sEnd S, lxE u n e)) else if k = 4 ∨ k = 19 ∨ k = 21 ∨ k = 23 ∨ (15 ≤ k ∧ k ≤ 18) then xStk u n A S k e else .error (flt u n e 2) := by
  unfold xStp
  rw [h]
theorem xStp_x {u : Nat → Nat} {n e : Nat} {A : aH} {S : aY} (h : stW (lxK u n e) = false) (h22 : ¬ lxK u n e = some 22) : xStp u n A S e = .error (flt u n e 2) := by
  cases q : lxK u n e with
  | none => exact xStp_n q
  | some k =>
    rw [q] at h h22
    have h' := of_decide_eq_false (show decide (k = 4 ∨ k = 19 ∨ k = 21 ∨ k = 23 ∨ (15 ≤ k ∧ k ≤ 18)) = false from h)
    rw [xStp_k q, if_neg (fun x => h22 (by rw [x])), if_neg h']
theorem stW_k {o : Option Nat} (h : stW o = true) : ∃ k, o = some k ∧ stK k ∧ (k = 4 ∨ k = 19 ∨ k = 21 ∨ k = 23 ∨ (15 ≤ k ∧ k ≤ 18)) ∧ ¬ k = 22 := by
  cases o with
  | none => exact absurd h (fun x => nomatch x)
  | some k =>
    have h' := of_decide_eq_true (show decide (k = 4 ∨ k = 19 ∨ k = 21 ∨ k = 23 ∨ (15 ≤ k ∧ k ≤ 18)) = true from h)
    exact ⟨k, rfl, by unfold stK; omega, h', by omega⟩
theorem p_begS {μ : dtM} {n e g k : Nat} {B : Nat → Int32} {A : aH} {S : aY} (C : CX μ) (H : PTk μ 119 n B e) (hg : g = 38 ∨ g = 45) (D : PDs μ g S) (W : sWF A S) (hk : lxK (tx B) n e = some k) (st : stW (some k) = true) : ∃ μ' v, f_X1_beginStep 118 g μ = some (v, μ') ∧ Fr (Pst g) μ μ' ∧ ((sC S = 30 ∧ v = -Int32.ofNat 1 ∧ PFl μ' 119 (flt (tx B) n e 6)) ∨ (¬ sC S = 30 ∧ (nst k ∧ sN S = 3) ∧ v = -Int32.ofNat 1 ∧ PFl μ' 119 (flt (tx B) n e 7)) ∨ (¬ sC S = 30 ∧ ¬ (nst k ∧ sN S = 3) ∧ v = Int32.ofNat (sL S) ∧ PDb μ' g S k ∧ PTk μ' 119 n B (lxE (tx B) n e))) := by
  have k24 := lxK_lt hk
  obtain ⟨⟨c1, c2, c3⟩, _⟩ := W
  have is := p_isStep (μ := μ) (o := some k) (fun j hj => by have := Option.some.inj hj; omega)
  rw [st] at is
  have c19 : (Int32.ofNat k = (19 : Int32)) = (k = 19) := z_kd k24 (show 19 < 24 by decide)
  have c21 : (Int32.ofNat k = (21 : Int32)) = (k = 21) := z_kd k24 (show 21 < 24 by decide)
  have g1 : opGI 0 1 μ g = some (Int32.ofNat (sC S)) := by rw [o_GI (C.dShw hg).1, D.1]
  have g2 : opGI 1 2 μ 118 = some (Int32.ofNat (sN S)) := by rw [o_GI C.s118, D.2.2.1]
  have l30 : (Int32.ofNat (sC S) < (30 : Int32)) = (sC S < 30) := z_lt (by omega) (show 30 < 2147483648 by decide)
  have l3 : (Int32.ofNat (sN S) < (3 : Int32)) = (sN S < 3) := z_lt (by omega) (show 3 < 2147483648 by decide)
  have g6 : opGI 8 6 μ 119 = some (Int32.ofNat k) := by rw [H.g6, hk]; rfl
  have b25 : ∀ s0 : Int32, f_X1_beginStep_25 118 g (Int32.ofNat k) s0 μ = if Int32.ofNat (sC S) < (30 : Int32) then (if s0 = 0 then (f_X1_beginStep_74 118 g (Int32.ofNat k) s0 (0 : Int32) μ) else (if Int32.ofNat (sN S) < (3 : Int32) then (f_X1_beginStep_74 118 g (Int32.ofNat k) s0 (0 : Int32) μ) else (f_X1_beginStep_74 118 g (Int32.ofNat k) s0 (7 : Int32) μ))) else (f_X1_beginStep_74 118 g (Int32.ofNat k) s0 (6 : Int32) μ) := fun s0 => by
    have is' : f_X1_isStepWord (Int32.ofNat k) μ = some (bI true, μ) := is
    rw [f_X1_beginStep_25, is', o_call, if_neg (by decide), g1, o_bind, g2, o_bind]
  have goal : ∀ s0 : Int32, ((s0 = 0 ∧ ¬ nst k) ∨ (s0 = 1 ∧ nst k)) → ∃ μ' v, f_X1_beginStep_25 118 g (Int32.ofNat k) s0 μ = some (v, μ') ∧ Fr (Pst g) μ μ' ∧ ((sC S = 30 ∧ v = -Int32.ofNat 1 ∧ PFl μ' 119 (flt (tx B) n e 6)) ∨ (¬ sC S = 30 ∧ (nst k ∧ sN S = 3) ∧ v = -Int32.ofNat 1 ∧ PFl μ' 119 (flt (tx B) n e 7)) ∨ (¬ sC S = 30 ∧ ¬ (nst k ∧ sN S = 3) ∧ v = Int32.ofNat (sL S) ∧ PDb μ' g S k ∧ PTk μ' 119 n B (lxE (tx B) n e))) := fun s0 h0 => by
    rw [b25]
    by_cases a : sC S < 30
    · rw [if_pos (Eq.mpr l30 a)]
      by_cases b : nst k ∧ sN S = 3
      · have z : s0 = 1 := by
          rcases h0 with h0 | h0
          · exact absurd b.1 h0.2
          · exact h0.1
        obtain ⟨μ1, e1, F1, R1⟩ := p_74f (g := g) (w := 7) (x := Int32.ofNat k) (s0 := s0) C H (by decide)
        refine ⟨μ1, _, ?_, F1.wide (fun _ _ x => Or.inl x), Or.inr (Or.inl ⟨by omega, b, rfl, R1⟩)⟩
        rw [if_neg (by rw [z]; decide), if_neg (fun x => by have := Eq.mp l3 x; omega), show (7 : Int32) = Int32.ofNat 7 from rfl, e1]
      · obtain ⟨μ1, e1, F1, R1, R2⟩ := p_74 (k := k) C H hg D (by omega) a (fun x => by
          rcases Nat.lt_or_ge (sN S) 3 with y | y
          · exact y
          · exact absurd ⟨x, by omega⟩ b) h0
        refine ⟨μ1, _, ?_, F1, Or.inr (Or.inr ⟨by omega, b, rfl, R1, R2⟩)⟩
        rcases h0 with h0 | h0
        · rw [if_pos h0.1, e1]
        · rw [if_neg (by rw [h0.1]; decide), if_pos (Eq.mpr l3 (by
            rcases Nat.lt_or_ge (sN S) 3 with y | y
            · exact y
            · exact absurd ⟨h0.2, by omega⟩ b)), e1]
    · obtain ⟨μ1, e1, F1, R1⟩ := p_74f (g := g) (w := 6) (x := Int32.ofNat k) (s0 := s0) C H (by decide)
      refine ⟨μ1, _, ?_, F1.wide (fun _ _ x => Or.inl x), Or.inl ⟨by omega, rfl, R1⟩⟩
      rw [if_neg (fun x => a (Eq.mp l30 x)), show (6 : Int32) = Int32.ofNat 6 from rfl, e1]
  rw [f_X1_beginStep, C.g118_0, o_bind, g6, o_bind]
  by_cases q19 : k = 19
  · rw [if_pos (Eq.mpr c19 q19), f_X1_beginStep_20]
    exact goal 1 (Or.inr ⟨rfl, Or.inl q19⟩)
  · rw [if_neg (fun x => q19 (Eq.mp c19 x))]
    by_cases q21 : k = 21
    · rw [if_pos (Eq.mpr c21 q21), f_X1_beginStep_20]
      exact goal 1 (Or.inr ⟨rfl, Or.inr q21⟩)
    · rw [if_neg (fun x => q21 (Eq.mp c21 x))]
      exact goal 0 (Or.inl ⟨rfl, fun x => x.elim q19 q21⟩)
theorem p_begX {μ : dtM} {n e g : Nat} {B : Nat → Int32} (C : CX μ) (H : PTk μ 119 n B e) (st : stW (lxK (tx B) n e) = false) : ∃ μ', f_X1_beginStep 118 g μ = some (-Int32.ofNat 1, μ') ∧ Fr (Pcl 119) μ μ' ∧ PFl μ' 119 (flt (tx B) n e 2) := by
  have is := p_isStep (μ := μ) (o := lxK (tx B) n e) (fun j hj => lxK_lt hj)
  rw [st] at is
  have c19 : (oN (lxK (tx B) n e) = (19 : Int32)) = (lxK (tx B) n e = some 19) := oN_eqk (fun j h => lxK_lt h) (by decide)
  have c21 : (oN (lxK (tx B) n e) = (21 : Int32)) = (lxK (tx B) n e = some 21) := oN_eqk (fun j h => lxK_lt h) (by decide)
  obtain ⟨μ1, e1, F1, R1⟩ := p_74f (g := g) (w := 2) (x := oN (lxK (tx B) n e)) (s0 := 0) C H (by decide)
  refine ⟨μ1, ?_, F1, R1⟩
  rw [f_X1_beginStep, C.g118_0, o_bind, H.g6, o_bind, if_neg (fun x => by rw [Eq.mp c19 x] at st; exact absurd st (fun y => nomatch y)), if_neg (fun x => by rw [Eq.mp c21 x] at st; exact absurd st (fun y => nomatch y)), f_X1_beginStep_25, is, o_call, if_pos (by decide), show (2 : Int32) = Int32.ofNat 2 from rfl, e1]
theorem PDs.tk {μ μ' : dtM} {g : Nat} {S : aY} (H : PDs μ g S) (hg : g = 38 ∨ g = 45) (F : Fr (Pcl 119) μ μ') : PDs μ' g S := H.kept F (fun kk j h x => by have := x.1; omega)
/-- a step with its end, the program -/
theorem p_stepB {α : Type} {E G : dtM → Option α} {μ : dtM} {n e g h : Nat} {B : Nat → Int32} {A : aH} {S : aY} (C : CX μ) (H : PTk μ 119 n B e) (HA : PH μ h A) (hh : h = 12 ∨ h = 25) (hg : g = 38 ∨ g = 45) (D : PDs μ g S) (W : sWF A S) (h22 : ¬ lxK (tx B) n e = some 22) : ∃ μ', (opCall (f_X1_beginStep 118 g μ) fun x26 μ24 => if x26 = (-1 : Int32) then (E μ24) else ((opRv 1 μ24 118).bind fun _ => opCall (f_X1_readTest 118 g h x26 μ24) fun x33 μ31 => if x33 = 0 then (E μ31) else ((opRv 1 μ31 118).bind fun _ => opCall (f_X1_readRest 118 g h x26 μ31) fun x40 μ38 => if x40 = 0 then (E μ38) else ((opGR 1 0 μ38 118).bind fun x44 => (opRv 8 μ38 x44).bind fun _ => opCall (f_X8_passSign x44 (59 : Int32) μ38) fun x49 μ47 => if x49 = 0 then (E μ47) else (G μ47))))) = (if xOk (xEnd (tx B) n (xStp (tx B) n A S e)) = true then G μ' else E μ') ∧ Fr (Pst g) μ μ' ∧ PRd μ' n B g (xEnd (tx B) n (xStp (tx B) n A S e)) := by
  have nt : ∀ (x : Nat × Nat), ¬ xOk (Except.error x : aX (aY × Nat)) = true := fun x z => nomatch z
  cases st : stW (lxK (tx B) n e) with
  | false =>
    obtain ⟨μ1, e1, F1, R1⟩ := p_begX (g := g) C H st
    rw [xStp_x st h22]
    refine ⟨μ1, ?_, F1.wide (fun _ _ x => Or.inl x), R1⟩
    rw [e1, o_call, if_pos (show -Int32.ofNat 1 = (-1 : Int32) from rfl)]
    exact (if_neg (nt _)).symm
  | true =>
    obtain ⟨k, hk, sk, kk, n22⟩ := stW_k st
    rw [hk] at st
    rw [xStp_k hk, if_neg n22, if_pos kk]
    unfold xStk
    obtain ⟨μ1, v, e1, F1, R1⟩ := p_begS C H hg D W hk st
    rcases R1 with ⟨a, b, c⟩ | ⟨a, b, c, d⟩ | ⟨a, b, c, d, f⟩
    · rw [if_pos a]
      refine ⟨μ1, ?_, F1, c⟩
      rw [e1, o_call, if_pos (show v = (-1 : Int32) from b)]
      exact (if_neg (nt _)).symm
    · rw [if_neg a, if_pos (show (k = 19 ∨ k = 21) ∧ sN S = 3 from b)]
      refine ⟨μ1, ?_, F1, d⟩
      rw [e1, o_call, if_pos (show v = (-1 : Int32) from c)]
      exact (if_neg (nt _)).symm
    · rw [if_neg a, if_neg (show ¬ ((k = 19 ∨ k = 21) ∧ sN S = 3) from b)]
      have C1 := C.kept F1
      have HA1 : PH μ1 h A := HA.kD hh hg (F1.wide (fun k j x => by
        rcases x with x | x | x | x
        · exact Or.inl x
        · exact Or.inr x.1
        · exact Or.inr (by omega)
        · exact Or.inr (by omega)))
      have hL : sL S < 60 := by
        have := W.1
        omega
      have nv : ¬ v = (-1 : Int32) := by
        rw [c, show (-1 : Int32) = -Int32.ofNat 1 from rfl, z_neg (by omega)]; exact id
      obtain ⟨μ2, e2, F2, R2⟩ := p_row (E := E) (K := fun μ38 => (opGR 1 0 μ38 118).bind fun x44 => (opRv 8 μ38 x44).bind fun _ => opCall (f_X8_passSign x44 (59 : Int32) μ38) fun x49 μ47 => if x49 = 0 then (E μ47) else (G μ47)) C1 f HA1 hh hg hL d.2.2.2.2.1 sk
      have F12 : Fr (Pst g) μ μ2 := F1.tr (F2.wide (fun k j x => x.elim Or.inl (fun y => Or.inr (Or.inl (by omega)))))
      rw [c] at e1 nv
      rw [e1, o_call, if_neg nv, o_Rv C1.s118, o_bind, e2]
      cases r : xRow (tx B) n A k (lxE (tx B) n e) with
      | error x =>
        rw [r] at R2
        rw [xB_e, if_neg (show ¬ xOk (Except.error x : aX (aRw × Nat)) = true from fun z => nomatch z)]
        exact ⟨μ2, (if_neg (nt _)).symm, F12, R2⟩
      | ok y =>
        rw [r] at R2
        obtain ⟨r1, H2⟩ := R2
        have C2 := C1.kept F2
        have D2 : PDs μ2 g (sAdd S k y.1) := d.add F2 (fun kk j q x => by
          rcases x with x | x
          · have := x.1; omega
          · omega) n22 r1
        obtain ⟨μ3, e3, F3, R3⟩ := H2.passSign (s := 59) (by decide)
        have D3 := D2.tk hg F3
        rw [xB_o, if_pos (show xOk (Except.ok y : aX (aRw × Nat)) = true from rfl)]
        unfold xEnd
        rw [xB_o, C2.g118_0, o_bind, H2.1.v, o_bind, show (59 : Int32) = Int32.ofNat 59 from rfl, e3, o_call]
        cases q : xSign (tx B) n 59 y.2 with
        | error x =>
          rw [q] at R3
          exact ⟨μ3, rfl, F12.tr (F3.wide (fun _ _ x => Or.inl x)), R3⟩
        | ok e4 =>
          rw [q] at R3
          exact ⟨μ3, rfl, F12.tr (F3.wide (fun _ _ x => Or.inl x)), D3, R3⟩
theorem pdR_c {μ : dtM} {g k : Nat} {r r' : Nat → Nat} (h : ∀ t, t < 5 → r' t = r t) (H : pdR μ g k r) : pdR μ g k r' := by
  unfold pdR rWho rTwo rOne at H ⊢
  rw [h 0 (by decide), h 1 (by decide), h 2 (by decide), h 3 (by decide), h 4 (by decide)]
  exact H
theorem pdR_22 {μ : dtM} {g k : Nat} {r : Nat → Nat} (h : r 0 = 22) (H : dtI μ (g + 1) k = Int32.ofNat 22) : pdR μ g k r := by
  unfold pdR rWho rTwo rOne
  rw [h]
  exact ⟨H, fun x => by omega, fun x => by omega, fun x => by omega, fun x => by omega, fun x => by omega⟩
theorem p_end22 {μ : dtM} {n e g : Nat} {B : Nat → Int32} {A : aH} {S : aY} (C : CX μ) (H : PTk μ 119 n B e) (hg : g = 38 ∨ g = 45) (D : PDs μ g S) (W : sWF A S) (h22 : lxK (tx B) n e = some 22) : ∃ μ', f_X1_readEnd 118 g μ = some (bI (xOk (xEnd (tx B) n (xStp (tx B) n A S e))), μ') ∧ Fr (Pst g) μ μ' ∧ PRd μ' n B g (xEnd (tx B) n (xStp (tx B) n A S e)) := by
  obtain ⟨⟨c1, c2, c3⟩, _, w3, _⟩ := W
  obtain ⟨d1, d2, d3, d4, d5⟩ := D
  have g2 : opGI 1 2 μ 118 = some (Int32.ofNat (sN S)) := by rw [o_GI C.s118, d3]
  have l0 : ((0 : Int32) < Int32.ofNat (sN S)) = (0 < sN S) := z_lt (show 0 < 2147483648 by decide) (by omega)
  rw [xStp_k h22, if_pos rfl]
  by_cases q : sN S = 0
  · obtain ⟨μ1, e1, F1, R1⟩ := p_flaw (w := 2) H
    rw [if_pos q]
    refine ⟨μ1, ?_, F1.wide (fun _ _ x => Or.inl x), R1⟩
    rw [f_X1_readEnd, g2, o_bind, if_neg (fun x => by have := Eq.mp l0 x; omega), C.g118_0, o_bind, H.1.v, o_bind, show (2 : Int32) = Int32.ofNat 2 from rfl, e1, o_call, o_bI]; rfl
  · rw [if_neg q]
    obtain ⟨b1, b2⟩ := w3 (sN S - 1) (by omega)
    have hL : sL S < 60 := by omega
    obtain ⟨m1, hm1⟩ : ∃ m, m = dtSI μ 118 2 (Int32.ofNat (sN S - 1)) := ⟨_, rfl⟩
    have F1 : Fr (fun kk j => kk = 118 ∧ j = 2) μ m1 := by
      rw [hm1]; exact Fr.SI ⟨rfl, rfl⟩
    have C1 := C.kept F1
    obtain ⟨m2, hm2⟩ : ∃ m, m = dtSI (dtSI m1 (g + 1) (sL S) (22 : Int32)) g 2 (Int32.ofNat (sL S + 1)) := ⟨_, rfl⟩
    have ap := p_append (μ := m1) (w := (22 : Int32)) C1 hg (L := sL S) (by rw [F1.i (by omega)]; exact d2) hL
    rw [← hm2] at ap
    have F2 : Fr (fun kk j => (kk = g + 1 ∧ j = sL S) ∨ (kk = g ∧ j = 2)) m1 m2 := by
      rw [hm2]; exact (Fr.SI (Or.inl ⟨rfl, rfl⟩)).tr (Fr.SI (Or.inr ⟨rfl, rfl⟩))
    have C2 := C1.kept F2
    have n2 : opGI 1 2 m2 118 = some (Int32.ofNat (sN S - 1)) := by rw [o_GI C2.s118, F2.i (by omega), hm1, m_I_SI, if_pos ⟨rfl, rfl⟩]
    have s2 : opLI 1 m2 121 (Int32.ofNat (sN S - 1)) = some (Int32.ofNat (sB S (sN S - 1))) := by rw [o_LI C2.s121 (by omega) (by decide), F2.i (by omega), F1.i (by omega), d4 _ (by omega)]
    obtain ⟨m3, hm3⟩ : ∃ m, m = dtSI m2 (g + 6) (sL S) (Int32.ofNat (sB S (sN S - 1))) := ⟨_, rfl⟩
    have F3 : Fr (fun kk j => kk = g + 6 ∧ j = sL S) m2 m3 := by
      rw [hm3]; exact Fr.SI ⟨rfl, rfl⟩
    have C3 := C2.kept F3
    have n3 : opGI 1 2 m3 118 = some (Int32.ofNat (sN S - 1)) := by rw [o_GI C3.s118, F3.i (by omega), F2.i (by omega), hm1, m_I_SI, if_pos ⟨rfl, rfl⟩]
    have s3 : opLI 1 m3 121 (Int32.ofNat (sN S - 1)) = some (Int32.ofNat (sB S (sN S - 1))) := by rw [o_LI C3.s121 (by omega) (by decide), F3.i (by omega), F2.i (by omega), F1.i (by omega), d4 _ (by omega)]
    obtain ⟨m4, hm4⟩ : ∃ m, m = dtSI m3 (g + 6) (sB S (sN S - 1)) (Int32.ofNat (sL S)) := ⟨_, rfl⟩
    have F4 : Fr (fun kk j => kk = g + 6 ∧ j = sB S (sN S - 1)) m3 m4 := by
      rw [hm4]; exact Fr.SI ⟨rfl, rfl⟩
    have C4 := C3.kept F4
    have H4 : PTk m4 119 n B e := (((H.kept F1 (by intros; omega) (by intros; omega)).kept F2 (by intros; omega) (by intros; omega)).kept F3 (by intros; omega) (by intros; omega)).kept F4 (by intros; omega) (by intros; omega)
    have D4 : PDs m4 g (sEnd S) := by
      refine ⟨?_, ?_, ?_, fun i hi => ?_, fun j hj => ?_⟩
      · rw [F4.i (by omega), F3.i (by omega), F2.i (by omega), F1.i (by omega)]; exact d1
      · rw [F4.i (by omega), F3.i (by omega), hm2, m_I_SI, if_pos ⟨rfl, rfl⟩]; rfl
      · rw [F4.i (by omega), F3.i (by omega), F2.i (by omega), hm1, m_I_SI, if_pos ⟨rfl, rfl⟩]; rfl
      · rw [end_N] at hi
        rw [F4.i (by omega), F3.i (by omega), F2.i (by omega), F1.i (by omega)]; exact d4 i (by omega)
      · rw [end_L] at hj
        by_cases y : j = sL S
        · subst y
          have z0 : sT (sEnd S) 0 (sL S) = 22 := by rw [end_Tn, if_pos rfl]
          have z5 : sT (sEnd S) 5 (sL S) = sB S (sN S - 1) := by rw [end_Tn, if_neg (by decide), if_pos rfl]
          refine ⟨pdR_22 z0 (by rw [F4.i (by omega), F3.i (by omega), hm2, m_I_SI, if_neg (by omega), m_I_SI, if_pos ⟨rfl, rfl⟩]; rfl), fun _ _ => ?_⟩
          rw [z5, F4.i (by omega), hm3, m_I_SI, if_pos ⟨rfl, rfl⟩]
        · obtain ⟨e1, e2⟩ := d5 j (by omega)
          refine ⟨pdR_c (fun t ht => end_T (by omega) (by omega)) ((((e1.kept F1 (by intros; omega)).kept F2 (by intros; omega)).kept F3 (by intros; omega)).kept F4 (by intros; omega)), fun x z => ?_⟩
          by_cases w : j = sB S (sN S - 1)
          · rw [w, end_T5 b1, hm4, m_I_SI, if_pos ⟨rfl, rfl⟩]
          · rw [end_T (t := 0) (by omega) (by omega)] at x
            rw [end_T (t := 5) (by omega) (fun y => w y.2), F4.i (by omega), F3.i (by omega), F2.i (by omega), F1.i (by omega)]
            refine e2 x (fun i hi v => ?_)
            by_cases v2 : i = sN S - 1
            · exact w (by rw [← v, v2])
            · exact z i (by rw [end_N]; omega) v
    obtain ⟨m5, e5, F5, H5⟩ := H4.adv
    have C5 := C4.kept F5
    have F5' : Fr (Pcl 119) m4 m5 := F5.wide (fun _ _ x => Ptk.c x)
    have D5 := D4.tk hg F5'
    obtain ⟨m6, e6, F6, R6⟩ := H5.passSign (s := 59) (by decide)
    have D6 := D5.tk hg F6
    have FF : Fr (Pst g) μ m6 := (F1.wide (fun kk j x => Or.inr (Or.inr (Or.inl x)))).tr ((F2.wide (fun kk j x => Or.inr (Or.inl (by omega)))).tr ((F3.wide (fun kk j x => Or.inr (Or.inl (by omega)))).tr ((F4.wide (fun kk j x => Or.inr (Or.inl (by omega)))).tr ((F5'.wide (fun _ _ x => Or.inl x)).tr (F6.wide (fun _ _ x => Or.inl x))))))
    have es : f_X1_readEnd 118 g μ = some (bI (xOk (xSign (tx B) n 59 (lxE (tx B) n e))), m6) := by
      rw [f_X1_readEnd, g2, o_bind, if_pos (Eq.mpr l0 (by omega)), o_bind, show (1 : Int32) = Int32.ofNat 1 from rfl, z_sub (show 1 ≤ sN S by omega), o_PI C.s118, o_bind, ← hm1, o_Rv (C1.dShw hg).1, o_bind, ap, o_call, if_neg (show ¬ Int32.ofNat (sL S) = -Int32.ofNat 1 by rw [z_neg (by omega)]; exact id), C2.gd8 hg, o_bind, C2.g118_1, o_bind, n2, o_bind, s2, o_bind, o_SI (C2.sd6 hg) hL (by decide), o_bind, ← hm3, C3.gd8 hg, o_bind, C3.g118_1, o_bind, n3, o_bind, s3, o_bind, o_SI (C3.sd6 hg) (show sB S (sN S - 1) < 60 by omega) (by decide), o_bind, ← hm4, C4.g118_0, o_bind, H4.1.v, o_bind, e5, o_bind, C5.g118_0, o_bind, H5.1.v, o_bind, show (59 : Int32) = Int32.ofNat 59 from rfl, e6, o_call, o_bI]
    unfold xEnd
    rw [xB_o]
    refine ⟨m6, ?_, FF, ?_⟩
    · rw [es]
      cases xSign (tx B) n 59 (lxE (tx B) n e) with
      | error x => rfl
      | ok e4 => rfl
    · cases r : xSign (tx B) n 59 (lxE (tx B) n e) with
      | error x =>
        rw [r] at R6
        exact R6
      | ok e4 =>
        rw [r] at R6
        exact ⟨D6, R6⟩
