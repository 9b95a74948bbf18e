/-! PURE 993: the parts of a house, the program -/
theorem p_over {μ : dtM} {c n e : Nat} {B : Nat → Int32} (H : PTk μ c n B e) : f_X8_isOver c μ = some (bI (decide (lxT (tx B) n e = 0)), μ) := by
  have h4 := lxT_4 (tx := tx B) (n := n) (e := e)
  rw [f_X8_isOver, H.1.g 4, H.2.2.2.2.1, o_bind]
  by_cases q : lxT (tx B) n e = 0
  · rw [if_pos (by rw [q]; rfl), f_X8_isOver_12, show (1 : Int32) = Int32.ofNat 1 from rfl, o_ret1', decide_eq_true q]
  · rw [if_neg (by rw [show (0 : Int32) = Int32.ofNat 0 from rfl, z_eq (by omega) (by decide)]; exact q), f_X8_isOver_12, show (0 : Int32) = Int32.ofNat 0 from rfl, o_ret0', decide_eq_false q]
def pDis (K : Nat → Nat → Int32 → Int32 → Int32 → dtM → Option (Int32 × dtM)) (h : Nat) (l3 l5 x18 : Int32) (μ10 : dtM) : Option (Int32 × dtM) :=
  if x18 = 0 then (f_X4_readInto_116 K 114 h l3 l5 μ10) else if x18 = 1 then (f_X4_readInto_126 K 114 h l3 l5 μ10) else if x18 = 2 then (f_X4_readInto_136 K 114 h l3 l5 μ10) else if x18 = 5 then (f_X4_readInto_146 K 114 h l3 l5 μ10) else if x18 = 11 then (f_X4_readInto_156 K 114 h l3 l5 μ10) else f_X4_readInto_166 K 114 h l3 l5 μ10
theorem PDr.o {h k j : Nat} (x : PDr h k j) : PDo h k j := Or.inl x
theorem p_flag {μ μ' : dtM} {h : Nat} {b : Bool} (hh : h = 12 ∨ h = 25) (F : Fr (PDr h) μ μ') (fl : dtI μ 114 2 = bI b) : dtI μ' 114 2 = bI b := by
  rw [F.i (fun x => by
    rcases x with x | x | x
    · have := x.1; omega
    · omega
    · omega)]
  exact fl
theorem p_part {K : Nat → Nat → Int32 → Int32 → Int32 → dtM → Option (Int32 × dtM)} {μ : dtM} {h n e : Nat} {l3 l5 : Int32} {B : Nat → Int32} {A : aH} {wn : Nat → List Nat} {od : Bool} (S : PHN μ h A wn) (H : PTk μ 115 n B e) (fl : dtI μ 114 2 = bI od) : ∃ μ', pDis K h l3 l5 (oN (lxK (tx B) n e)) μ = K 114 h l3 (bI (xOk (xEnd (tx B) n (xPart (tx B) n A wn od e)))) (l5 + 1) μ' ∧ Fr (PDo h) μ μ' ∧ PRh μ' n B h (xEnd (tx B) n (xPart (tx B) n A wn od e)) ∧ (xOk (xEnd (tx B) n (xPart (tx B) n A wn od e)) = true → dtI μ' 114 2 = bI (od || decide (lxK (tx B) n e = some 0))) := by
  have C := S.1
  have hh := S.2.2.1
  have c0 : (oN (lxK (tx B) n e) = (0 : Int32)) = (lxK (tx B) n e = some 0) := oN_eqk (fun j h => lxK_lt h) (by decide)
  have c1 : (oN (lxK (tx B) n e) = (1 : Int32)) = (lxK (tx B) n e = some 1) := oN_eqk (fun j h => lxK_lt h) (by decide)
  have c2 : (oN (lxK (tx B) n e) = (2 : Int32)) = (lxK (tx B) n e = some 2) := oN_eqk (fun j h => lxK_lt h) (by decide)
  have c5 : (oN (lxK (tx B) n e) = (5 : Int32)) = (lxK (tx B) n e = some 5) := oN_eqk (fun j h => lxK_lt h) (by decide)
  have c11 : (oN (lxK (tx B) n e) = (11 : Int32)) = (lxK (tx B) n e = some 11) := oN_eqk (fun j h => lxK_lt h) (by decide)
  unfold pDis xPart
  by_cases q0 : lxK (tx B) n e = some 0
  · obtain ⟨μ1, e1, F1, R1, f1⟩ := p_odds S H fl
    rw [if_pos (Eq.mpr c0 q0), if_pos q0, f_X4_readInto_116, o_Rv C.s114, o_bind, e1, o_call, f_X4_readInto_176, decide_eq_true q0]
    refine ⟨μ1, rfl, F1, R1, fun x => ?_⟩
    rw [f1 x, Bool.or_true]
  · rw [if_neg (fun x => q0 (Eq.mp c0 x)), if_neg q0, decide_eq_false q0, Bool.or_false]
    by_cases q1 : lxK (tx B) n e = some 1
    · obtain ⟨μ1, e1, F1, R1⟩ := p_room S H
      rw [if_pos (Eq.mpr c1 q1), if_pos q1, f_X4_readInto_126, o_Rv C.s114, o_bind, e1, o_call, f_X4_readInto_176]
      exact ⟨μ1, rfl, F1.wide (fun _ _ x => PDr.o x), R1, fun _ => p_flag hh F1 fl⟩
    · rw [if_neg (fun x => q1 (Eq.mp c1 x)), if_neg q1]
      by_cases q2 : lxK (tx B) n e = some 2
      · obtain ⟨μ1, e1, F1, R1⟩ := p_door S H
        rw [if_pos (Eq.mpr c2 q2), if_pos q2, f_X4_readInto_136, o_Rv C.s114, o_bind, e1, o_call, f_X4_readInto_176]
        exact ⟨μ1, rfl, F1.wide (fun _ _ x => PDr.o x), R1, fun _ => p_flag hh F1 fl⟩
      · rw [if_neg (fun x => q2 (Eq.mp c2 x)), if_neg q2]
        by_cases q5 : lxK (tx B) n e = some 5
        · obtain ⟨μ1, e1, F1, R1⟩ := p_word S H
          rw [if_pos (Eq.mpr c5 q5), if_pos q5, f_X4_readInto_146, o_Rv C.s114, o_bind, e1, o_call, f_X4_readInto_176]
          exact ⟨μ1, rfl, F1.wide (fun _ _ x => PDr.o x), R1, fun _ => p_flag hh F1 fl⟩
        · rw [if_neg (fun x => q5 (Eq.mp c5 x)), if_neg q5]
          by_cases q11 : lxK (tx B) n e = some 11
          · obtain ⟨μ1, e1, F1, R1⟩ := p_person S H
            rw [if_pos (Eq.mpr c11 q11), if_pos q11, f_X4_readInto_156, o_Rv C.s114, o_bind, e1, o_call, f_X4_readInto_176]
            exact ⟨μ1, rfl, F1.wide (fun _ _ x => PDr.o x), R1, fun _ => p_flag hh F1 fl⟩
          · obtain ⟨μ1, e1, F1, R1⟩ := p_flaw (w := 2) H
            rw [if_neg (fun x => q11 (Eq.mp c11 x)), if_neg q11, f_X4_readInto_166, C.g114_0, o_bind, H.1.v, o_bind, show (2 : Int32) = Int32.ofNat 2 from rfl, e1, o_call, f_X4_readInto_176]
            exact ⟨μ1, rfl, F1.wide (fun _ _ x => Or.inl (Or.inl x)), R1, fun x => absurd x (fun y => nomatch y)⟩
theorem ri24 {h n L : Nat} {B : Nat → Int32} (hL : n ≤ L ∧ L < 100000) : ∀ (m e k f : Nat) (A : aH) (wn : Nat → List Nat) (od : Bool) (μ : dtM), n < e + m → k ≤ e → m < f → PHN μ h A wn → PTk μ 115 n B e → dtI μ 114 2 = bI od → ∃ μ', f_X4_readInto_24 f 114 h (Int32.ofNat L) (bI true) (Int32.ofNat k) μ = some (bI (xOk (xLp (tx B) n m A wn od e)), μ') ∧ Fr (PDo h) μ μ' ∧ PRh μ' n B h (xLp (tx B) n m A wn od e)
  | _, _, _, 0, _, _, _, _, _, _, hf, _, _, _ => absurd hf (Nat.not_lt_zero _)
  | 0, e, k, f + 1, A, wn, od, μ, hm', hk, hf, S, H, fl => by
    have := H.2.1
    omega
  | m + 1, e, k, f + 1, A, wn, od, μ, hm', hk, hf, S, H, fl => by
    have C := S.1
    have en := H.2.1
    have ov := p_over H
    have st : f_X4_readInto_24 (f + 1) 114 h (Int32.ofNat L) (bI true) (Int32.ofNat k) μ = if bI (decide (lxT (tx B) n e = 0)) = 0 then (pDis (f_X4_readInto_24 f) h (Int32.ofNat L) (Int32.ofNat k) (oN (lxK (tx B) n e)) μ) else (f_X4_readInto_182 (bI true) μ) := by
      rw [f_X4_readInto_24, if_neg (show ¬ bI true = 0 from (by decide : ¬ bI true = 0)), if_neg (show ¬ Int32.ofNat L < Int32.ofNat k by rw [z_lt (by omega) (by omega)]; omega), C.g114_0, o_bind, H.1.v, o_bind, ov, o_call, C.g114_0, o_bind, H.g6, o_bind]; rfl
    rw [st, xLp]
    by_cases q : lxT (tx B) n e = 0
    · rw [if_pos q, if_neg (by rw [decide_eq_true q]; decide), f_X4_readInto_182, o_bI]
      exact ⟨μ, rfl, Fr.rf, S, H⟩
    · rw [if_neg q, if_pos (by rw [decide_eq_false q]; decide)]
      obtain ⟨μ1, e1, F1, R1, f1⟩ := p_part (K := f_X4_readInto_24 f) (l3 := Int32.ofNat L) (l5 := Int32.ofNat k) S H fl
      rw [e1]
      cases r : xEnd (tx B) n (xPart (tx B) n A wn od e) with
      | error x =>
        rw [r] at R1
        obtain ⟨f', hf'⟩ : ∃ f', f = f' + 1 := ⟨f - 1, by omega⟩
        rw [xB_e]
        refine ⟨μ1, ?_, F1, R1⟩
        rw [hf', f_X4_readInto_24, if_pos (show bI (xOk (Except.error x : aX ((aH × (Nat → List Nat)) × Nat))) = 0 from (by decide : bI false = 0)), f_X4_readInto_182, o_bI]
      | ok y =>
        have on := xEnd_on xPart_m r
        rw [r] at R1 f1
        obtain ⟨S1, H1⟩ := R1
        obtain ⟨μ2, e2, F2, R2⟩ := ri24 hL m y.2 (k + 1) f y.1.1 y.1.2 (od || decide (lxK (tx B) n e = some 0)) μ1 (by omega) (by omega) (by omega) S1 H1 (f1 rfl)
        rw [xB_o, show (1 : Int32) = Int32.ofNat 1 from rfl, z_add]
        exact ⟨μ2, e2, F1.tr F2, R2⟩
