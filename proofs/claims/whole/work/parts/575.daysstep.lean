/-! PURE 9997: the days' text, a step begun, the program -/
def PDe (μ : dtM) (g : Nat) (S : aY) : Prop := ∀ k, k < sL S → pdR μ g k (fun t => sT S t k) ∧ ((nst (sT S 0 k) ∨ sT S 0 k = 22) → (∀ i, i < sN S → ¬ sB S i = k) → dtI μ (g + 6) k = Int32.ofNat (sT S 5 k))
def PDs (μ : dtM) (g : Nat) (S : aY) : Prop := dtI μ g 1 = Int32.ofNat (sC S) ∧ dtI μ g 2 = Int32.ofNat (sL S) ∧ dtI μ 118 2 = Int32.ofNat (sN S) ∧ (∀ i, i < sN S → dtI μ 121 i = Int32.ofNat (sB S i)) ∧ PDe μ g S
def PDb (μ : dtM) (g : Nat) (S : aY) (k : Nat) : Prop := dtI μ g 1 = Int32.ofNat (sC S + 1) ∧ dtI μ g 2 = Int32.ofNat (sL S + 1) ∧ dtI μ 118 2 = Int32.ofNat (sN (sAdd S k (0, 0, 0, 0))) ∧ (∀ i, i < sN (sAdd S k (0, 0, 0, 0)) → dtI μ 121 i = Int32.ofNat (sB (sAdd S k (0, 0, 0, 0)) i)) ∧ dtI μ (g + 1) (sL S) = Int32.ofNat k ∧ PDe μ g S
theorem pdR.kept {P : Nat → Nat → Prop} {μ μ' : dtM} {g k : Nat} {r : Nat → Nat} (H : pdR μ g k r) (F : Fr P μ μ') (q : ∀ kk, g + 1 ≤ kk → kk ≤ g + 5 → ¬ P kk k) : pdR μ' g k r := by
  obtain ⟨a, b, c, d, e, f⟩ := H
  refine ⟨by rw [F.i (q _ (by omega) (by omega))]; exact a, fun x => by rw [F.i (q _ (by omega) (by omega))]; exact b x, fun x => by rw [F.i (q _ (by omega) (by omega))]; exact c x, fun x => by rw [F.i (q _ (by omega) (by omega))]; exact d x, fun x => by rw [F.i (q _ (by omega) (by omega))]; exact e x, fun x => by rw [F.i (q _ (by omega) (by omega))]; exact f x⟩
theorem PDe.kept {P : Nat → Nat → Prop} {μ μ' : dtM} {g : Nat} {S : aY} (H : PDe μ g S) (F : Fr P μ μ') (q : ∀ kk j, g + 1 ≤ kk → kk ≤ g + 6 → j < sL S → ¬ P kk j) : PDe μ' g S := fun k hk => ⟨(H k hk).1.kept F (fun kk a b => q kk k a (by omega) hk), fun x y => by rw [F.i (q _ k (by omega) (by omega) hk)]; exact (H k hk).2 x y⟩
theorem PDs.kept {P : Nat → Nat → Prop} {μ μ' : dtM} {g : Nat} {S : aY} (H : PDs μ g S) (F : Fr P μ μ') (q : ∀ kk j, (g ≤ kk ∧ kk ≤ g + 6) ∨ kk = 118 ∨ kk = 121 → ¬ P kk j) : PDs μ' g S := by
  obtain ⟨a, b, c, d, e⟩ := H
  refine ⟨by rw [F.i (q _ _ (by omega))]; exact a, by rw [F.i (q _ _ (by omega))]; exact b, by rw [F.i (q _ _ (by omega))]; exact c, fun i hi => by rw [F.i (q _ _ (by omega))]; exact d i hi, e.kept F (fun kk j h1 h2 _ => q kk j (by omega))⟩
theorem PDb.add {P : Nat → Nat → Prop} {μ μ' : dtM} {g k : Nat} {S : aY} {v : aRw} (H : PDb μ g S k) (F : Fr P μ μ') (q : ∀ kk j, (g ≤ kk ∧ kk ≤ g + 6 ∧ (kk ≤ g + 1 ∨ kk = g + 6 ∨ j < sL S)) ∨ kk = 118 ∨ kk = 121 → ¬ P kk j) (h22 : ¬ k = 22) (hr : pdR μ' g (sL S) (rwV k v)) : PDs μ' g (sAdd S k v) := by
  obtain ⟨a, b, c, d, f, e⟩ := H
  refine ⟨by rw [F.i (q _ _ (by omega))]; exact a, by rw [F.i (q _ _ (by omega))]; exact b, by rw [F.i (q _ _ (by omega))]; exact c, fun i hi => by rw [F.i (q _ _ (by omega))]; exact d i hi, fun j hj => ?_⟩
  rw [add_L] at hj
  have nle : sN S ≤ sN (sAdd S k v) := by
    by_cases y : nst k
    · rw [add_Ny y]; omega
    · rw [add_Nn y]; omega
  by_cases y : j = sL S
  · subst y
    have fe : (fun t => sT (sAdd S k v) t (sL S)) = rwV k v := funext fun t => add_Tn
    rw [fe, add_Tn]
    refine ⟨hr, fun x z => ?_⟩
    rcases x with x | x
    · have x : nst k := x
      exact absurd (add_Bn x) (z (sN S) (by rw [add_Ny x]; omega))
    · exact absurd x h22
  · have fe : (fun t => sT (sAdd S k v) t j) = (fun t => sT S t j) := funext fun t => add_T (by omega)
    rw [fe, add_T (by omega), add_T (by omega)]
    obtain ⟨e1, e2⟩ := e j (by omega)
    refine ⟨e1.kept F (fun kk h1 h2 => q kk j (by omega)), fun x z => ?_⟩
    rw [F.i (q _ _ (by omega))]
    exact e2 x (fun i hi w => z i (by omega) (by rw [add_B hi]; exact w))
theorem p_append {μ : dtM} {g L : Nat} {w : Int32} (C : CX μ) (hg : g = 38 ∨ g = 45) (h2 : dtI μ g 2 = Int32.ofNat L) (hL : L < 60) : f_X0_append g w μ = some (Int32.ofNat L, dtSI (dtSI μ (g + 1) L w) g 2 (Int32.ofNat (L + 1))) := by
  have s0 := (C.dShw hg).1
  have C1 : CX (dtSI μ (g + 1) L w) := C.SI
  have s1 := (C1.dShw hg).1
  have C2 : CX (dtSI (dtSI μ (g + 1) L w) g 2 (Int32.ofNat (L + 1))) := C1.SI
  have s2 := (C2.dShw hg).1
  rw [f_X0_append, o_GI s0, h2, o_bind, C.gd3 hg, o_bind, o_AL (C.sd1 hg) (by decide), o_bind, if_pos (show Int32.ofNat L < Int32.ofNat 60 by rw [z_lt (by omega) (by decide)]; exact hL), o_bind, o_bind, o_SI (C.sd1 hg) hL (by decide), o_bind, o_GI s1, m_I_SI, if_neg (by omega), h2, o_bind, show (1 : Int32) = Int32.ofNat 1 from rfl, z_add, o_PI s1, o_bind, o_GI s2, m_I_SI, if_pos ⟨rfl, rfl⟩, o_bind, z_sub (by omega), Nat.add_sub_cancel]
abbrev Pst (g : Nat) : Nat → Nat → Prop := fun k j => Pcl 119 k j ∨ (g ≤ k ∧ k ≤ g + 6) ∨ (k = 118 ∧ j = 2) ∨ k = 121
theorem p_74 {μ : dtM} {n e g k : Nat} {B : Nat → Int32} {S : aY} {s0 : Int32} (C : CX μ) (H : PTk μ 119 n B e) (hg : g = 38 ∨ g = 45) (D : PDs μ g S) (hL : sL S < 60) (hC : sC S < 30) (hN : nst k → sN S < 3) (h0 : (s0 = 0 ∧ ¬ nst k) ∨ (s0 = 1 ∧ nst k)) : ∃ μ', f_X1_beginStep_74 118 g (Int32.ofNat k) s0 (0 : Int32) μ = some (Int32.ofNat (sL S), μ') ∧ Fr (Pst g) μ μ' ∧ PDb μ' g S k ∧ PTk μ' 119 n B (lxE (tx B) n e) := by
  obtain ⟨d1, d2, d3, d4, d5⟩ := D
  obtain ⟨m2, hm2⟩ : ∃ m, m = dtSI (dtSI μ (g + 1) (sL S) (Int32.ofNat k)) g 2 (Int32.ofNat (sL S + 1)) := ⟨_, rfl⟩
  have ap := p_append (w := Int32.ofNat k) C hg d2 hL
  rw [← hm2] at ap
  have F2 : Fr (fun kk j => (kk = g + 1 ∧ j = sL S) ∨ (kk = g ∧ j = 2)) μ m2 := by
    rw [hm2]; exact (Fr.SI (Or.inl ⟨rfl, rfl⟩)).tr (Fr.SI (Or.inr ⟨rfl, rfl⟩))
  have C2 := C.kept F2
  obtain ⟨m3, hm3⟩ : ∃ m, m = dtSI m2 g 1 (Int32.ofNat (sC S + 1)) := ⟨_, rfl⟩
  have F3 : Fr (fun kk j => kk = g ∧ j = 1) m2 m3 := by
    rw [hm3]; exact Fr.SI ⟨rfl, rfl⟩
  have C3 := C2.kept F3
  have g1 : opGI 0 1 m2 g = some (Int32.ofNat (sC S)) := by
    rw [o_GI (C2.dShw hg).1, F2.i (by omega), d1]
  have v1 : dtI m3 g 1 = Int32.ofNat (sC S + 1) := by rw [hm3, m_I_SI, if_pos ⟨rfl, rfl⟩]
  have v2 : dtI m3 g 2 = Int32.ofNat (sL S + 1) := by rw [F3.i (by omega), hm2, m_I_SI, if_pos ⟨rfl, rfl⟩]
  have v3 : dtI m3 118 2 = Int32.ofNat (sN S) := by rw [F3.i (by omega), F2.i (by omega)]; exact d3
  have v4 : ∀ i, i < sN S → dtI m3 121 i = Int32.ofNat (sB S i) := fun i hi => by rw [F3.i (by omega), F2.i (by omega)]; exact d4 i hi
  have v5 : dtI m3 (g + 1) (sL S) = Int32.ofNat k := by rw [F3.i (by omega), hm2, m_I_SI, if_neg (by omega), m_I_SI, if_pos ⟨rfl, rfl⟩]
  have v6 : PDe m3 g S := (d5.kept F2 (by intros; omega)).kept F3 (by intros; omega)
  have H3 : PTk m3 119 n B e := (H.kept F2 (by intros; omega) (by intros; omega)).kept F3 (by intros; omega) (by intros; omega)
  have F03 : Fr (Pst g) μ m3 := (F2.wide (fun kk j x => Or.inr (Or.inl (by omega)))).tr (F3.wide (fun kk j x => Or.inr (Or.inl (by omega))))
  have base : f_X1_beginStep_74 118 g (Int32.ofNat k) s0 (0 : Int32) μ = if s0 = 0 then (f_X1_beginStep_133 118 (Int32.ofNat (sL S)) m3) else ((opGR 1 1 m3 118).bind fun x15 => (opGI 1 2 m3 118).bind fun x17 => (opSI m3 x15 x17 (Int32.ofNat (sL S))).bind fun μ19 => (opGI 1 2 μ19 118).bind fun x21 => (opPI 1 2 μ19 118 (x21 + (1 : Int32))).bind fun μ23 => f_X1_beginStep_133 118 (Int32.ofNat (sL S)) μ23) := by
    rw [f_X1_beginStep_74, if_pos rfl, o_Rv (C.dShw hg).1, o_bind, ap, o_call, g1, o_bind, show (1 : Int32) = Int32.ofNat 1 from rfl, z_add, o_PI (C2.dShw hg).1, o_bind, ← hm3]
  have fin : ∀ m, CX m → PTk m 119 n B e → ∃ μ', f_X1_beginStep_133 118 (Int32.ofNat (sL S)) m = some (Int32.ofNat (sL S), μ') ∧ Fr (Ptk 119) m μ' ∧ PTk μ' 119 n B (lxE (tx B) n e) := fun m Cm Hm => by
    obtain ⟨μ1, e1, F1, H1⟩ := Hm.adv
    exact ⟨μ1, by rw [f_X1_beginStep_133, Cm.g118_0, o_bind, Hm.1.v, o_bind, e1, o_bind], F1, H1⟩
  have n1 : ∀ kk j, ¬ kk = 119 → ¬ Ptk 119 kk j := fun kk j h x => h x.1
  rw [base]
  rcases h0 with ⟨z, nn⟩ | ⟨z, yy⟩
  · rw [z, if_pos rfl]
    obtain ⟨μ4, e4, F4, H4⟩ := fin m3 C3 H3
    refine ⟨μ4, e4, F03.tr (F4.wide (fun _ _ x => Or.inl (Ptk.c x))), ⟨?_, ?_, ?_, fun i hi => ?_, ?_, v6.kept F4 (fun kk j a b _ => n1 kk j (by omega))⟩, H4⟩
    · rw [F4.i (n1 _ _ (by omega))]; exact v1
    · rw [F4.i (n1 _ _ (by omega))]; exact v2
    · rw [F4.i (n1 _ _ (by omega)), add_Nn nn]; exact v3
    · rw [add_Nn nn] at hi
      rw [F4.i (n1 _ _ (by omega)), add_B hi]; exact v4 i hi
    · rw [F4.i (n1 _ _ (by omega))]; exact v5
  · have n3 := hN yy
    obtain ⟨m4, hm4⟩ : ∃ m, m = dtSI m3 121 (sN S) (Int32.ofNat (sL S)) := ⟨_, rfl⟩
    have F4 : Fr (fun kk j => kk = 121 ∧ j = sN S) m3 m4 := by
      rw [hm4]; exact Fr.SI ⟨rfl, rfl⟩
    have C4 := C3.kept F4
    obtain ⟨m5, hm5⟩ : ∃ m, m = dtSI m4 118 2 (Int32.ofNat (sN S + 1)) := ⟨_, rfl⟩
    have F5 : Fr (fun kk j => kk = 118 ∧ j = 2) m4 m5 := by
      rw [hm5]; exact Fr.SI ⟨rfl, rfl⟩
    have C5 := C4.kept F5
    have H5 : PTk m5 119 n B e := (H3.kept F4 (by intros; omega) (by intros; omega)).kept F5 (by intros; omega) (by intros; omega)
    obtain ⟨μ6, e6, F6, H6⟩ := fin m5 C5 H5
    refine ⟨μ6, ?_, F03.tr ((F4.wide (fun kk j x => Or.inr (Or.inr (Or.inr x.1)))).tr ((F5.wide (fun kk j x => Or.inr (Or.inr (Or.inl x)))).tr (F6.wide (fun _ _ x => Or.inl (Ptk.c x))))), ⟨?_, ?_, ?_, fun i hi => ?_, ?_, ((v6.kept F4 (by intros; omega)).kept F5 (by intros; omega)).kept F6 (fun kk j a b _ => n1 kk j (by omega))⟩, H6⟩
    · have g2 : opGI 1 2 m3 118 = some (Int32.ofNat (sN S)) := by rw [o_GI C3.s118, v3]
      have g3 : opGI 1 2 m4 118 = some (Int32.ofNat (sN S)) := by rw [o_GI C4.s118, F4.i (by omega), v3]
      rw [if_neg (by rw [z]; decide), C3.g118_1, o_bind, g2, o_bind, o_SI C3.s121 n3 (by decide), o_bind, ← hm4, g3, o_bind, show (1 : Int32) = Int32.ofNat 1 from rfl, z_add, o_PI C4.s118, o_bind, ← hm5]
      exact e6
    · rw [F6.i (n1 _ _ (by omega)), F5.i (by omega), F4.i (by omega)]; exact v1
    · rw [F6.i (n1 _ _ (by omega)), F5.i (by omega), F4.i (by omega)]; exact v2
    · rw [F6.i (n1 _ _ (by omega)), add_Ny yy, hm5, m_I_SI, if_pos ⟨rfl, rfl⟩]
    · rw [add_Ny yy] at hi
      rw [F6.i (n1 _ _ (by omega)), F5.i (by omega)]
      by_cases q : i = sN S
      · rw [q, add_Bn yy, hm4, m_I_SI, if_pos ⟨rfl, rfl⟩]
      · rw [add_B (by omega), F4.i (by omega)]; exact v4 i (by omega)
    · rw [F6.i (n1 _ _ (by omega)), F5.i (by omega), F4.i (by omega)]; exact v5
theorem p_74f {μ : dtM} {n e g w : Nat} {B : Nat → Int32} {x s0 : Int32} (C : CX μ) (H : PTk μ 119 n B e) (hw : 0 < w ∧ w < 100) : ∃ μ', f_X1_beginStep_74 118 g x s0 (Int32.ofNat w) μ = some (-Int32.ofNat 1, μ') ∧ Fr (Pcl 119) μ μ' ∧ PFl μ' 119 (flt (tx B) n e w) := by
  obtain ⟨μ1, e1, F1, R1⟩ := p_flaw (w := w) H
  refine ⟨μ1, ?_, F1, R1⟩
  rw [f_X1_beginStep_74, if_neg (show ¬ Int32.ofNat w = 0 by rw [show (0 : Int32) = Int32.ofNat 0 from rfl, z_eq (by omega) (by decide)]; omega), C.g118_0, o_bind, H.1.v, o_bind, e1, o_call]; rfl
def stW (o : Option Nat) : Bool := match o with
  | some k => decide (k = 4 ∨ k = 19 ∨ k = 21 ∨ k = 23 ∨ (15 ≤ k ∧ k ≤ 18))
  | none => false
theorem p_isStep {μ : dtM} {o : Option Nat} (h : ∀ k, o = some k → k < 24) : f_X1_isStepWord (oN o) μ = some (bI (stW o), μ) := by
  have e34 : f_X1_isStepWord_34 μ = some (bI true, μ) := by rw [f_X1_isStepWord_34, f_X1_isStepWord_39, show (1 : Int32) = Int32.ofNat 1 from rfl, o_ret1']
  have w14 : ∀ ν : dtM, f_X11_within_14 ν = some (bI false, ν) := fun ν => by rw [f_X11_within_14, f_X11_within_15, show (0 : Int32) = Int32.ofNat 0 from rfl, o_ret0']
  cases o with
  | none =>
    rw [f_X1_isStepWord, if_neg (show ¬ oN none = (4 : Int32) from (by decide : ¬ (-1 : Int32) = 4)), if_neg (show ¬ oN none = (19 : Int32) from (by decide : ¬ (-1 : Int32) = 19)), if_neg (show ¬ oN none = (21 : Int32) from (by decide : ¬ (-1 : Int32) = 21)), if_neg (show ¬ oN none = (23 : Int32) from (by decide : ¬ (-1 : Int32) = 23)), f_X11_within, if_pos (show oN none < (15 : Int32) from (by decide : (-1 : Int32) < 15)), w14, o_call, if_pos (by decide), f_X1_isStepWord_39, show (0 : Int32) = Int32.ofNat 0 from rfl, o_ret0']; rfl
  | some k =>
    have hk := h k rfl
    have c : ∀ c, c < 24 → (Int32.ofNat k = Int32.ofNat c) = (k = c) := fun c hc => z_kd hk hc
    have c4 : (oN (some k) = (4 : Int32)) = (k = 4) := c 4 (by decide)
    have c19 : (oN (some k) = (19 : Int32)) = (k = 19) := c 19 (by decide)
    have c21 : (oN (some k) = (21 : Int32)) = (k = 21) := c 21 (by decide)
    have c23 : (oN (some k) = (23 : Int32)) = (k = 23) := c 23 (by decide)
    have l15 : (oN (some k) < (15 : Int32)) = (k < 15) := z_lt (show k < 2147483648 by omega) (show 15 < 2147483648 by decide)
    have l18 : ((18 : Int32) < oN (some k)) = (18 < k) := z_lt (show 18 < 2147483648 by decide) (show k < 2147483648 by omega)
    rw [show stW (some k) = decide (k = 4 ∨ k = 19 ∨ k = 21 ∨ k = 23 ∨ (15 ≤ k ∧ k ≤ 18)) from rfl]
    by_cases a : k = 4
    · rw [f_X1_isStepWord, if_pos (Eq.mpr c4 a), e34, decide_eq_true (Or.inl a)]
    · rw [f_X1_isStepWord, if_neg (fun x => a (Eq.mp c4 x))]
      by_cases b : k = 19
      · rw [if_pos (Eq.mpr c19 b), e34, decide_eq_true (Or.inr (Or.inl b))]
      · rw [if_neg (fun x => b (Eq.mp c19 x))]
        by_cases d : k = 21
        · rw [if_pos (Eq.mpr c21 d), e34, decide_eq_true (Or.inr (Or.inr (Or.inl d)))]
        · rw [if_neg (fun x => d (Eq.mp c21 x))]
          by_cases f : k = 23
          · rw [if_pos (Eq.mpr c23 f), e34, decide_eq_true (Or.inr (Or.inr (Or.inr (Or.inl f))))]
          · rw [if_neg (fun x => f (Eq.mp c23 x)), f_X11_within]
            by_cases l : k < 15
            · rw [if_pos (Eq.mpr l15 l), w14, o_call, if_pos (by decide), f_X1_isStepWord_39, show (0 : Int32) = Int32.ofNat 0 from rfl, o_ret0', decide_eq_false (by omega)]
            · rw [if_neg (fun x => l (Eq.mp l15 x))]
              by_cases m : 18 < k
              · rw [if_pos (Eq.mpr l18 m), w14, o_call, if_pos (by decide), f_X1_isStepWord_39, show (0 : Int32) = Int32.ofNat 0 from rfl, o_ret0', decide_eq_false (by omega)]
              · rw [if_neg (fun x => m (Eq.mp l18 x)), f_X11_within_15, show (1 : Int32) = Int32.ofNat 1 from rfl, o_ret1', o_call, if_neg (by decide), e34, decide_eq_true (by omega)]
