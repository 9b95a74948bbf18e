/-! PURE 991: the odds told -/
def hOd (A : aH) (v : Nat) : aH := ((fun j => if j = 4 then v else hs A j), A.2.1, hm A, hrn A, hpn A)
theorem hOd_s {A : aH} {v j : Nat} (h : ¬ j = 4) : hs (hOd A v) j = hs A j := if_neg h
theorem hOd_4 {A : aH} {v : Nat} : hs (hOd A v) 4 = v := rfl
theorem hOd_ok {A : aH} {v t i : Nat} (q : hok (hOd A v) t i) : hok A t i := q
theorem hOd_W {A : aH} {v : Nat} (W : hWF A) (hv : v ≤ 16) : hWF (hOd A v) := by
  obtain ⟨⟨a0, a1, a2, a3, a4, a5⟩, k⟩ := W
  exact ⟨⟨a0, a1, a2, a3, hv, a5⟩, k⟩
theorem PH.odded {μ μ' : dtM} {h v : Nat} {A : aH} (H : PH μ h A) (hv : v ≤ 16) (F : Fr (fun k j => k = h ∧ j = 4) μ μ') (e4 : dtI μ' h 4 = Int32.ofNat v) : PH μ' h (hOd A v) := by
  obtain ⟨S, V, W⟩ := H
  refine ⟨?_, ⟨fun j hj => ?_, ?_, fun t i q => ?_, fun r hr => ?_, fun p hp => ?_⟩, hOd_W W hv⟩
  · unfold pSh
    rw [F.S, F.Ra]; exact S
  · by_cases x : j = 4
    · subst x; rw [e4, hOd_4]
    · rw [F.i (by omega), hOd_s x]; exact V.1 j hj
  · rw [F.i (by omega)]; exact V.2.1
  · have t20 := hok_t (hOd_ok q)
    have pr := pRow_in (h := h) t20
    rw [F.i (by omega)]; exact V.2.2.1 t i (hOd_ok q)
  · rw [F.j (by omega)]; exact V.2.2.2.1 r hr
  · rw [F.j (by omega)]; exact V.2.2.2.2 p hp
theorem MH.odded {P : Nat → Nat → Prop} {μ μ' : dtM} {B nb v : Nat} {A : aH} (H : MH μ B nb A) (hv : v ≤ 16) (F : Fr P μ μ') (hP : ∀ k j, P k j → k = 133 ∨ (k = 134 ∧ j = B + 4)) (e4 : dtI μ' 134 (B + 4) = Int32.ofNat v) : MH μ' B nb (hOd A v) := by
  obtain ⟨S, V, W⟩ := H
  have no : ∀ j, ¬ j = B + 4 → ¬ P 134 j := fun j q p => by
    have := hP _ _ p
    omega
  refine ⟨?_, ⟨fun j hj => ?_, ?_, fun t i x => ?_, fun wd k hw h1 h2 => ?_, fun r hr => ?_, fun p hp => ?_⟩, hOd_W W hv⟩
  · unfold mSh
    rw [F.S, F.Ra]; exact S
  · by_cases x : j = 4
    · subst x; rw [e4, hOd_4]
    · rw [F.i (no _ (by omega)), hOd_s x]; exact V.1 j hj
  · rw [F.i (no _ (by omega))]; exact V.2.1
  · have m10 := mIdx_hok W (hOd_ok x)
    rw [F.i (no _ (by omega))]; exact V.2.2.1 t i (hOd_ok x)
  · have y : mIdx (4 + k) wd = 40 + 5 * wd + (1 + k) := by
      unfold mIdx
      rw [if_neg (by omega), if_pos (by omega)]; omega
    rw [F.i (no _ (by rw [y]; omega))]; exact V.2.2.2.1 wd k hw h1 h2
  · rw [F.j (fun x => by have := hP _ _ x; omega)]; exact V.2.2.2.2.1 r hr
  · rw [F.j (fun x => by have := hP _ _ x; omega)]; exact V.2.2.2.2.2 p hp
def xOdds (u : Nat → Nat) (n : Nat) (A : aH) (wn : Nat → List Nat) (od : Bool) (e : Nat) : aX ((aH × (Nat → List Nat)) × Nat) := if od = true then .error (flt u n e 5) else xB (xNum u n 0 16 (lxE u n e)) (fun v e1 => .ok ((hOd A v, wn), e1))
abbrev PDo (h : Nat) : Nat → Nat → Prop := fun k j => PDr h k j ∨ (k = 114 ∧ j = 2)
abbrev MDo : Nat → Nat → Prop := fun k j => MDr k j ∨ (k = 133 ∧ j = 20)
theorem p_odds {μ : dtM} {h n e : Nat} {B : Nat → Int32} {A : aH} {wn : Nat → List Nat} {od : Bool} (S : PHN μ h A wn) (H : PTk μ 115 n B e) (fl : dtI μ 114 2 = bI od) : ∃ μ', f_X4_readOdds 114 h μ = some (bI (xOk (xEnd (tx B) n (xOdds (tx B) n A wn od e))), μ') ∧ Fr (PDo h) μ μ' ∧ PRh μ' n B h (xEnd (tx B) n (xOdds (tx B) n A wn od e)) ∧ (xOk (xEnd (tx B) n (xOdds (tx B) n A wn od e)) = true → dtI μ' 114 2 = bI true) := by
  have C := S.1
  have hh := S.2.2.1
  unfold xOdds
  cases od with
  | true =>
    obtain ⟨μ1, e1, F1, H1⟩ := p_flaw (w := 5) H
    rw [if_pos rfl]
    refine ⟨μ1, ?_, F1.wide (fun _ _ x => Or.inl (Or.inl x)), H1, fun x => absurd x (fun y => nomatch y)⟩
    rw [f_X4_readOdds, o_GI C.s114, fl, o_bind, if_neg (show ¬ bI true = 0 from (by decide : ¬ bI true = 0)), C.g114_0, o_bind, H.1.v, o_bind, show (5 : Int32) = Int32.ofNat 5 from rfl, e1, o_call, o_bI]; rfl
  | false =>
    rw [if_neg (show ¬ false = true from fun x => nomatch x)]
    have F0 : Fr (fun k j => k = 114 ∧ j = 2) μ (dtSI μ 114 2 1) := Fr.SI ⟨rfl, rfl⟩
    have S0 : PHN (dtSI μ 114 2 1) h A wn := ⟨C.kept F0, S.2.1.kept F0 (fun k _ _ j x => by omega), hh, S.2.2.2⟩
    have H0 : PTk (dtSI μ 114 2 1) 115 n B e := H.kept F0 (fun j x => by omega) (fun j x => by omega)
    obtain ⟨μ1, e1, F1, H1⟩ := H0.adv
    have S1 := S0.k (F1.wide (fun _ _ x => Ptk.c x))
    obtain ⟨μ2, v, e2, F2, R2⟩ := H1.passNum (lo := 0) (hi := 16) (by decide) (by decide)
    have S2 := S1.k F2
    have F02 : Fr (PDo h) μ μ2 := (F0.wide (fun _ _ x => Or.inr x)).tr ((F1.wide (fun _ _ x => Or.inl (Or.inl (Ptk.c x)))).tr (F2.wide (fun _ _ x => Or.inl (Or.inl x))))
    have fl2 : dtI μ2 114 2 = bI true := by
      rw [F2.i (fun x => by have := x.1; omega), F1.i (fun x => by have := x.1; omega), m_I_SI, if_pos ⟨rfl, rfl⟩]; rfl
    have st : f_X4_readOdds 114 h μ = if v = (-1 : Int32) then (opRet (0 : Int32) μ2) else ((opPI 3 4 μ2 h v).bind fun μ22 => (opGR 4 0 μ22 114).bind fun x24 => (opRv 8 μ22 x24).bind fun _ => opCall (f_X8_passSign x24 (59 : Int32) μ22) fun x29 μ27 => opRet x29 μ27) := by
      rw [f_X4_readOdds, o_GI C.s114, fl, o_bind, if_pos (show bI false = 0 from (by decide : bI false = 0)), o_PZ1 C.s114, o_bind, S0.1.g114_0, o_bind, H0.1.v, o_bind, e1, o_bind, S1.1.g114_0, o_bind, H1.1.v, o_bind, show (0 : Int32) = Int32.ofNat 0 from rfl, show (16 : Int32) = Int32.ofNat 16 from rfl, e2, o_call]
    rw [st]
    cases r : xNum (tx B) n 0 16 (lxE (tx B) n e) with
    | error x =>
      rw [r] at R2
      obtain ⟨r1, r2⟩ := R2
      rw [xB_e]
      refine ⟨μ2, ?_, F02, r2, fun x => absurd x (fun y => nomatch y)⟩
      rw [r1, if_pos (show -Int32.ofNat 1 = (-1 : Int32) from rfl), show (0 : Int32) = Int32.ofNat 0 from rfl, o_ret0']; rfl
    | ok y =>
      have yv := (xNum_le r).1
      rw [r] at R2
      obtain ⟨r1, H2⟩ := R2
      have F3 : Fr (fun k j => k = h ∧ j = 4) μ2 (dtSI μ2 h 4 (Int32.ofNat y.1)) := Fr.SI ⟨rfl, rfl⟩
      have S3 : PHN (dtSI μ2 h 4 (Int32.ofNat y.1)) h (hOd A y.1) wn := ⟨S2.1.kept F3, S2.2.1.odded yv F3 (by rw [m_I_SI, if_pos ⟨rfl, rfl⟩]), hh, fun k hk => S2.2.2.2 k hk⟩
      have H3 : PTk (dtSI μ2 h 4 (Int32.ofNat y.1)) 115 n B y.2 := H2.kept F3 (fun j x => by omega) (fun j x => by omega)
      obtain ⟨μ4, e4, F4, R4⟩ := p_end S3 H3
      rw [xB_o]
      refine ⟨μ4, ?_, F02.tr ((F3.wide (fun k j x => Or.inl (Or.inr (Or.inl (by omega))))).tr (F4.wide (fun _ _ x => Or.inl (Or.inl x)))), R4, fun _ => ?_⟩
      · rw [r1, if_neg (nm1 (by omega)), o_PI S2.2.1.s0, o_bind, S3.1.g114_0, o_bind, H3.1.v, o_bind, e4, o_call, o_bI]
      · rw [F4.i (fun x => by have := x.1; omega), F3.i (fun x => by omega)]; exact fl2
theorem n_odds {μ : dtM} {n e : Nat} {B : Nat → Int32} {A : aH} {wn : Nat → List Nat} (S : MHN μ A wn) (H : MTk μ n B e) (h0 : M0f μ) : ∃ μ', f_X12_number 133 (2020 : Int32) (0 : Int32) (16 : Int32) μ = some (bI (xOk (xB (xNum (tx B) n 0 16 e) (fun v e1 => (.ok ((hOd A v, wn), e1) : aX ((aH × (Nat → List Nat)) × Nat))))), μ') ∧ Fr MDr μ μ' ∧ MRh μ' n B (xB (xNum (tx B) n 0 16 e) (fun v e1 => .ok ((hOd A v, wn), e1))) := by
  obtain ⟨μ1, e1, F1, R1⟩ := H.number h0 (t := 2020) (by decide) (lo := 0) (hi := 16) (by decide) (by decide)
  have F1' : Fr MDr μ μ1 := F1.wide (fun k j x => x.elim Or.inl (fun y => Or.inr (Or.inl (by omega))))
  cases r : xNum (tx B) n 0 16 e with
  | error x =>
    rw [r] at e1 R1
    rw [xB_e]
    exact ⟨μ1, e1, F1', R1⟩
  | ok y =>
    have yv := (xNum_le r).1
    rw [r] at e1 R1
    obtain ⟨r1, H1, h1⟩ := R1
    rw [xB_o]
    refine ⟨μ1, e1, F1', ⟨S.1.kept F1, S.2.1.odded yv F1 (fun k j x => by
      rcases x with x | x
      · exact Or.inl x.1
      · exact Or.inr x) r1, fun k hk => ?_⟩, H1, h1⟩
    rw [F1.j (fun x => by
      have y : (135 = 133 ∧ _) ∨ (135 = 134 ∧ _) := x
      omega)]
    exact S.2.2 k hk
