/-! PURE 86: a room told, on both sides -/
def xB {α β : Type} (r : aX (α × Nat)) (f : α → Nat → aX β) : aX β := match r with
  | .ok y => f y.1 y.2
  | .error x => .error x
theorem xB_o {α β : Type} {y : α × Nat} {f : α → Nat → aX β} : xB (.ok y) f = f y.1 y.2 := rfl
theorem xB_e {α β : Type} {x : Nat × Nat} {f : α → Nat → aX β} : xB (.error x) f = .error x := rfl
def xEnd {α : Type} (u : Nat → Nat) (n : Nat) (r : aX (α × Nat)) : aX (α × Nat) := xB r (fun a e1 => xB ((xSign u n 59 e1).map (fun e2 => ((), e2))) (fun _ e2 => .ok (a, e2)))
def hRm (A : aH) (l : List Nat) : aH := (dtUp A.1 0 (hs A 0 + 1), A.2.1, hm A, (fun r => if r = hs A 0 then l else hrn A r), hpn A)
theorem hRm_s {A : aH} {l : List Nat} {j : Nat} (h : ¬ j = 0) : hs (hRm A l) j = hs A j := if_neg h
theorem hRm_0 {A : aH} {l : List Nat} : hs (hRm A l) 0 = hs A 0 + 1 := by
  show dtUp A.1 0 (hs A 0 + 1) 0 = _
  unfold dtUp
  exact if_pos rfl
theorem hRm_t {A : aH} {l : List Nat} {t i : Nat} : ht (hRm A l) t i = ht A t i := rfl
theorem hRm_ok {A : aH} {l : List Nat} {t i : Nat} (q : hok (hRm A l) t i) : hok A t i := by
  unfold hok at q ⊢
  rw [hRm_s (by decide), hRm_s (by decide), hRm_s (by decide), hRm_t, hRm_t] at q
  exact q
theorem hRm_W {A : aH} {l : List Nat} (W : hWF A) (h7 : hs A 0 < 7) (ok : nOk l) : hWF (hRm A l) := by
  obtain ⟨⟨a0, a1, a2, a3, a4, a5⟩, b, c, d, f, g⟩ := W
  unfold hWF
  rw [hRm_0, hRm_s (by decide), hRm_s (by decide), hRm_s (by decide), hRm_s (by decide), hRm_s (by decide)]
  refine ⟨⟨by omega, a1, a2, a3, a4, a5⟩, fun x hx => ?_, fun x hx => ?_, fun x hx => ?_, fun r hr => ?_, fun p hp => g p hp⟩
  · have := b x hx
    exact ⟨Nat.lt_succ_of_lt this.1, Nat.lt_succ_of_lt this.2.1, this.2.2⟩
  · exact c x hx
  · have := d x hx
    exact ⟨Nat.lt_succ_of_lt this.1, this.2⟩
  · show nOk (if r = hs A 0 then l else hrn A r)
    by_cases x : r = hs A 0
    · rw [if_pos x]; exact ok
    · rw [if_neg x]; exact f r (by omega)
theorem PH.roomed {μ μ' : dtM} {h : Nat} {A : aH} {l : List Nat} (H : PH μ h A) (h7 : hs A 0 < 7) (ok : nOk l) (F : Fr (fun k j => (k = h + 1 ∧ j = hs A 0) ∨ (k = h ∧ j = 0)) μ μ') (e1 : dtJ μ' (h + 1) (hs A 0) = n32 l) (e2 : dtI μ' h 0 = Int32.ofNat (hs A 0 + 1)) : PH μ' h (hRm A l) := by
  obtain ⟨S, V, W⟩ := H
  refine ⟨?_, ⟨fun j hj => ?_, ?_, fun t i q => ?_, fun r hr => ?_, fun p hp => ?_⟩, hRm_W W h7 ok⟩
  · unfold pSh
    rw [F.S, F.Ra]; exact S
  · by_cases e : j = 0
    · subst e; rw [e2, hRm_0]
    · rw [F.i (by omega), hRm_s e]; exact V.1 j hj
  · rw [F.i (by omega)]; exact V.2.1
  · have t20 := hok_t q
    have pr := pRow_in (h := h) t20
    rw [F.i (by omega)]; exact V.2.2.1 t i (hRm_ok q)
  · show dtJ μ' (h + 1) r = n32 (if r = hs A 0 then l else hrn A r)
    by_cases x : r = hs A 0
    · rw [if_pos x, x, e1]
    · rw [if_neg x, F.j (by omega)]
      rw [hRm_0] at hr
      exact V.2.2.2.1 r (by omega)
  · rw [F.j (by omega)]; exact V.2.2.2.2 p hp
theorem MH.roomed {μ μ' : dtM} {b nb : Nat} {A : aH} {l : List Nat} (H : MH μ b nb A) (h7 : hs A 0 < 7) (ok : nOk l) (F : Fr (fun k j => (k = 134 ∧ j = b) ∨ (k = 135 ∧ j = nb + hs A 0)) μ μ') (e1 : dtJ μ' 135 (nb + hs A 0) = n256 l) (e2 : dtI μ' 134 (b + 0) = Int32.ofNat (hs A 0 + 1)) : MH μ' b nb (hRm A l) := by
  obtain ⟨S, V, W⟩ := H
  refine ⟨?_, ⟨fun j hj => ?_, ?_, fun t i x => ?_, fun wd k hw h1 h2 => ?_, fun r hr => ?_, fun p hp => ?_⟩, hRm_W W h7 ok⟩
  · unfold mSh
    rw [F.S, F.Ra]; exact S
  · by_cases e : j = 0
    · subst e; rw [e2, hRm_0]
    · rw [F.i (by omega), hRm_s e]; exact V.1 j hj
  · rw [F.i (by omega)]; exact V.2.1
  · have x' := hRm_ok x
    have y := mIdx_hok W x'
    rw [F.i (by omega)]; exact V.2.2.1 t i x'
  · have y : mIdx (4 + k) wd = 40 + 5 * wd + (1 + k) := by
      unfold mIdx
      rw [if_neg (by omega), if_pos (by omega)]; omega
    rw [F.i (by rw [y]; omega)]; exact V.2.2.2.1 wd k hw h1 h2
  · show dtJ μ' 135 (nb + r) = n256 (if r = hs A 0 then l else hrn A r)
    by_cases x : r = hs A 0
    · rw [if_pos x, x, e1]
    · rw [if_neg x, F.j (by omega)]
      rw [hRm_0] at hr
      exact V.2.2.2.2.1 r (by omega)
  · rw [F.j (by omega)]; exact V.2.2.2.2.2 p hp
/-! what a told part may change -/
abbrev PDr (h : Nat) : Nat → Nat → Prop := fun k j => Pcl 115 k j ∨ (h ≤ k ∧ k ≤ h + 12) ∨ k = 117
abbrev MDr : Nat → Nat → Prop := fun k j => Mcl k j ∨ (k = 134 ∧ 2016 ≤ j ∧ j < 2091 ∧ ¬ j = 2023) ∨ (k = 135 ∧ 76 ≤ j ∧ j < 114)
theorem PTk.kept {P : Nat → Nat → Prop} {μ μ' : dtM} {c n e : Nat} {B : Nat → Int32} (H : PTk μ c n B e) (F : Fr P μ μ') (q : ∀ j, ¬ P c j) (q2 : ∀ j, ¬ P 11 j) : PTk μ' c n B e := by
  obtain ⟨T, he, a, b, d, f, g, i, k⟩ := H
  refine ⟨T.kept F ⟨⟨q 1, q 8, q 9⟩, q2⟩, he, ?_, ?_, ?_, fun x => ?_, fun x => ?_, ?_, ?_⟩
  · rw [F.i (q _)]; exact a
  · rw [F.i (q _)]; exact b
  · rw [F.i (q _)]; exact d
  · rw [F.i (q _)]; exact f x
  · rw [F.i (q _)]; exact g x
  · rw [F.i (q _)]; exact i
  · rw [F.j (q _)]; exact k
theorem MTk.kept {P : Nat → Nat → Prop} {μ μ' : dtM} {n e : Nat} {B : Nat → Int32} (H : MTk μ n B e) (F : Fr P μ μ') (q : ∀ j, ¬ P 133 j) (q2 : ∀ j, ¬ P 140 j) : MTk μ' n B e := by
  obtain ⟨T, he, a, b, c, d, f⟩ := H
  refine ⟨T.kept F ⟨q 11, q2⟩, he, ?_, ?_, ?_, fun x => ?_, fun x => ?_⟩
  · rw [F.i (q _)]; exact a
  · rw [F.i (q _)]; exact b
  · rw [F.i (q _)]; exact c
  · rw [F.i (q _)]; exact d x
  · rw [F.i (q _)]; exact f x
def PRh (μ : dtM) (n : Nat) (B : Nat → Int32) (h : Nat) (r : aX ((aH × (Nat → List Nat)) × Nat)) : Prop := match r with
  | .ok y => PHN μ h y.1.1 y.1.2 ∧ PTk μ 115 n B y.2
  | .error x => PFl μ 115 x
def MRh (μ : dtM) (n : Nat) (B : Nat → Int32) (r : aX ((aH × (Nat → List Nat)) × Nat)) : Prop := match r with
  | .ok y => MHN μ y.1.1 y.1.2 ∧ MTk μ n B y.2 ∧ M0f μ
  | .error x => MFl μ x
/-- a part's end: its sign -/
theorem p_end {μ : dtM} {h n e : Nat} {B : Nat → Int32} {A : aH} {wn : Nat → List Nat} (S : PHN μ h A wn) (H : PTk μ 115 n B e) : ∃ μ', f_X8_passSign 115 (59 : Int32) μ = some (bI (xOk (xEnd (tx B) n (.ok ((A, wn), e)))), μ') ∧ Fr (Pcl 115) μ μ' ∧ PRh μ' n B h (xEnd (tx B) n (.ok ((A, wn), e))) := by
  obtain ⟨μ1, e1, F1, R1⟩ := H.passSign (s := 59) (by decide)
  unfold xEnd
  rw [xB_o]
  cases q : xSign (tx B) n 59 e with
  | ok e2 =>
    rw [q] at e1 R1
    exact ⟨μ1, e1, F1, S.k F1, R1⟩
  | error x =>
    rw [q] at e1 R1
    exact ⟨μ1, e1, F1, R1⟩
theorem n_end {μ : dtM} {n e : Nat} {B : Nat → Int32} {A : aH} {wn : Nat → List Nat} (S : MHN μ A wn) (H : MTk μ n B e) (h0 : M0f μ) : ∃ μ', f_X12_wantSign 133 (59 : Int32) μ = some (bI (xOk (xEnd (tx B) n (.ok ((A, wn), e)))), μ') ∧ Fr Mcl μ μ' ∧ MRh μ' n B (xEnd (tx B) n (.ok ((A, wn), e))) := by
  obtain ⟨μ1, e1, F1, R1⟩ := H.wantSign h0 (s := 59) (by decide)
  unfold xEnd
  rw [xB_o]
  cases q : xSign (tx B) n 59 e with
  | ok e2 =>
    rw [q] at e1 R1
    exact ⟨μ1, e1, F1, S.c F1, R1⟩
  | error x =>
    rw [q] at e1 R1
    exact ⟨μ1, e1, F1, R1⟩
def xRoom (u : Nat → Nat) (n : Nat) (A : aH) (wn : Nat → List Nat) (e : Nat) : aX ((aH × (Nat → List Nat)) × Nat) := xB (xNw u n A wn 0 7 e) (fun l e1 => .ok ((hRm A l, wn), e1))
theorem PHN.roomed {μ : dtM} {h : Nat} {A : aH} {wn : Nat → List Nat} {l : List Nat} (S : PHN μ h A wn) (h7 : hs A 0 < 7) (ok : nOk l) : ∃ μ', f_X3_addRoom h (n32 l) μ = some μ' ∧ Fr (fun k j => (k = h + 1 ∧ j = hs A 0) ∨ (k = h ∧ j = 0)) μ μ' ∧ PHN μ' h (hRm A l) wn := by
  obtain ⟨C, H, hh, N⟩ := S
  have F1 : Fr (fun k j => (k = h + 1 ∧ j = hs A 0) ∨ (k = h ∧ j = 0)) μ (dtSJ μ (h + 1) (hs A 0) (n32 l)) := Fr.SJ (Or.inl ⟨rfl, rfl⟩)
  have F : Fr (fun k j => (k = h + 1 ∧ j = hs A 0) ∨ (k = h ∧ j = 0)) μ (dtSI (dtSJ μ (h + 1) (hs A 0) (n32 l)) h 0 (Int32.ofNat (hs A 0 + 1))) := F1.tr (Fr.SI (Or.inr ⟨rfl, rfl⟩))
  refine ⟨_, ?_, F, C.kept F, H.roomed h7 ok F (by rw [m_J_SI, m_J_SJ, if_pos ⟨rfl, rfl⟩]) (by rw [m_I_SI, if_pos ⟨rfl, rfl⟩]), hh, fun k hk => ?_⟩
  · have g : opGI 3 0 (dtSJ μ (h + 1) (hs A 0) (n32 l)) h = some (Int32.ofNat (hs A 0)) := by
      rw [o_GI (by rw [F1.S]; exact H.s0), m_I_SJ, H.2.1.1 0 (by decide)]
    rw [f_X3_addRoom, H.g0, o_bind, if_neg (show ¬ (7 : Int32) ≤ Int32.ofNat (hs A 0) by rw [show (7 : Int32) = Int32.ofNat 7 from rfl, z_le (by decide) (by omega)]; omega), H.r7, o_bind, o_bind, o_SJ H.s1 h7 (by decide), o_bind, g, o_bind, show (1 : Int32) = Int32.ofNat 1 from rfl, z_add, o_PI (by rw [F1.S]; exact H.s0), o_bind, f_X3_addRoom_29]
  · rw [hRm_s (by decide)] at hk
    rw [F.j (by omega)]; exact N k hk
theorem p_room {μ : dtM} {h n e : Nat} {B : Nat → Int32} {A : aH} {wn : Nat → List Nat} (S : PHN μ h A wn) (H : PTk μ 115 n B e) : ∃ μ', f_X4_readRoom 114 h μ = some (bI (xOk (xEnd (tx B) n (xRoom (tx B) n A wn e))), μ') ∧ Fr (PDr h) μ μ' ∧ PRh μ' n B h (xEnd (tx B) n (xRoom (tx B) n A wn e)) := by
  have C := S.1
  have HH := S.2.1
  have nr := HH.nr
  unfold xRoom xNw
  by_cases q : hs A 0 = 7
  · obtain ⟨μ1, e1, F1, H1⟩ := p_flaw (w := 6) H
    rw [if_pos q, xB_e]
    refine ⟨μ1, ?_, F1.wide (fun _ _ x => Or.inl x), H1⟩
    rw [f_X4_readRoom, HH.g0, o_bind, if_neg (show ¬ Int32.ofNat (hs A 0) < (7 : Int32) by rw [show (7 : Int32) = Int32.ofNat 7 from rfl, z_lt (by omega) (by decide)]; omega), C.g114_0, o_bind, H.1.v, o_bind, show (6 : Int32) = Int32.ofNat 6 from rfl, e1, o_call, o_bI]; rfl
  · rw [if_neg q]
    obtain ⟨μ1, e1, F1, H1⟩ := H.adv
    have S1 := S.k (F1.wide (fun _ _ x => Ptk.c x))
    obtain ⟨μ2, v, e2, F2, R2⟩ := p_newName S1 H1
    have S2 := S1.k F2
    have F12 : Fr (PDr h) μ μ2 := (F1.wide (fun _ _ x => Or.inl (Ptk.c x))).tr (F2.wide (fun _ _ x => Or.inl x))
    have st : f_X4_readRoom 114 h μ = if (lg_cmp v (0 : Int64)) = 0 then (opRet (0 : Int32) μ2) else ((opRv 3 μ2 h).bind fun _ => (f_X3_addRoom h v μ2).bind fun μ19 => (opGR 4 0 μ19 114).bind fun x21 => (opRv 8 μ19 x21).bind fun _ => opCall (f_X8_passSign x21 (59 : Int32) μ19) fun x26 μ24 => opRet x26 μ24) := by
      rw [f_X4_readRoom, HH.g0, o_bind, if_pos (show Int32.ofNat (hs A 0) < (7 : Int32) by rw [show (7 : Int32) = Int32.ofNat 7 from rfl, z_lt (by omega) (by decide)]; omega), C.g114_0, o_bind, H.1.v, o_bind, e1, o_bind, o_Rv S1.1.s114, o_bind, e2, o_call]
    rw [st]
    cases r : xNew (tx B) n A wn (lxE (tx B) n e) with
    | error x =>
      rw [r] at R2
      obtain ⟨r1, r2⟩ := R2
      rw [xB_e]
      refine ⟨μ2, ?_, F12, r2⟩
      rw [r1, if_pos (Eq.mpr (lg0 _) rfl), show (0 : Int32) = Int32.ofNat 0 from rfl, o_ret0']; rfl
    | ok y =>
      rw [r] at R2
      obtain ⟨r1, ok, l1, r2⟩ := R2
      obtain ⟨μ3, e3, F3, S3⟩ := S2.roomed (l := y.1) (by omega) ok
      have H3 : PTk μ3 115 n B y.2 := r2.kept F3 (fun j x => by have := S.2.2.1; omega) (fun j x => by have := S.2.2.1; omega)
      obtain ⟨μ4, e4, F4, R4⟩ := p_end S3 H3
      rw [xB_o]
      refine ⟨μ4, ?_, F12.tr ((F3.wide (fun k j x => Or.inr (Or.inl (by omega)))).tr (F4.wide (fun _ _ x => Or.inl x))), R4⟩
      rw [r1, if_neg (fun x => n32_0 ok l1 (Eq.mp (lg0 _) x)), S2.2.1.rv, o_bind, e3, o_bind, S3.1.g114_0, o_bind, H3.1.v, o_bind, e4, o_call, o_bI]
theorem MTk.at4' {μ : dtM} {n e t : Nat} {B : Nat → Int32} {v : Int32} (H : MTk μ n B e) : MTk (dtSI μ 134 t v) n B e := H.at4
theorem n_room {μ : dtM} {n e : Nat} {B : Nat → Int32} {A : aH} {wn : Nat → List Nat} (S : MHN μ A wn) (H : MTk μ n B e) (h0 : M0f μ) : ∃ μ', f_X12_aRoom 133 μ = some (bI (xOk (xRoom (tx B) n A wn e)), μ') ∧ Fr MDr μ μ' ∧ MRh μ' n B (xRoom (tx B) n A wn e) := by
  have C := S.1
  have nr : hs A 0 ≤ 7 := S.2.1.2.2.1.1
  obtain ⟨μ1, e1, F1, R1⟩ := n_newOne S H h0 (q := 0) (mx := 7) (o := 0) (by decide) ⟨nr, by decide, by decide⟩
  have F1' : Fr MDr μ μ1 := F1.wide (fun k j x => x.elim Or.inl (fun y => Or.inr (Or.inr (by omega))))
  have C1 := C.kept F1
  unfold xRoom
  cases r : xNw (tx B) n A wn 0 7 e with
  | error x =>
    rw [r] at e1 R1
    rw [xB_e]
    refine ⟨μ1, ?_, F1', R1⟩
    rw [f_X12_aRoom, C.v133, o_bind, show (0 : Int32) = Int32.ofNat 0 from rfl, show (7 : Int32) = Int32.ofNat 7 from rfl, e1, o_call, if_pos (show bI (xOk (Except.error x : aX (List Nat × Nat))) = Int32.ofNat 0 from (by decide : bI false = Int32.ofNat 0)), o_ret0']; rfl
  | ok y =>
    rw [r] at e1 R1
    obtain ⟨r1, ok, l1, r2, h1⟩ := R1
    have h7 : hs A 0 < 7 := by
      rcases Nat.lt_or_ge (hs A 0) 7 with x | x
      · exact x
      · rw [show xNw (tx B) n A wn 0 7 e = .error (flt (tx B) n e 6) from if_pos (by omega)] at r
        exact absurd r (fun x => nomatch x)
    have S1 : MHN μ1 A wn := S.k F1 (fun j _ _ _ x => by omega) (fun r hr x => by omega) (fun r hr x => by omega) (fun r hr x => by omega)
    have ct := S1.cnt (j := 0) (by decide)
    have Fx : Fr (fun k j => (k = 134 ∧ j = 2016) ∨ (k = 135 ∧ j = 76 + hs A 0)) μ1 (dtSI μ1 134 2016 (Int32.ofNat (hs A 0 + 1))) := Fr.SI (Or.inl ⟨rfl, rfl⟩)
    rw [xB_o]
    refine ⟨dtSI μ1 134 2016 (Int32.ofNat (hs A 0 + 1)), ?_, F1'.tr (Fr.SI (Or.inr (Or.inl ⟨rfl, by decide, by decide, by decide⟩))), ⟨C1.SI, S1.2.1.roomed h7 ok Fx r1 (by rw [m_I_SI, if_pos ⟨rfl, rfl⟩]), fun k hk => ?_⟩, r2.at4, h1.at4⟩
    · rw [f_X12_aRoom, C.v133, o_bind, show (0 : Int32) = Int32.ofNat 0 from rfl, show (7 : Int32) = Int32.ofNat 7 from rfl, e1, o_call, if_neg (show ¬ bI (xOk (Except.ok y : aX (List Nat × Nat))) = Int32.ofNat 0 from (by decide : ¬ bI true = Int32.ofNat 0)), C1.g133_0, o_bind, show (2016 : Int32) = Int32.ofNat (2016 + 0) from rfl, ct, o_bind, show (1 : Int32) = Int32.ofNat 1 from rfl, z_add, o_SI C1.s134 (by decide) (by decide), o_bind, o_ret1']; rfl
    · rw [hRm_s (by decide)] at hk
      exact S1.2.2 k hk
