/-! PURE 99993: the days' text, orders, the model -/
theorem xRow_0 {u : Nat → Nat} {n e k : Nat} {A : aH} (h : k = 18 ∨ k = 22 ∨ k = 23) : xRow u n A k e = .ok ((0, 0, 0, 0), e) := by
  unfold xRow
  rw [if_neg (by omega), if_neg (by omega), if_neg (by omega), if_neg (by omega), if_neg (by omega)]
theorem mdR_0 {μ : dtM} {R k : Nat} (hk : dtI μ 134 R = Int32.ofNat (mKd k 0)) (h : k = 18 ∨ k = 22 ∨ k = 23) : mdR μ R (rwV k (0, 0, 0, 0)) := by
  refine ⟨hk, fun x => ?_, fun x => ?_, fun x => ?_, fun x => ?_, fun x => ?_⟩
  · exfalso
    unfold rWho at x
    rw [rw0] at x
    omega
  · exfalso
    unfold rTwo at x
    rw [rw0] at x
    omega
  · exfalso
    unfold rOne at x
    rw [rw0] at x
    omega
  · rw [rw0] at x; omega
  · have := x.1
    rw [rw0] at this; omega
theorem n_112 {μ : dtM} {n e R k : Nat} {B : Nat → Int32} {A : aH} (H : MTk μ n B e) (h0 : M0f μ) (HA : MH μ 0 0 A) (hR : 2016 ≤ R ∧ R + 6 ≤ 2656) (k4 : k = 4 ∨ k = 16) (hk : dtI μ 134 R = Int32.ofNat (mKd k 0)) : ∃ μ', f_X12_dayOrder_112 133 (Int32.ofNat R) μ = some (bI (xOk (xRow (tx B) n A k e)), μ') ∧ Fr (Mrw R) μ μ' ∧ MRr μ' n B R k (xRow (tx B) n A k e) := by
  have C := H.1.1
  unfold xRow
  rw [if_neg (by omega), if_pos k4]
  obtain ⟨μ2, e2, F2, R2⟩ := n_personTo (t := R + 1) H h0 HA (by omega)
  have C2 := C.kept F2
  have HA2 := HA.kM (F2.wide (fun _ _ x => x.m (by omega)))
  have FF2 : Fr (Mrw R) μ μ2 := F2.wide (fun _ _ x => Mat.r (by decide) x)
  cases r : xOld (tx B) n (hpn A) (hs A 3) e with
  | error x =>
    rw [r] at e2 R2
    rw [xB_e]
    refine ⟨μ2, ?_, FF2, R2⟩
    rw [f_X12_dayOrder_112, C.v133, o_bind, show (1 : Int32) = Int32.ofNat 1 from rfl, z_add, e2, o_call, if_pos bI_f, f_X12_dayOrder_136, f_X12_dayOrder_137, show (0 : Int32) = Int32.ofNat 0 from rfl, o_ret0']; rfl
  | ok p =>
    rw [r] at e2 R2
    obtain ⟨w2, H2, h2⟩ := R2
    rw [xB_o]
    obtain ⟨μ3, e3, F3, R3⟩ := n_doorTo (t := R + 2) H2 h2 HA2 (by omega)
    have FF3 : Fr (Mrw R) μ μ3 := FF2.tr (F3.wide (fun _ _ x => Mat.r (by decide) x))
    cases r3 : xDr (tx B) n (hs A 1) p.2 with
    | error x =>
      rw [r3] at e3 R3
      rw [xB_e]
      refine ⟨μ3, ?_, FF3, R3⟩
      rw [f_X12_dayOrder_112, C.v133, o_bind, show (1 : Int32) = Int32.ofNat 1 from rfl, show (2 : Int32) = Int32.ofNat 2 from rfl, z_add, z_add, e2, o_call, if_neg bI_t, C2.v133, o_bind, e3, o_call, if_pos bI_f, f_X12_dayOrder_136, f_X12_dayOrder_137, show (0 : Int32) = Int32.ofNat 0 from rfl, o_ret0']; rfl
    | ok d =>
      rw [r3] at e3 R3
      obtain ⟨w3, H3, h3⟩ := R3
      rw [xB_o]
      refine ⟨μ3, ?_, FF3, ⟨?_, fun _ => ?_, fun _ => w3, fun x => ?_, fun x => ?_, fun x => ?_⟩, H3, h3⟩
      · rw [f_X12_dayOrder_112, C.v133, o_bind, show (1 : Int32) = Int32.ofNat 1 from rfl, show (2 : Int32) = Int32.ofNat 2 from rfl, z_add, z_add, e2, o_call, if_neg bI_t, C2.v133, o_bind, e3, o_call, if_neg bI_t, f_X12_dayOrder_137, o_ret1']; rfl
      · rw [F3.i (fun x => by have := x.n (by decide); omega), F2.i (fun x => by have := x.n (by decide); omega)]; exact hk
      · rw [F3.i (fun x => by have := x.n (by decide); omega)]; exact w2
      · exfalso
        unfold rOne at x
        rw [rw0] at x
        omega
      · rw [rw0] at x; omega
      · have := x.1
        rw [rw0] at this; omega
theorem n_76 {μ : dtM} {n e R : Nat} {B : Nat → Int32} {A : aH} (H : MTk μ n B e) (h0 : M0f μ) (HA : MH μ 0 0 A) (hR : 2016 ≤ R ∧ R + 6 ≤ 2656) (hk : dtI μ 134 R = Int32.ofNat 15) : ∃ μ', f_X12_dayOrder_76 133 (Int32.ofNat R) μ = some (bI (xOk (xRow (tx B) n A 15 e)), μ') ∧ Fr (Mrw R) μ μ' ∧ MRr μ' n B R 15 (xRow (tx B) n A 15 e) := by
  have C := H.1.1
  unfold xRow
  rw [if_pos rfl]
  obtain ⟨μ2, e2, F2, R2⟩ := n_personTo (t := R + 1) H h0 HA (by omega)
  have C2 := C.kept F2
  have HA2 := HA.kM (F2.wide (fun _ _ x => x.m (by omega)))
  have FF2 : Fr (Mrw R) μ μ2 := F2.wide (fun _ _ x => Mat.r (by decide) x)
  have st : f_X12_dayOrder_76 133 (Int32.ofNat R) μ = opCall (f_X12_personTo 133 (Int32.ofNat (R + 1)) μ) fun x4 μ2 => if x4 = 0 then (f_X12_dayOrder_110 μ2) else ((opRv 12 μ2 133).bind fun _ => opCall (f_X12_doorTo 133 (Int32.ofNat (R + 2)) μ2) fun x11 μ9 => if x11 = 0 then (f_X12_dayOrder_110 μ9) else ((opRv 12 μ9 133).bind fun _ => opCall (f_X12_soundTo 133 (Int32.ofNat (R + 3)) μ9) fun x18 μ16 => if x18 = 0 then (f_X12_dayOrder_110 μ16) else (f_X12_dayOrder_111 (1 : Int32) μ16))) := by
    rw [f_X12_dayOrder_76, C.v133, o_bind, show (1 : Int32) = Int32.ofNat 1 from rfl, show (2 : Int32) = Int32.ofNat 2 from rfl, show (3 : Int32) = Int32.ofNat 3 from rfl, z_add, z_add, z_add]
  have e110 : ∀ ν, f_X12_dayOrder_110 ν = some (bI false, ν) := fun ν => by rw [f_X12_dayOrder_110, f_X12_dayOrder_111, show (0 : Int32) = Int32.ofNat 0 from rfl, o_ret0']
  rw [st]
  cases r : xOld (tx B) n (hpn A) (hs A 3) e with
  | error x =>
    rw [r] at e2 R2
    rw [xB_e]
    refine ⟨μ2, ?_, FF2, R2⟩
    rw [e2, o_call, if_pos bI_f, e110]; rfl
  | ok p =>
    rw [r] at e2 R2
    obtain ⟨w2, H2, h2⟩ := R2
    rw [xB_o]
    obtain ⟨μ3, e3, F3, R3⟩ := n_doorTo (t := R + 2) H2 h2 HA2 (by omega)
    have C3 := C2.kept F3
    have FF3 : Fr (Mrw R) μ μ3 := FF2.tr (F3.wide (fun _ _ x => Mat.r (by decide) x))
    cases r3 : xDr (tx B) n (hs A 1) p.2 with
    | error x =>
      rw [r3] at e3 R3
      rw [xB_e]
      refine ⟨μ3, ?_, FF3, R3⟩
      rw [e2, o_call, if_neg bI_t, C2.v133, o_bind, e3, o_call, if_pos bI_f, e110]; rfl
    | ok d =>
      rw [r3] at e3 R3
      obtain ⟨w3, H3, h3⟩ := R3
      rw [xB_o]
      obtain ⟨μ4, e4, F4, R4⟩ := n_soundTo (t := R + 3) H3 h3 (by omega)
      have FF4 : Fr (Mrw R) μ μ4 := FF3.tr (F4.wide (fun _ _ x => Mat.r (by decide) x))
      cases r4 : xSnd (tx B) n d.2 with
      | error x =>
        rw [r4] at e4 R4
        rw [xB_e]
        refine ⟨μ4, ?_, FF4, R4⟩
        rw [e2, o_call, if_neg bI_t, C2.v133, o_bind, e3, o_call, if_neg bI_t, C3.v133, o_bind, e4, o_call, if_pos bI_f, e110]; rfl
      | ok s =>
        rw [r4] at e4 R4
        obtain ⟨w4, H4, h4⟩ := R4
        rw [xB_o]
        refine ⟨μ4, ?_, FF4, ⟨?_, fun _ => ?_, fun _ => ?_, fun x => ?_, fun _ => w4, fun x => absurd x.1 (show ¬ 15 = 19 by decide)⟩, H4, h4⟩
        · rw [e2, o_call, if_neg bI_t, C2.v133, o_bind, e3, o_call, if_neg bI_t, C3.v133, o_bind, e4, o_call, if_neg bI_t, f_X12_dayOrder_111, show (1 : Int32) = Int32.ofNat 1 from rfl, o_ret1']; rfl
        · rw [F4.i (fun x => by have := x.n (by decide); omega), F3.i (fun x => by have := x.n (by decide); omega), F2.i (fun x => by have := x.n (by decide); omega)]; exact hk
        · rw [F4.i (fun x => by have := x.n (by decide); omega), F3.i (fun x => by have := x.n (by decide); omega)]; exact w2
        · rw [F4.i (fun x => by have := x.n (by decide); omega)]; exact w3
        · exact x.elim (fun z => absurd z (show ¬ 15 = 21 by decide)) (fun z => absurd z.1 (show ¬ 15 = 19 by decide))
theorem n_138 {μ : dtM} {n e R : Nat} {B : Nat → Int32} {A : aH} (H : MTk μ n B e) (h0 : M0f μ) (HA : MH μ 0 0 A) (hR : 2016 ≤ R ∧ R + 6 ≤ 2656) (hk : dtI μ 134 R = Int32.ofNat 17) : ∃ μ', f_X12_dayOrder_138 133 (Int32.ofNat R) μ = some (bI (xOk (xRow (tx B) n A 17 e)), μ') ∧ Fr (Mrw R) μ μ' ∧ MRr μ' n B R 17 (xRow (tx B) n A 17 e) := by
  have C := H.1.1
  unfold xRow
  rw [if_neg (by decide), if_neg (by decide), if_pos rfl]
  obtain ⟨μ2, e2, F2, R2⟩ := n_personTo (t := R + 1) H h0 HA (by omega)
  have FF2 : Fr (Mrw R) μ μ2 := F2.wide (fun _ _ x => Mat.r (by decide) x)
  have es : f_X12_dayOrder_138 133 (Int32.ofNat R) μ = some (bI (xOk (xOld (tx B) n (hpn A) (hs A 3) e)), μ2) := by
    rw [f_X12_dayOrder_138, C.v133, o_bind, show (1 : Int32) = Int32.ofNat 1 from rfl, z_add, e2, o_call, o_bI]
  rw [es]
  cases r : xOld (tx B) n (hpn A) (hs A 3) e with
  | error x =>
    rw [r] at R2
    rw [xB_e]
    exact ⟨μ2, rfl, FF2, R2⟩
  | ok p =>
    rw [r] at R2
    obtain ⟨w2, H2, h2⟩ := R2
    rw [xB_o]
    refine ⟨μ2, rfl, FF2, ⟨?_, fun _ => w2, fun x => ?_, fun x => ?_, fun x => absurd x (show ¬ 17 = 15 by decide), fun x => absurd x.1 (show ¬ 17 = 19 by decide)⟩, H2, h2⟩
    · rw [F2.i (fun x => by have := x.n (by decide); omega)]; exact hk
    · exfalso
      unfold rTwo at x
      rw [rw0] at x
      omega
    · exfalso
      unfold rOne at x
      rw [rw0] at x
      omega
theorem n_146 {μ : dtM} {n e R : Nat} {B : Nat → Int32} {A : aH} (H : MTk μ n B e) (h0 : M0f μ) (hR : 2016 ≤ R ∧ R + 6 ≤ 2656) (hk : dtI μ 134 R = Int32.ofNat 20) : ∃ μ', f_X12_dayOrder_146 133 (Int32.ofNat R) μ = some (bI (xOk (xRow (tx B) n A 21 e)), μ') ∧ Fr (Mrw R) μ μ' ∧ MRr μ' n B R 21 (xRow (tx B) n A 21 e) := by
  have C := H.1.1
  unfold xRow
  rw [if_neg (by decide), if_neg (by decide), if_neg (by decide), if_pos rfl]
  obtain ⟨μ2, e2, F2, R2⟩ := H.number h0 (t := R + 1) (by omega) (lo := 1) (hi := 99) (by decide) (by decide)
  have FF2 : Fr (Mrw R) μ μ2 := F2.wide (fun _ _ x => Mat.r (by decide) x)
  have es : f_X12_dayOrder_146 133 (Int32.ofNat R) μ = some (bI (xOk (xNum (tx B) n 1 99 e)), μ2) := by
    rw [f_X12_dayOrder_146, C.v133, o_bind, show (1 : Int32) = Int32.ofNat 1 from rfl, show (99 : Int32) = Int32.ofNat 99 from rfl, z_add, e2, o_call, o_bI]
  rw [es]
  cases r : xNum (tx B) n 1 99 e with
  | error x =>
    rw [r] at R2
    rw [xB_e]
    exact ⟨μ2, rfl, FF2, R2⟩
  | ok p =>
    rw [r] at R2
    obtain ⟨w2, H2, h2⟩ := R2
    rw [xB_o]
    refine ⟨μ2, rfl, FF2, ⟨?_, fun x => ?_, fun x => ?_, fun _ => w2, fun x => absurd x (show ¬ 21 = 15 by decide), fun x => absurd x.1 (show ¬ 21 = 19 by decide)⟩, H2, h2⟩
    · rw [F2.i (fun x => by have := x.n (by decide); omega)]; exact hk
    · exfalso
      unfold rWho at x
      rw [rw0] at x
      omega
    · exfalso
      unfold rTwo at x
      rw [rw0] at x
      omega
theorem n_order {μ : dtM} {n e R k : Nat} {B : Nat → Int32} {A : aH} (H : MTk μ n B e) (h0 : M0f μ) (HA : MH μ 0 0 A) (hR : 2016 ≤ R ∧ R + 6 ≤ 2656) (sk : stK k ∨ k = 22) (hk : dtI μ 134 R = Int32.ofNat (kwM.getD k 99)) : ∃ μ', f_X12_dayOrder 133 (Int32.ofNat (kwM.getD k 99)) (Int32.ofNat R) μ = some (bI (xOk (xRow (tx B) n A k e)), μ') ∧ Fr (Mrw R) μ μ' ∧ MRr μ' n B R k (xRow (tx B) n A k e) := by
  have C := H.1.1
  have m0 : ∀ k, (k = 18 ∨ k = 22 ∨ k = 23) → dtI μ 134 R = Int32.ofNat (mKd k 0) → ∃ μ', f_X12_dayOrder_163 μ = some (bI (xOk (xRow (tx B) n A k e)), μ') ∧ Fr (Mrw R) μ μ' ∧ MRr μ' n B R k (xRow (tx B) n A k e) := fun k h1 h2 => by
    rw [xRow_0 h1]
    exact ⟨μ, by rw [f_X12_dayOrder_163, show (1 : Int32) = Int32.ofNat 1 from rfl, o_ret1']; rfl, Fr.rf, mdR_0 h2 h1, H, h0⟩
  rw [f_X12_dayOrder]
  rcases sk with sk | rfl
  · unfold stK at sk
    rcases sk with rfl | rfl | rfl | rfl | rfl | rfl | rfl | rfl
    · rw [if_pos (by decide)]; exact n_112 H h0 HA hR (Or.inl rfl) hk
    · rw [if_neg (by decide), if_pos (by decide)]; exact n_76 H h0 HA hR hk
    · rw [if_neg (by decide), if_neg (by decide), if_pos (by decide)]; exact n_112 H h0 HA hR (Or.inr rfl) hk
    · rw [if_neg (by decide), if_neg (by decide), if_neg (by decide), if_pos (by decide)]; exact n_138 H h0 HA hR hk
    · rw [if_neg (by decide), if_neg (by decide), if_neg (by decide), if_neg (by decide), if_neg (by decide), if_neg (by decide)]; exact m0 18 (Or.inl rfl) hk
    · rw [if_neg (by decide), if_neg (by decide), if_neg (by decide), if_neg (by decide), if_pos (by decide)]
      have x19 : xRow (tx B) n A 19 e = xTst (tx B) n A e := by
        unfold xRow
        rw [if_neg (by decide), if_neg (by decide), if_neg (by decide), if_neg (by decide), if_pos rfl]
      obtain ⟨μ1, e1, F1, R1⟩ := n_test H h0 HA hR
      rw [x19]
      refine ⟨μ1, ?_, F1, R1⟩
      rw [f_X12_dayOrder_157, C.v133, o_bind, e1, o_call, o_bI]
    · rw [if_neg (by decide), if_neg (by decide), if_neg (by decide), if_neg (by decide), if_neg (by decide), if_pos (by decide)]; exact n_146 H h0 hR hk
    · rw [if_neg (by decide), if_neg (by decide), if_neg (by decide), if_neg (by decide), if_neg (by decide), if_neg (by decide)]; exact m0 23 (Or.inr (Or.inr rfl)) hk
  · rw [if_neg (by decide), if_neg (by decide), if_neg (by decide), if_neg (by decide), if_neg (by decide), if_neg (by decide)]; exact m0 22 (Or.inr (Or.inl rfl)) hk
