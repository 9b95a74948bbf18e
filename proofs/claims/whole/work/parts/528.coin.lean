/-! PURE 68: coin -/
theorem dWF.ge {A A' : aH} {D : aD} (W : dWF A D) (h0 : hs A 0 ≤ hs A' 0) (h1 : hs A 1 ≤ hs A' 1) (h3 : hs A 3 ≤ hs A' 3) : dWF A' D := by
  refine ⟨W.1, fun h => ⟨(W.2 h).1, fun k hk => ?_⟩⟩
  have y := (W.2 h).2 k hk
  refine ⟨y.1, fun a => Nat.lt_of_lt_of_le (y.2.1 a) h3, fun a => Nat.lt_of_lt_of_le (y.2.2.1 a) h1, y.2.2.2.1, fun a => ?_, y.2.2.2.2.2.1, y.2.2.2.2.2.2.1, y.2.2.2.2.2.2.2⟩
  rcases y.2.2.2.2.1 a with q | q | q
  · exact Or.inl ⟨q.1, Nat.lt_of_lt_of_le q.2 h1⟩
  · exact Or.inr (Or.inl ⟨q.1, Nat.lt_of_lt_of_le q.2 h0⟩)
  · exact Or.inr (Or.inr q)
theorem swL.cg {μ : dtM} {h W n : Nat} {s g : Nat → Nat} (L : swL μ h W n s) (e : ∀ k, k < n → s k = g k) : swL μ h W n g := ⟨L.1, fun k hk => by rw [← e k hk]; exact L.2 k hk⟩
theorem Pwd.s {w : aW} {W k j : Nat} (x : Pwd w.1 W k j) : ScHP w k j := Or.inr (by have : (k = w.1 + 6 ∧ j = W) ∨ (k = w.1 + 7 ∧ 4 * W ≤ j ∧ j < 4 * W + 4) := x; omega)
theorem co78 {w : aW} {A : aH} {z : aZ} {i N : Nat} (hi : i < 4) (hN : N < taN (zT z) i) (h4 : N ≤ 4) (h7 : hs A 2 < 7) (kk : ∀ j, j < N → taV (zT z) i j = Int64.ofNat (kkT (zT z) i j) ∧ kkT (zT z) i j < 4) : ∀ (n f j : Nat) (μ : dtM) (fr : aF), j + n = N → n < f → RP μ w fr A z → swL μ w.1 (hs A 2) j (kkT (zT z) i) → ∃ μ', (nwB A N (kkT (zT z) i) (hs A 2) 0 = true → f_X11_coin_78 f 0 (Int32.ofNat i) (Int32.ofNat N) (Int32.ofNat j) μ = some (-Int32.ofNat 1, dtSI μ' 0 0 (Int32.ofNat 7))) ∧ (nwB A N (kkT (zT z) i) (hs A 2) 0 = false → f_X11_coin_78 f 0 (Int32.ofNat i) (Int32.ofNat N) (Int32.ofNat j) μ = some (Int32.ofNat (hs A 2), dtSI (dtSI μ' w.1 2 (Int32.ofNat (hs A 2 + 1))) 0 0 (Int32.ofNat 0))) ∧ Fr (Pwd w.1 (hs A 2)) μ μ' ∧ PH μ' w.1 A ∧ swL μ' w.1 (hs A 2) N (kkT (zT z) i) := by
  intro n
  induction n with
  | zero =>
    intro f j μ fr e hf HP L
    have C := HP.c
    have HH := HP.ph
    have g5 := HP.g5
    have : j = N := by omega
    subst this
    cases f with
    | zero => omega
    | succ f =>
      have pn := p_isNew HH h7 L h4 (fun k hk => (kk k hk).2)
      have F2 : Fr (fun k b => k = w.1 ∧ b = 2) μ (dtSI μ w.1 2 (Int32.ofNat (hs A 2 + 1))) := Fr.SI ⟨rfl, rfl⟩
      have C2 := C.kept F2
      have g5' : opGR 11 5 (dtSI μ w.1 2 (Int32.ofNat (hs A 2 + 1))) 0 = some w.1 := o_GR C2.s0 (by rw [F2.Ra]; exact HP.2.1.2.1)
      have g2' : opGI 3 2 (dtSI μ w.1 2 (Int32.ofNat (hs A 2 + 1))) w.1 = some (Int32.ofNat (hs A 2 + 1)) := by rw [o_GI (show dtS (dtSI μ w.1 2 (Int32.ofNat (hs A 2 + 1))) w.1 = (0, 3) by rw [F2.S]; exact HH.s0), m_I_SI, if_pos ⟨rfl, rfl⟩]
      refine ⟨μ, fun hb => ?_, fun hb => ?_, Fr.rf, HH, L⟩
      · rw [f_X11_coin_78, if_pos (show Int32.ofNat j ≤ Int32.ofNat j from Int32.le_refl _), g5, o_bind, HH.rv, o_bind, pn, hb, o_call, if_neg (by decide), C.v0, o_bind, show (7 : Int32) = Int32.ofNat 7 from rfl, p_fail C, o_call]
      · rw [f_X11_coin_78, if_pos (show Int32.ofNat j ≤ Int32.ofNat j from Int32.le_refl _), g5, o_bind, HH.rv, o_bind, pn, hb, o_call, if_pos (by decide), g5, o_bind, HH.g2, o_bind, show (1 : Int32) = Int32.ofNat 1 from rfl, z_add, o_PI HH.s0, o_bind, g5', o_bind, g2', o_bind, C2.v0, o_bind, z_sub (show 1 ≤ hs A 2 + 1 by omega), p_ans C2, o_call]; rfl
  | succ n ih =>
    intro f j μ fr e hf HP L
    have C := HP.c
    have HH := HP.ph
    have T := HP.pt
    have g5 := HP.g5
    have h61 := (T i hi).1.2
    cases f with
    | zero => omega
    | succ f =>
      obtain ⟨ev, hk4⟩ := kk j (by omega)
      obtain ⟨μ1, e1, F1, L1⟩ := p_addSound3 (v := kkT (zT z) i j) HH h7 (show j < 4 by omega) L
      have L1' : swL μ1 w.1 (hs A 2) (j + 1) (kkT (zT z) i) := L1.cg (fun k hk => by
        unfold dtUp
        by_cases y : k = j
        · rw [if_pos y, y]
        · rw [if_neg y])
      have HP1 := HP.ho (F1.wide (fun _ _ x => Pwd.s x)) (HH.kW F1) rfl
      obtain ⟨μ2, ea, eb, F2, H2, L2⟩ := ih f (j + 1) μ1 _ (by omega) (by omega) HP1 L1'
      have ps := p_small T C hi (show j + 1 < taN (zT z) i by omega) (show kkT (zT z) i j < 2147483648 by omega) ev
      have st : f_X11_coin_78 (f + 1) 0 (Int32.ofNat i) (Int32.ofNat N) (Int32.ofNat j) μ = f_X11_coin_78 f 0 (Int32.ofNat i) (Int32.ofNat N) (Int32.ofNat (j + 1)) μ1 := by
        rw [f_X11_coin_78, if_neg (show ¬ Int32.ofNat N ≤ Int32.ofNat j by rw [z_le (by omega) (by omega)]; omega), g5, o_bind, C.g0_3, o_bind, C.t1 hi, o_bind, C.t2 hi, o_bind, ps, o_call, HH.rv, o_bind, e1, o_bind, show (1 : Int32) = Int32.ofNat 1 from rfl, z_add]
      exact ⟨μ2, fun hb => st.trans (ea hb), fun hb => st.trans (eb hb), F1.tr F2, H2, L2⟩
theorem co19n {μ : dtM} (C : CX μ) {x y : Int32} {s : Nat} (h : 0 < s ∧ s < 2147483648) : f_X11_coin_19 0 x y (Int32.ofNat s) μ = some (-Int32.ofNat 1, dtSI μ 0 0 (Int32.ofNat s)) := by
  have ne : ¬ Int32.ofNat s = 0 := by
    rw [show (0 : Int32) = Int32.ofNat 0 from rfl, z_eq (by omega) (by omega)]; omega
  rw [f_X11_coin_19, if_neg ne, C.v0, o_bind, p_fail C, o_call]
theorem co_w {μ : dtM} {x : Int32} : f_X11_within x (1 : Int32) (4 : Int32) μ = some (bI (inR x 5 && !decide (x = Int32.ofNat 0)), μ) := f_within1 (n := 4) (by decide)
theorem co_f {μ : dtM} {x : Int32} : f_X12_isFrom x.toInt64 (1 : Int64) (4 : Int64) μ = some (bI (inR x 5 && !decide (x = Int32.ofNat 0)), μ) := f_isFrom1 (n := 4) (by decide)
theorem co3J {v : Int64} {μ : dtM} : f_X12_isFrom v (0 : Int64) (3 : Int64) μ = some (bI (sJ v 4), μ) := f_isFromJ (lim := 4) (by decide)
theorem co_m1 {μ : dtM} (C : CX μ) {x y : Int32} (h : inR x 4 = false ∨ (inR y 5 && !decide (y = Int32.ofNat 0)) = false) : f_X12_coin 133 x y μ = some (-Int32.ofNat 1, dtSI μ 133 2 (Int32.ofNat 1)) := by
  have e19 : f_X12_coin_19 133 μ = some (-Int32.ofNat 1, dtSI μ 133 2 (Int32.ofNat 1)) := by rw [f_X12_coin_19, C.v133, o_bind, show (1 : Int32) = Int32.ofNat 1 from rfl, n_refuse C, o_call]
  cases h1 : inR x 4
  · rw [f_X12_coin, f_isTrayM, h1, o_call, if_pos (by decide), e19]
  · have h2 := h.resolve_left (by rw [h1]; decide)
    rw [f_X12_coin, f_isTrayM, h1, o_call, if_neg (by decide), co_f, h2, o_call, if_pos (by decide), e19]
theorem co_m2 {μ : dtM} (C : CX μ) {x y : Int32} (h1 : inR x 4 = true) (h2 : (inR y 5 && !decide (y = Int32.ofNat 0)) = true) : f_X12_coin 133 x y μ = (opLI 1 μ 137 x).bind fun x15 => if x15 = (-1 : Int32) then some (-Int32.ofNat 1, dtSI μ 133 2 (Int32.ofNat 2)) else (opLI 1 μ 137 x).bind fun x22 => if y ≤ x22 then ((opLI 1 μ 134 (2 : Int32)).bind fun x29 => if x29 = (7 : Int32) then some (-Int32.ofNat 1, dtSI μ 133 2 (Int32.ofNat 4)) else (opCall (f_X12_wordRow x29 μ) fun x36 μ34 => f_X12_coin_85 dtFuel 133 x y x29 x36 (0 : Int32) μ34)) else some (-Int32.ofNat 1, dtSI μ 133 2 (Int32.ofNat 3)) := by
  rw [f_X12_coin, f_isTrayM, h1, o_call, if_neg (by decide), co_f, h2, o_call, if_neg (by decide), C.g133_6, o_bind, o_bind, C.v133, o_bind, show (2 : Int32) = Int32.ofNat 2 from rfl, n_refuse C, o_call, C.g133_0, o_bind, o_bind, o_bind, show (3 : Int32) = Int32.ofNat 3 from rfl, n_refuse C, o_call, show (4 : Int32) = Int32.ofNat 4 from rfl, n_refuse C, o_call]
theorem co85 {μ : dtM} {T : aT} (H : MT μ T) (C : CX μ) {i N W r : Nat} (hi : i < 4) (hN : N < taN T i) (hr : r < 2656) : ∀ (n f j : Nat), j + n = N → n < f → f_X12_coin_85 f 133 (Int32.ofNat i) (Int32.ofNat N) (Int32.ofNat W) (Int32.ofNat r) (Int32.ofNat j) μ = if abB (taV T i) 4 n j = true then f_X12_coin_136 dtFuel 133 (Int32.ofNat i) (Int32.ofNat N) (Int32.ofNat W) (Int32.ofNat r) (Int32.ofNat 0) (dtSI μ 134 r (Int32.ofNat N)) else some (-Int32.ofNat 1, dtSI μ 133 2 (Int32.ofNat 5)) := by
  have h61 := (H i hi).1.2
  intro n
  induction n with
  | zero =>
    intro f j e hf
    cases f with
    | zero => omega
    | succ f =>
      rw [f_X12_coin_85, if_pos (show Int32.ofNat N ≤ Int32.ofNat j by rw [z_le (by omega) (by omega)]; omega), C.g133_0, o_bind, o_SI C.s134 hr (by decide), o_bind, abB, if_pos rfl]; rfl
  | succ n ih =>
    intro f j e hf
    cases f with
    | zero => omega
    | succ f =>
      have hx := ih f (j + 1) (by omega) (by omega)
      rw [f_X12_coin_85, if_neg (show ¬ Int32.ofNat N ≤ Int32.ofNat j by rw [z_le (by omega) (by omega)]; omega), C.g133_7, o_bind, show (60 : Int32) = Int32.ofNat 60 from rfl, z_mul, z_add, H.nu C hi (show j + 1 < taN T i by omega), o_bind, co3J, o_call, abB]
      cases q : sJ (taV T i j) 4
      · rw [if_pos (by decide), if_neg (c := false = true) (by decide), if_neg (by decide), C.v133, o_bind, show (5 : Int32) = Int32.ofNat 5 from rfl, n_refuse C, o_call]
      · rw [if_neg (by decide), if_pos (c := true = true) rfl, show (1 : Int32) = Int32.ofNat 1 from rfl, z_add, hx]
theorem Mwd.s {W k j : Nat} (h7 : W < 7) (x : Mwd 0 W k j) : ScHM k j := Or.inr (Or.inl (by have : k = 134 ∧ 0 + 40 + 5 * W ≤ j ∧ j < 0 + 40 + 5 * W + 5 := x; omega))
theorem co136 {A : aH} {z : aZ} (W : dWF A (zD z)) {i N : Nat} (hi : i < 4) (hN : N < taN (zT z) i) (h4 : 1 ≤ N ∧ N ≤ 4) (h7 : hs A 2 < 7) (kk : ∀ j, j < N → taV (zT z) i j = Int64.ofNat (kkT (zT z) i j) ∧ kkT (zT z) i j < 4) : ∀ (n f j : Nat) (μ : dtM) (fr : aF), j + n = 4 → n < f → RM μ fr A z → dtI μ 134 (0 + 40 + 5 * hs A 2) = Int32.ofNat N → (∀ k, k < j → dtI μ 134 (0 + 40 + 5 * hs A 2 + (1 + k)) = Int32.ofNat (if k < N then kkT (zT z) i k else 0)) → ∃ μ', (nwB A N (kkT (zT z) i) (hs A 2) 0 = true → f_X12_coin_136 f 133 (Int32.ofNat i) (Int32.ofNat N) (Int32.ofNat (hs A 2)) (Int32.ofNat (40 + 5 * hs A 2)) (Int32.ofNat j) μ = some (-Int32.ofNat 1, dtSI μ' 133 2 (Int32.ofNat 7))) ∧ (nwB A N (kkT (zT z) i) (hs A 2) 0 = false → f_X12_coin_136 f 133 (Int32.ofNat i) (Int32.ofNat N) (Int32.ofNat (hs A 2)) (Int32.ofNat (40 + 5 * hs A 2)) (Int32.ofNat j) μ = some (Int32.ofNat (hs A 2), dtSI (dtSJ (dtSI μ' 134 2 (Int32.ofNat (hs A 2 + 1))) 135 (7 + hs A 2) (Int64.ofNat 0)) 133 2 (Int32.ofNat 0))) ∧ Fr (Mwd 0 (hs A 2)) μ μ' ∧ MH μ' 0 0 A ∧ mwL μ' 0 (hs A 2) N (kkT (zT z) i) := by
  intro n
  induction n with
  | zero =>
    intro f j μ fr e hf HM h1 L
    have C := HM.c
    have M1 := HM.mh
    have : j = 4 := by omega
    subst this
    have hL : mwL μ 0 (hs A 2) N (kkT (zT z) i) := ⟨h1, L⟩
    obtain ⟨v, e1, e2⟩ := n_sameAs C (by decide) M1 h7 hL h4.2 (fun k hk => (kk k hk).2)
    cases f with
    | zero => omega
    | succ f =>
      have l2 : opLI 1 μ 134 (Int32.ofNat 2) = some (Int32.ofNat (hs A 2)) := M1.gj (by decide)
      have C2 : CX (dtSI μ 134 2 (Int32.ofNat (hs A 2 + 1))) := C.SI
      have C3 : CX (dtSJ (dtSI μ 134 2 (Int32.ofNat (hs A 2 + 1))) 135 (7 + hs A 2) (Int64.ofNat 0)) := C2.SJ
      have st : f_X12_coin_136 (f + 1) 133 (Int32.ofNat i) (Int32.ofNat N) (Int32.ofNat (hs A 2)) (Int32.ofNat (40 + 5 * hs A 2)) (Int32.ofNat 4) μ = if v = (-1 : Int32) then some (Int32.ofNat (hs A 2), dtSI (dtSJ (dtSI μ 134 2 (Int32.ofNat (hs A 2 + 1))) 135 (7 + hs A 2) (Int64.ofNat 0)) 133 2 (Int32.ofNat 0)) else some (-Int32.ofNat 1, dtSI μ 133 2 (Int32.ofNat 7)) := by
        rw [f_X12_coin_136, if_pos (by decide), C.v133, o_bind, show (0 : Int32) = Int32.ofNat 0 from rfl, e1, o_call, C.g133_0, o_bind, show (2 : Int32) = Int32.ofNat 2 from rfl, l2, o_bind, show (1 : Int32) = Int32.ofNat 1 from rfl, z_add, o_SI C.s134 (by decide) (by decide), o_bind, C2.g133_1, o_bind, show (7 : Int32) = Int32.ofNat 7 from rfl, z_add, show (0 : Int64) = Int64.ofNat 0 from rfl, o_SJ C2.s135 (show 7 + hs A 2 < 114 by omega) (by decide), o_bind, C3.v133, o_bind, n_gives C3, o_call, C.v133, o_bind, n_refuse C, o_call]
      refine ⟨μ, fun hb => ?_, fun hb => ?_, Fr.rf, M1, hL⟩
      · rw [st, if_neg (fun x => by rw [e2, hb] at x; cases x)]
      · rw [st, if_pos (by rw [e2]; exact hb)]
  | succ n ih =>
    intro f j μ fr e hf HM h1 L
    have C := HM.c
    have M1 := HM.mh
    have T := HM.mt
    cases f with
    | zero => omega
    | succ f =>
      have F1 : Fr (Mwd 0 (hs A 2)) μ (dtSI μ 134 (40 + 5 * hs A 2 + 1 + j) (Int32.ofNat (if j < N then kkT (zT z) i j else 0))) := Fr.SI ⟨rfl, by omega, by omega⟩
      have HM1 := HM.ho W (F1.wide (fun _ _ x => Mwd.s h7 x)) (M1.kW h7 F1) rfl
      obtain ⟨μ2, ea, eb, F2, H2, L2⟩ := ih f (j + 1) _ _ (by omega) (by omega) HM1 (by rw [m_I_SI, if_neg (by omega)]; exact h1) (fun k hk => by
        rw [m_I_SI]
        by_cases y : k = j
        · subst y; rw [if_pos ⟨rfl, by omega⟩]
        · rw [if_neg (by omega)]; exact L k (by omega))
      have st : f_X12_coin_136 (f + 1) 133 (Int32.ofNat i) (Int32.ofNat N) (Int32.ofNat (hs A 2)) (Int32.ofNat (40 + 5 * hs A 2)) (Int32.ofNat j) μ = f_X12_coin_136 f 133 (Int32.ofNat i) (Int32.ofNat N) (Int32.ofNat (hs A 2)) (Int32.ofNat (40 + 5 * hs A 2)) (Int32.ofNat (j + 1)) (dtSI μ 134 (40 + 5 * hs A 2 + 1 + j) (Int32.ofNat (if j < N then kkT (zT z) i j else 0))) := by
        rw [f_X12_coin_136, if_neg (show ¬ (4 : Int32) ≤ Int32.ofNat j by rw [show (4 : Int32) = Int32.ofNat 4 from rfl, z_le (by decide) (by omega)]; omega), C.g133_0, o_bind, show (1 : Int32) = Int32.ofNat 1 from rfl, z_add, z_add]
        by_cases q : j < N
        · obtain ⟨ev, hk4⟩ := kk j q
          rw [if_neg (show ¬ Int32.ofNat N ≤ Int32.ofNat j by rw [z_le (by omega) (by omega)]; omega), C.g133_7, o_bind, show (60 : Int32) = Int32.ofNat 60 from rfl, z_mul, z_add, T.nu C hi (show j + 1 < taN (zT z) i by omega), o_bind, ev, j_to (by omega), f_X12_coin_176, o_SI C.s134 (show 40 + 5 * hs A 2 + 1 + j < 2656 by omega) (by decide), o_bind, show (1 : Int32) = Int32.ofNat 1 from rfl, z_add, if_pos q]
        · rw [if_pos (show Int32.ofNat N ≤ Int32.ofNat j by rw [z_le (by omega) (by omega)]; omega), show (0 : Int32) = Int32.ofNat 0 from rfl, f_X12_coin_176, o_SI C.s134 (show 40 + 5 * hs A 2 + 1 + j < 2656 by omega) (by decide), o_bind, show (1 : Int32) = Int32.ofNat 1 from rfl, z_add, if_neg q]
      exact ⟨μ2, fun hb => st.trans (ea hb), fun hb => st.trans (eb hb), F1.tr F2, H2, L2⟩
theorem cs22 {μ : dtM} {w : aW} {f : aF} {A : aH} {z : aZ} (HP : RP μ w f A z) (HM : RM μ f A z) (W : dWF A (zD z)) (x y : Int32) : both (f_X11_coin 0 x y) (f_X12_coin 133 x y) μ := by
  have C := HP.c
  have HH := HP.ph
  have g5 := HP.g5
  have hnw := HH.nw
  have T := HP.pt
  cases hq : (inR y 5 && !decide (y = Int32.ofNat 0))
  · refine both.no HP HM W (-Int32.ofNat 1) (Int32.ofNat 1) ?_ (fun μ1 R1 => co_m1 R1.c (Or.inr hq))
    rw [f_X11_coin, co_w, hq, o_call, if_pos (by decide)]
    exact co19n C (by decide)
  · have hq2 := hq
    rw [Bool.and_eq_true] at hq2
    obtain ⟨n, hn, rfl⟩ := inR_t (by decide) hq2.1
    have n1 : 1 ≤ n := by
      by_cases e : n = 0
      · subst e; exact absurd hq2.2 (by decide)
      · omega
    have ps : ∀ s, rSt (zT z) x n = s → f_X11_coin 0 x (Int32.ofNat n) μ = f_X11_coin_19 0 x (Int32.ofNat n) (Int32.ofNat s) μ := fun s es => by
      rw [f_X11_coin, co_w, hq, o_call, if_neg (by decide), C.v0, o_bind, p_run HP x (n := n) (by omega), o_call, es]
    cases h1 : inR x 4
    · refine both.no HP HM W (-Int32.ofNat 1) (Int32.ofNat 1) ?_ (fun μ1 R1 => co_m1 R1.c (Or.inl h1))
      rw [ps 1 (if_pos h1)]
      exact co19n C (by decide)
    · obtain ⟨i, hi, rfl⟩ := inR_t (by decide) h1
      have h61 := (T i hi).1.2
      by_cases h4 : taN (zT z) i = 0
      · refine both.no HP HM W (-Int32.ofNat 1) (Int32.ofNat 2) ?_ (fun μ1 R1 => ?_)
        · rw [ps 2 (by unfold rSt; rw [if_neg (by rw [h1]; decide), z_cl (by omega), if_pos h4])]
          exact co19n C (by decide)
        · rw [co_m2 R1.c h1 hq, R1.mt.no R1.c hi h4, o_bind, if_pos (by decide)]
      · have ne : ¬ Int32.ofNat (taN (zT z) i - 1) = (-1 : Int32) := by
          rw [show (-1 : Int32) = -Int32.ofNat 1 from rfl, z_neg (show taN (zT z) i - 1 < 2147483648 by omega)]; exact id
        have le := z_le (show n < 2147483648 by omega) (show taN (zT z) i - 1 < 2147483648 by omega)
        by_cases h5 : n < taN (zT z) i
        · have p0 := ps 0 (by unfold rSt; rw [if_neg (by rw [h1]; decide), z_cl (by omega), if_neg h4, if_pos h5])
          by_cases h7 : hs A 2 < 7
          · have al := p_allBelow T C (lim := 4) hi h5 (by omega)
            have ep : f_X11_coin 0 (Int32.ofNat i) (Int32.ofNat n) μ = if bI (abB (taV (zT z) i) 4 n 0) = 0 then some (-Int32.ofNat 1, dtSI μ 0 0 (Int32.ofNat 5)) else (f_X3_beginWord w.1 μ).bind fun μ25 => f_X11_coin_78 dtFuel 0 (Int32.ofNat i) (Int32.ofNat n) (0 : Int32) μ25 := by
              rw [p0, f_X11_coin_19, if_pos (by decide), g5, o_bind, HH.g2, o_bind, if_pos (show Int32.ofNat (hs A 2) < (7 : Int32) by rw [show (7 : Int32) = Int32.ofNat 7 from rfl, z_lt (by omega) (by decide)]; exact h7), C.g0_3, o_bind, C.t1 hi, o_bind, C.t2 hi, o_bind, show (4 : Int32) = Int32.ofNat 4 from rfl, al, o_call, C.v0, o_bind, show (5 : Int32) = Int32.ofNat 5 from rfl, p_fail C, o_call, g5, o_bind, HH.rv, o_bind]
            have em : ∀ μ1, RM μ1 f A z → f_X12_coin 133 (Int32.ofNat i) (Int32.ofNat n) μ1 = f_X12_coin_85 dtFuel 133 (Int32.ofNat i) (Int32.ofNat n) (Int32.ofNat (hs A 2)) (Int32.ofNat (40 + 5 * hs A 2)) (Int32.ofNat 0) μ1 := fun μ1 R1 => by
              have m2 : opLI 1 μ1 134 (2 : Int32) = some (Int32.ofNat (hs A 2)) := R1.mh.gj (j := 2) (by decide)
              rw [co_m2 R1.c h1 hq, R1.mt.ma R1.c hi (show 0 < taN (zT z) i by omega), o_bind, if_neg ne, o_bind, if_pos (by rw [le]; omega), m2, o_bind, if_neg (show ¬ Int32.ofNat (hs A 2) = (7 : Int32) by rw [show (7 : Int32) = Int32.ofNat 7 from rfl, z_eq (by omega) (by decide)]; omega), f_wordRow, o_call]; rfl
            cases hab : abB (taV (zT z) i) 4 n 0
            · refine both.no HP HM W (-Int32.ofNat 1) (Int32.ofNat 5) ?_ (fun μ1 R1 => ?_)
              · rw [ep, hab, if_pos (by decide)]
              · rw [em μ1 R1, co85 R1.mt R1.c hi h5 (show 40 + 5 * hs A 2 < 2656 by omega) n dtFuel 0 (by omega) (dtFuel_gt (by omega)), hab, if_neg (by decide)]
            · have kk := kkT_ok (T := zT z) (i := i) (by decide) hab
              obtain ⟨μb, eb, Fb, Lb⟩ := p_beginWord HH h7 (kkT (zT z) i)
              have HPb := HP.ho (Fb.wide (fun _ _ x => Pwd.s x)) (HH.kW Fb) rfl
              obtain ⟨μc, ca, cb, Fc, Hc, Lc⟩ := co78 hi h5 (by omega) h7 kk n dtFuel 0 μb _ (by omega) (dtFuel_gt (by omega)) HPb Lb
              have Fbc := Fb.tr Fc
              have epb : f_X11_coin 0 (Int32.ofNat i) (Int32.ofNat n) μ = f_X11_coin_78 dtFuel 0 (Int32.ofNat i) (Int32.ofNat n) (Int32.ofNat 0) μb := by
                rw [ep, hab, if_neg (by decide), eb, o_bind]; rfl
              have hm : ∀ μ1, RM μ1 f A z → ∃ μd, (nwB A n (kkT (zT z) i) (hs A 2) 0 = true → f_X12_coin 133 (Int32.ofNat i) (Int32.ofNat n) μ1 = some (-Int32.ofNat 1, dtSI μd 133 2 (Int32.ofNat 7))) ∧ (nwB A n (kkT (zT z) i) (hs A 2) 0 = false → f_X12_coin 133 (Int32.ofNat i) (Int32.ofNat n) μ1 = some (Int32.ofNat (hs A 2), dtSI (dtSJ (dtSI μd 134 2 (Int32.ofNat (hs A 2 + 1))) 135 (7 + hs A 2) (Int64.ofNat 0)) 133 2 (Int32.ofNat 0))) ∧ Fr (Mwd 0 (hs A 2)) μ1 μd ∧ MH μd 0 0 A ∧ mwL μd 0 (hs A 2) n (kkT (zT z) i) := fun μ1 R1 => by
                have F0 : Fr (Mwd 0 (hs A 2)) μ1 (dtSI μ1 134 (40 + 5 * hs A 2) (Int32.ofNat n)) := Fr.SI ⟨rfl, by omega, by omega⟩
                have R0 := R1.ho W (F0.wide (fun _ _ x => Mwd.s h7 x)) (R1.mh.kW h7 F0) rfl
                obtain ⟨μd, da, db, Fd, Hd, Ld⟩ := co136 W hi h5 ⟨n1, by omega⟩ h7 kk 4 dtFuel 0 _ _ (by omega) (dtFuel_gt (by omega)) R0 (by rw [m_I_SI, if_pos ⟨rfl, by omega⟩]) (fun k hk => absurd hk (Nat.not_lt_zero k))
                have e85 : f_X12_coin 133 (Int32.ofNat i) (Int32.ofNat n) μ1 = f_X12_coin_136 dtFuel 133 (Int32.ofNat i) (Int32.ofNat n) (Int32.ofNat (hs A 2)) (Int32.ofNat (40 + 5 * hs A 2)) (Int32.ofNat 0) (dtSI μ1 134 (40 + 5 * hs A 2) (Int32.ofNat n)) := by
                  rw [em μ1 R1, co85 R1.mt R1.c hi h5 (show 40 + 5 * hs A 2 < 2656 by omega) n dtFuel 0 (by omega) (dtFuel_gt (by omega)), hab, if_pos rfl]
                exact ⟨μd, fun hb => e85.trans (da hb), fun hb => e85.trans (db hb), F0.tr Fd, Hd, Ld⟩
              cases hb : nwB A n (kkT (zT z) i) (hs A 2) 0
              · refine both.hou HP HM W (Int32.ofNat (hs A 2)) (Int32.ofNat 0) (hCo A n (kkT (zT z) i)) ⟨_, epb.trans (cb hb), ?_, Hc.coined h7 ⟨n1, by omega⟩ (fun k hk => (kk k hk).2) Lc⟩ (fun μ1 R1 => ?_) (W.ge (by rw [hCo_s (by decide)]; exact Nat.le_refl _) (by rw [hCo_s (by decide)]; exact Nat.le_refl _) (by rw [hCo_s (by decide)]; exact Nat.le_refl _))
                · exact (Fbc.wide (fun _ _ x => Pwd.s x)).tr (Fr.SI (Or.inr ⟨Nat.le_refl _, by omega⟩))
                · obtain ⟨μd, da, db, Fd, Hd, Ld⟩ := hm μ1 R1
                  have Fe : Fr (fun k j => (k = 134 ∧ j = 0 + 2) ∨ (k = 135 ∧ j = 0 + 7 + hs A 2)) μd (dtSJ (dtSI μd 134 2 (Int32.ofNat (hs A 2 + 1))) 135 (7 + hs A 2) (Int64.ofNat 0)) := (Fr.SI (Or.inl ⟨rfl, rfl⟩)).tr (Fr.SJ (Or.inr ⟨rfl, by omega⟩))
                  refine ⟨_, db hb, ?_, Hd.coined h7 ⟨n1, by omega⟩ (fun k hk => (kk k hk).2) Ld Fe rfl⟩
                  refine (Fd.wide (fun _ _ x => Mwd.s h7 x)).tr (Fe.wide (fun k j x => ?_))
                  unfold ScHM ScM; omega
              · refine both.hou HP HM W (-Int32.ofNat 1) (Int32.ofNat 7) A ⟨μc, epb.trans (ca hb), Fbc.wide (fun _ _ x => Pwd.s x), Hc⟩ (fun μ1 R1 => ?_) W
                obtain ⟨μd, da, db, Fd, Hd, Ld⟩ := hm μ1 R1
                exact ⟨μd, da hb, Fd.wide (fun _ _ x => Mwd.s h7 x), Hd⟩
          · have e7 : hs A 2 = 7 := by omega
            refine both.no HP HM W (-Int32.ofNat 1) (Int32.ofNat 4) ?_ (fun μ1 R1 => ?_)
            · rw [p0, f_X11_coin_19, if_pos (by decide), g5, o_bind, HH.g2, o_bind, e7, if_neg (by decide), C.v0, o_bind, show (4 : Int32) = Int32.ofNat 4 from rfl, p_fail C, o_call]
            · have m2 : opLI 1 μ1 134 (2 : Int32) = some (Int32.ofNat (hs A 2)) := R1.mh.gj (j := 2) (by decide)
              rw [co_m2 R1.c h1 hq, R1.mt.ma R1.c hi (show 0 < taN (zT z) i by omega), o_bind, if_neg ne, o_bind, if_pos (by rw [le]; omega), m2, o_bind, e7, if_pos (by decide)]
        · refine both.no HP HM W (-Int32.ofNat 1) (Int32.ofNat 3) ?_ (fun μ1 R1 => ?_)
          · rw [ps 3 (by unfold rSt; rw [if_neg (by rw [h1]; decide), z_cl (by omega), if_neg h4, if_neg h5])]
            exact co19n C (by decide)
          · rw [co_m2 R1.c h1 hq, R1.mt.ma R1.c hi (show 0 < taN (zT z) i by omega), o_bind, if_neg ne, o_bind, if_neg (by rw [le]; omega)]
