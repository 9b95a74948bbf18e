/-! PURE 94: a word told, the model -/
theorem MHN.kW {μ μ' : dtM} {A : aH} {wn : Nat → List Nat} (S : MHN μ A wn) (h7 : hs A 2 < 7) (F : Fr (Mwd 2016 (hs A 2)) μ μ') : MHN μ' A wn := by
  obtain ⟨C, H, N⟩ := S
  refine ⟨C.kept F, H.kW h7 F, fun k hk => ?_⟩
  rw [F.j (by omega)]; exact N k hk
theorem MTk.k134 {μ μ' : dtM} {n e : Nat} {B : Nat → Int32} {P : Nat → Nat → Prop} (H : MTk μ n B e) (F : Fr P μ μ') (hP : ∀ k j, P k j → k = 134 ∨ k = 135) : MTk μ' n B e := H.kept F (fun j x => by have := hP _ _ x; omega) (fun j x => by have := hP _ _ x; omega)
theorem M0f.k134 {μ μ' : dtM} {P : Nat → Nat → Prop} (H : M0f μ) (F : Fr P μ μ') (hP : ∀ k j, P k j → k = 134 ∨ k = 135) : M0f μ' := by
  unfold M0f
  rw [F.i (fun x => by have := hP _ _ x; omega), F.i (fun x => by have := hP _ _ x; omega)]; exact H
theorem sndO_k {o : Option Nat} {v : Nat} (h : sndO o = some v) : ∃ k, o = some k ∧ (7 ≤ k ∧ k < 11) ∧ k - 7 = v := by
  cases o with
  | none => exact absurd h (fun x => nomatch x)
  | some k =>
    have hk' : (if 7 ≤ k ∧ k < 11 then some (k - 7) else none) = some v := h
    by_cases r : 7 ≤ k ∧ k < 11
    · rw [if_pos r] at hk'
      exact ⟨k, rfl, r, Option.some.inj hk'⟩
    · rw [if_neg r] at hk'; exact absurd hk' (fun x => nomatch x)
def WI (μ : dtM) (n : Nat) (B : Nat → Int32) (A : aH) (wn : Nat → List Nat) (l : List Nat) (k : Nat) (s : Nat → Nat) (e : Nat) : Prop := MHN μ A wn ∧ MTk μ n B e ∧ M0f μ ∧ mwL μ 2016 (hs A 2) k s ∧ dtJ μ 135 (83 + hs A 2) = n256 l
theorem wz45 {W : Nat} (hW : W < 7) : ∀ (m i f : Nat) (μ : dtM), i + m = 5 → m < f → CX μ → (∀ j, j < i → dtI μ 134 (2056 + 5 * W + j) = Int32.ofNat 0) → ∃ f' μ', f_X12_aWord_45 f 133 (Int32.ofNat W) (Int32.ofNat (2056 + 5 * W)) (Int32.ofNat i) μ = f_X12_aWord_45 (f' + 1) 133 (Int32.ofNat W) (Int32.ofNat (2056 + 5 * W)) (Int32.ofNat 5) μ' ∧ Fr (Mwd 2016 W) μ μ' ∧ ∀ j, j < 5 → dtI μ' 134 (2056 + 5 * W + j) = Int32.ofNat 0
  | _, _, 0, _, _, hf, _, _ => absurd hf (Nat.not_lt_zero _)
  | 0, i, f + 1, μ, hi, hf, C, z => by
    have : i = 5 := by omega
    subst this
    exact ⟨f, μ, rfl, Fr.rf, z⟩
  | m + 1, i, f + 1, μ, hi, hf, C, z => by
    have F1 : Fr (Mwd 2016 W) μ (dtSI μ 134 (2056 + 5 * W + i) (Int32.ofNat 0)) := Fr.SI ⟨rfl, by omega, by omega⟩
    obtain ⟨f', μ', e, F, r⟩ := wz45 hW m (i + 1) f (dtSI μ 134 (2056 + 5 * W + i) (Int32.ofNat 0)) (by omega) (by omega) C.SI (fun j hj => by
      rw [m_I_SI]
      by_cases x : j = i
      · rw [if_pos ⟨rfl, by rw [x]⟩]
      · rw [if_neg (by omega)]; exact z j (by omega))
    refine ⟨f', μ', ?_, F1.tr F, r⟩
    rw [← e, f_X12_aWord_45, if_neg (show ¬ (5 : Int32) ≤ Int32.ofNat i by rw [show (5 : Int32) = Int32.ofNat 5 from rfl, z_le (by decide) (by omega)]; omega), C.g133_0, o_bind, z_add, show (0 : Int32) = Int32.ofNat 0 from rfl, o_SI C.s134 (by omega) (by decide), o_bind, show (1 : Int32) = Int32.ofNat 1 from rfl, z_add]
theorem n_step {μ : dtM} {n e k v f : Nat} {s : Nat → Nat} {l : List Nat} {B : Nat → Int32} {A : aH} {wn : Nat → List Nat} (I : WI μ n B A wn l k s e) (h7 : hs A 2 < 7) (hk : k < 4) (q : sndO (lxK (tx B) n e) = some v) : ∃ μ', f_X12_aWord_78 (f + 1) 133 (Int32.ofNat (hs A 2)) (Int32.ofNat (2056 + 5 * hs A 2)) μ = f_X12_aWord_78 f 133 (Int32.ofNat (hs A 2)) (Int32.ofNat (2056 + 5 * hs A 2)) μ' ∧ Fr MDr μ μ' ∧ WI μ' n B A wn l (k + 1) (dtUp s k v) (lxE (tx B) n e) := by
  obtain ⟨S, H, h0, L, nm⟩ := I
  have C := S.1
  have is' := H.isSound
  rw [q] at is'
  obtain ⟨kk, hkk, hr, ev⟩ := sndO_k q
  have W := H.words
  have lm : oN (lxM (tx B) n e) = Int32.ofNat (kk + 1) := by
    unfold lxM
    rw [hkk]
    show Int32.ofNat (kwM.getD kk 99) = _
    rw [(kwM_snd kk (by omega)).2 hr.1 hr.2]
  rw [lm] at W
  have c0 : dtI μ 134 (2056 + 5 * hs A 2) = Int32.ofNat k := L.1
  have F1 : Fr (Mwd 2016 (hs A 2)) μ (dtSI μ 134 (2057 + 5 * hs A 2 + k) (Int32.ofNat v)) := Fr.SI ⟨rfl, by omega, by omega⟩
  have C1 : CX (dtSI μ 134 (2057 + 5 * hs A 2 + k) (Int32.ofNat v)) := C.SI
  have F2 : Fr (Mwd 2016 (hs A 2)) μ (dtSI (dtSI μ 134 (2057 + 5 * hs A 2 + k) (Int32.ofNat v)) 134 (2056 + 5 * hs A 2) (Int32.ofNat (k + 1))) := F1.tr (Fr.SI ⟨rfl, by omega, by omega⟩)
  have C2 : CX (dtSI (dtSI μ 134 (2057 + 5 * hs A 2 + k) (Int32.ofNat v)) 134 (2056 + 5 * hs A 2) (Int32.ofNat (k + 1))) := C1.SI
  have H2 : MTk (dtSI (dtSI μ 134 (2057 + 5 * hs A 2 + k) (Int32.ofNat v)) 134 (2056 + 5 * hs A 2) (Int32.ofNat (k + 1))) n B e := H.k134 F2 (fun k j x => Or.inl x.1)
  obtain ⟨μ3, e3, F3, H3⟩ := H2.adv
  have S2 := S.kW h7 F2
  refine ⟨μ3, ?_, (F2.wide (fun k j x => Or.inr (Or.inl (by omega)))).tr (F3.wide (fun _ _ x => Or.inl (Mtk.c x))), S2.c (F3.wide (fun _ _ x => Mtk.c x)), H3, (h0.k134 F2 (fun k j x => Or.inl x.1)).tk F3, ⟨?_, fun j hj => ?_⟩, ?_⟩
  · rw [f_X12_aWord_78, C.v133, o_bind, is', o_call, if_neg (show ¬ bI (some v).isSome = 0 from (by decide : ¬ bI true = 0)), C.g133_0, o_bind, o_LI C.s134 (by omega) (by decide), c0, o_bind, if_neg (show ¬ Int32.ofNat k = (4 : Int32) by rw [show (4 : Int32) = Int32.ofNat 4 from rfl, z_eq (by omega) (by decide)]; omega), o_bind, o_bind, o_LI C.s134 (by omega) (by decide), c0, o_bind, C.v133, o_bind, W, o_call, show (8 : Int32) = Int32.ofNat 8 from rfl, z_sub (by omega), show kk + 1 - 8 = v by omega, show (1 : Int32) = Int32.ofNat 1 from rfl, z_add, z_add, show 2056 + 5 * hs A 2 + 1 + k = 2057 + 5 * hs A 2 + k by omega, o_SI C.s134 (by omega) (by decide), o_bind, C1.g133_0, o_bind, o_LI C1.s134 (by omega) (by decide), m_I_SI, if_neg (by omega), c0, o_bind, z_add, o_SI C1.s134 (by omega) (by decide), o_bind, C2.v133, o_bind, e3, o_bind]
  · rw [F3.i (fun x => by have := x.1; omega), m_I_SI, if_pos ⟨rfl, by omega⟩]
  · rw [F3.i (fun x => by have := x.1; omega), m_I_SI, if_neg (by omega), m_I_SI]
    by_cases x : j = k
    · rw [if_pos ⟨rfl, by omega⟩, if_pos (by omega), x, dtUp_s]
    · rw [if_neg (by omega), dtUp_n _ _ x, L.2 j hj]
      by_cases y : j < k
      · rw [if_pos y, if_pos (by omega)]
      · rw [if_neg y, if_neg (by omega)]
  · rw [F3.j (fun x => by have := x.1; omega)]; exact nm
theorem n_we {μ : dtM} {n e k f : Nat} {s : Nat → Nat} {l : List Nat} {B : Nat → Int32} {A : aH} {wn : Nat → List Nat} (I : WI μ n B A wn l k s e) (h7 : hs A 2 < 7) (hk : 1 ≤ k ∧ k ≤ 4) (h4 : ∀ j, j < k → s j < 4) (ok : nOk l) (q : sndO (lxK (tx B) n e) = none) : ∃ μ', f_X12_aWord_78 (f + 1) 133 (Int32.ofNat (hs A 2)) (Int32.ofNat (2056 + 5 * hs A 2)) μ = some (bI (xOk (xWe (tx B) n A wn l (k, s) e)), μ') ∧ Fr MDr μ μ' ∧ MRh μ' n B (xWe (tx B) n A wn l (k, s) e) := by
  obtain ⟨S, H, h0, L, nm⟩ := I
  have C := S.1
  have is' := H.isSound
  rw [q] at is'
  have sg := H.isSign (s := 59) (by decide)
  have st : f_X12_aWord_78 (f + 1) 133 (Int32.ofNat (hs A 2)) (Int32.ofNat (2056 + 5 * hs A 2)) μ = if bI (decide (lxT (tx B) n e = 3 ∧ tx B (lxF (tx B) n e) = 59)) = 0 then ((opRv 12 μ 133).bind fun _ => opCall (f_X12_fails 133 (2 : Int32) μ) fun x35 μ33 => opRet x35 μ33) else ((opRv 12 μ 133).bind fun _ => opCall (f_X12_sameAs 133 (2016 : Int32) (Int32.ofNat (hs A 2)) μ) fun x18 μ16 => if x18 = (-1 : Int32) then ((opGR 12 0 μ16 133).bind fun x22 => (opLI 1 μ16 x22 (2018 : Int32)).bind fun x24 => (opSI μ16 x22 (2018 : Int32) (x24 + (1 : Int32))).bind fun μ26 => opRet (1 : Int32) μ26) else ((opRv 12 μ16 133).bind fun _ => opCall (f_X12_fails 133 (5 : Int32) μ16) fun x31 μ29 => opRet x31 μ29)) := by
    rw [f_X12_aWord_78, C.v133, o_bind, is', o_call, if_pos (show bI (none : Option Nat).isSome = 0 from (by decide : bI false = 0)), C.v133, o_bind, show (59 : Int32) = Int32.ofNat 59 from rfl, sg, o_call, C.v133]
  rw [st]
  unfold xWe
  by_cases g : lxT (tx B) n e = 3 ∧ tx B (lxF (tx B) n e) = 59
  · obtain ⟨v, ev, hv⟩ := n_sameAs C (Nat.le_refl 2016) S.2.1 h7 L hk.2 h4
    rw [if_pos g, if_neg (by rw [decide_eq_true g]; decide), C.v133, o_bind, show (2016 : Int32) = Int32.ofNat 2016 from rfl, ev, o_call]
    by_cases old : nwB A k s (hs A 2) 0 = true
    · obtain ⟨μ1, e1, F1, R1⟩ := n_fails (w := 5) H h0 (by decide)
      rw [if_pos (show nwB A (k, s).1 (k, s).2 (hs A 2) 0 = true from old)]
      refine ⟨μ1, ?_, F1.wide (fun _ _ x => Or.inl x), R1⟩
      rw [if_neg (fun x => by rw [Eq.mp hv x] at old; exact absurd old (by decide)), C.v133, o_bind, show (5 : Int32) = Int32.ofNat 5 from rfl, e1, o_call, o_bI]; rfl
    · have old' : nwB A k s (hs A 2) 0 = false := by
        cases h : nwB A k s (hs A 2) 0 with
        | true => exact absurd h old
        | false => rfl
      have ct := S.cnt (j := 2) (by decide)
      have F1 : Fr (fun k j => (k = 134 ∧ j = 2016 + 2) ∨ (k = 135 ∧ j = 76 + 7 + hs A 2)) μ (dtSI μ 134 2018 (Int32.ofNat (hs A 2 + 1))) := Fr.SI (Or.inl ⟨rfl, rfl⟩)
      rw [if_neg (show ¬ nwB A (k, s).1 (k, s).2 (hs A 2) 0 = true from old)]
      refine ⟨dtSI μ 134 2018 (Int32.ofNat (hs A 2 + 1)), ?_, F1.wide (fun k j x => Or.inr (by omega)), ⟨C.kept F1, S.2.1.coined h7 hk h4 L F1 (by rw [m_I_SI, if_pos ⟨rfl, rfl⟩]), fun j hj => ?_⟩, H.at4, h0.at4⟩
      · rw [if_pos (Eq.mpr hv old'), C.g133_0, o_bind, show (2018 : Int32) = Int32.ofNat (2016 + 2) from rfl, ct, o_bind, show (1 : Int32) = Int32.ofNat 1 from rfl, z_add, o_SI C.s134 (by decide) (by decide), o_bind, o_ret1']; rfl
      · rw [hCo_2] at hj
        rw [m_J_SI]
        show dtJ μ 135 (83 + j) = n256 (dtUp wn (hs A 2) l j) ∧ nOk (dtUp wn (hs A 2) l j)
        by_cases x : j = hs A 2
        · rw [x, dtUp_s]; exact ⟨nm, ok⟩
        · rw [dtUp_n _ _ x]; exact S.2.2 j (by omega)
  · obtain ⟨μ1, e1, F1, R1⟩ := n_fails (w := 2) H h0 (by decide)
    rw [if_neg g]
    refine ⟨μ1, ?_, F1.wide (fun _ _ x => Or.inl x), R1⟩
    rw [if_pos (by rw [decide_eq_false g]; decide), C.v133, o_bind, show (2 : Int32) = Int32.ofNat 2 from rfl, e1, o_call, o_bI]; rfl
theorem rs78 {n : Nat} {l : List Nat} {B : Nat → Int32} {A : aH} {wn : Nat → List Nat} (h7 : hs A 2 < 7) (ok : nOk l) : ∀ (m k e f : Nat) (s : Nat → Nat) (μ : dtM), k + m = 4 → 1 ≤ k → m < f → (∀ j, j < k → s j < 4) → WI μ n B A wn l k s e → ∃ μ', f_X12_aWord_78 f 133 (Int32.ofNat (hs A 2)) (Int32.ofNat (2056 + 5 * hs A 2)) μ = some (bI (xOk (xB (xSs (tx B) n m k s e) (fun ks e3 => xWe (tx B) n A wn l ks e3))), μ') ∧ Fr MDr μ μ' ∧ MRh μ' n B (xB (xSs (tx B) n m k s e) (fun ks e3 => xWe (tx B) n A wn l ks e3))
  | _, _, _, 0, _, _, _, _, hf, _, _ => absurd hf (Nat.not_lt_zero _)
  | 0, k, e, f + 1, s, μ, hk, h1, hf, h4, I => by
    cases q : sndO (lxK (tx B) n e) with
    | none =>
      rw [xSs_n q, xB_o]
      exact n_we I h7 ⟨h1, by omega⟩ h4 ok q
    | some v =>
      obtain ⟨S, H, h0, L, nm⟩ := I
      have C := S.1
      have is' := H.isSound
      rw [q] at is'
      have c0 : dtI μ 134 (2056 + 5 * hs A 2) = Int32.ofNat k := L.1
      obtain ⟨μ1, e1, F1, R1⟩ := n_fails (w := 5) H h0 (by decide)
      rw [xSs_0 q, xB_e]
      refine ⟨μ1, ?_, F1.wide (fun _ _ x => Or.inl x), R1⟩
      rw [f_X12_aWord_78, C.v133, o_bind, is', o_call, if_neg (show ¬ bI (some v).isSome = 0 from (by decide : ¬ bI true = 0)), C.g133_0, o_bind, o_LI C.s134 (by omega) (by decide), c0, o_bind, if_pos (show Int32.ofNat k = (4 : Int32) by rw [show k = 4 by omega]; rfl), C.v133, o_bind, show (5 : Int32) = Int32.ofNat 5 from rfl, e1, o_call, o_bI]; rfl
  | m + 1, k, e, f + 1, s, μ, hk, h1, hf, h4, I => by
    cases q : sndO (lxK (tx B) n e) with
    | none =>
      rw [xSs_n q, xB_o]
      exact n_we I h7 ⟨h1, by omega⟩ h4 ok q
    | some v =>
      obtain ⟨μ1, e1, F1, I1⟩ := n_step (f := f) I h7 (by omega) q
      obtain ⟨μ2, e2, F2, R2⟩ := rs78 h7 ok m (k + 1) _ f _ μ1 (by omega) (by omega) (by omega) (fun j hj => by
        by_cases x : j = k
        · rw [x, dtUp_s]; exact sndO_lt q
        · rw [dtUp_n _ _ x]; exact h4 j (by omega)) I1
      rw [xSs_s q, e1]
      exact ⟨μ2, e2, F1.tr F2, R2⟩
theorem xKey_ok {u : Nat → Nat} {n k e e' : Nat} (h : xKey u n k e = .ok e') : e' = lxE u n e := by
  unfold xKey at h
  by_cases q : lxK u n e = some k
  · rw [if_pos q] at h; exact (Except.ok.inj h).symm
  · rw [if_neg q] at h; exact absurd h (fun x => nomatch x)
theorem n_word {μ : dtM} {n e : Nat} {B : Nat → Int32} {A : aH} {wn : Nat → List Nat} (S : MHN μ A wn) (H : MTk μ n B e) (h0 : M0f μ) : ∃ μ', f_X12_aWord 133 μ = some (bI (xOk (xWord (tx B) n A wn e)), μ') ∧ Fr MDr μ μ' ∧ MRh μ' n B (xWord (tx B) n A wn e) := by
  have C := S.1
  have nw : hs A 2 ≤ 7 := S.2.1.2.2.1.2.2.1
  obtain ⟨μ1, e1, F1, R1⟩ := n_newOne S H h0 (q := 2) (mx := 7) (o := 7) (by decide) ⟨nw, by decide, by decide⟩
  have F1' : Fr MDr μ μ1 := F1.wide (fun k j x => x.elim Or.inl (fun y => Or.inr (Or.inr (by omega))))
  have C1 := C.kept F1
  have ct := S.cnt (j := 2) (by decide)
  have e41 : ∀ μ, f_X12_aWord_41 μ = some (bI false, μ) := fun μ => by rw [f_X12_aWord_41, show (0 : Int32) = Int32.ofNat 0 from rfl, o_ret0']
  have st : f_X12_aWord 133 μ = if bI (xOk (xNw (tx B) n A wn 2 7 e)) = 0 then (f_X12_aWord_41 μ1) else ((opRv 12 μ1 133).bind fun _ => opCall (f_X12_wantWord 133 1000003 (7 : Int32) μ1) fun x20 μ18 => if x20 = 0 then (f_X12_aWord_41 μ18) else (f_X12_aWord_45 dtFuel 133 (Int32.ofNat (hs A 2)) (Int32.ofNat (2056 + 5 * hs A 2)) (0 : Int32) μ18)) := by
    rw [f_X12_aWord, C.g133_0, o_bind, show (2018 : Int32) = Int32.ofNat (2016 + 2) from rfl, ct, o_bind, f_wordRow, o_call, show (2016 : Int32) = Int32.ofNat 2016 from rfl, z_add, show 2016 + (40 + 5 * hs A 2) = 2056 + 5 * hs A 2 by omega, o_bind, C.v133, o_bind, show (2 : Int32) = Int32.ofNat 2 from rfl, show (7 : Int32) = Int32.ofNat 7 from rfl, e1, o_call]
  rw [st]
  unfold xWord
  cases r : xNw (tx B) n A wn 2 7 e with
  | error x =>
    rw [r] at R1
    rw [xB_e]
    refine ⟨μ1, ?_, F1', R1⟩
    rw [if_pos (show bI (xOk (Except.error x : aX (List Nat × Nat))) = 0 from (by decide : bI false = 0)), e41]; rfl
  | ok y =>
    rw [r] at R1
    obtain ⟨r1, ok, l1, H1, h1⟩ := R1
    have h7 : hs A 2 < 7 := by
      rcases Nat.lt_or_ge (hs A 2) 7 with x | x
      · exact x
      · rw [show xNw (tx B) n A wn 2 7 e = .error (flt (tx B) n e 6) from if_pos (by omega)] at r
        exact absurd r (fun x => nomatch x)
    have S1 : MHN μ1 A wn := S.k F1 (fun j _ _ _ x => by omega) (fun r hr x => by have := S.2.1.2.2.1.1; omega) (fun r hr x => by omega) (fun r hr x => by omega)
    obtain ⟨μ2, e2, F2, R2⟩ := H1.wantWord h1 (k := 6) (m := 7) (by decide) (by decide)
    have C2 := C1.kept F2
    have F02 := F1'.tr (F2.wide (fun _ _ x => Or.inl x) : Fr MDr μ1 μ2)
    rw [xB_o, if_neg (show ¬ bI (xOk (Except.ok y : aX (List Nat × Nat))) = 0 from (by decide : ¬ bI true = 0)), C1.v133, o_bind, show (7 : Int32) = Int32.ofNat 7 from rfl, e2, o_call]
    cases r : xKey (tx B) n 6 y.2 with
    | error x =>
      rw [r] at R2
      rw [xS1_e]
      refine ⟨μ2, ?_, F02, R2⟩
      rw [if_pos (show bI (xOk (Except.error x : aX Nat)) = 0 from (by decide : bI false = 0)), e41]; rfl
    | ok e2' =>
      rw [r] at R2
      obtain ⟨H2, h2⟩ := R2
      have S2 := S1.c F2
      obtain ⟨f', μ3, e3, F3, Z3⟩ := wz45 h7 5 0 dtFuel μ2 rfl (dtFuel_gt (by decide)) C2 (fun j hj => absurd hj (Nat.not_lt_zero _))
      have S3 := S2.kW h7 F3
      have H3 := H2.k134 F3 (fun k j x => Or.inl x.1)
      have h3 := h2.k134 F3 (fun k j x => Or.inl x.1)
      have C3 := S3.1
      have is' := H3.isSound
      have F03 := F02.tr (F3.wide (fun k j x => Or.inr (Or.inl (by omega))) : Fr MDr μ2 μ3)
      have I3 : WI μ3 n B A wn y.1 0 (fun _ => 0) e2' := ⟨S3, H3, h3, ⟨Z3 0 (by decide), fun k hk => by
        rw [if_neg (Nat.not_lt_zero _)]
        have z := Z3 (1 + k) (by omega)
        exact z⟩, by rw [F3.j (fun x => by omega), F2.j (fun x => by have := x.1; omega)]; exact r1⟩
      have st2 : f_X12_aWord_45 dtFuel 133 (Int32.ofNat (hs A 2)) (Int32.ofNat (2056 + 5 * hs A 2)) (0 : Int32) μ2 = if bI (sndO (lxK (tx B) n e2')).isSome = 0 then ((opRv 12 μ3 133).bind fun _ => opCall (f_X12_fails 133 (2 : Int32) μ3) fun x14 μ12 => opRet x14 μ12) else (f_X12_aWord_78 dtFuel 133 (Int32.ofNat (hs A 2)) (Int32.ofNat (2056 + 5 * hs A 2)) μ3) := by
        rw [show (0 : Int32) = Int32.ofNat 0 from rfl, e3, f_X12_aWord_45, if_pos (by decide), C3.v133, o_bind, is', o_call, C3.v133]; rfl
      rw [xS1_o, if_neg (show ¬ bI (xOk (Except.ok e2' : aX Nat)) = 0 from (by decide : ¬ bI true = 0)), st2]
      cases q : sndO (lxK (tx B) n e2') with
      | none =>
        obtain ⟨μ4, e4, F4, R4⟩ := n_fails (w := 2) H3 h3 (by decide)
        rw [xSn_0 q, xB_e]
        refine ⟨μ4, ?_, F03.tr (F4.wide (fun _ _ x => Or.inl x)), R4⟩
        rw [if_pos (show bI (none : Option Nat).isSome = 0 from (by decide : bI false = 0)), C3.v133, o_bind, show (2 : Int32) = Int32.ofNat 2 from rfl, e4, o_call, o_bI]; rfl
      | some v =>
        obtain ⟨f, hf⟩ : ∃ f, dtFuel = f + 5 := ⟨dtFuel - 5, by have := dtFuel_gt (n := 6) (by decide); omega⟩
        obtain ⟨μ4, e4, F4, I4⟩ := n_step (f := f + 4) I3 h7 (by decide) q
        obtain ⟨μ5, e5, F5, R5⟩ := rs78 h7 ok 3 1 _ (f + 4) _ μ4 rfl (by decide) (by omega) (fun j hj => by
          have : j = 0 := by omega
          subst this
          rw [dtUp_s]; exact sndO_lt q) I4
        rw [xSn_1 q, if_neg (show ¬ bI (some v).isSome = 0 from (by decide : ¬ bI true = 0)), hf, e4]
        exact ⟨μ5, e5, F03.tr (F4.tr F5), R5⟩
