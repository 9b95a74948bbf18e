/-! PURE 60: come -/
def hCm (A : aH) (r : Nat) : aH := (dtUp A.1 3 (hs A 3 + 1), (fun t i => if i = hs A 3 ∧ 8 ≤ t ∧ t < 12 then (if t = 8 then r else 0) else ht A t i), hm A, hrn A, (fun p => if p = hs A 3 then [] else hpn A p))
theorem hCm_s {A : aH} {r k : Nat} (h : ¬ k = 3) : hs (hCm A r) k = hs A k := if_neg h
theorem hCm_3 {A : aH} {r : Nat} : hs (hCm A r) 3 = hs A 3 + 1 := by
  show dtUp A.1 3 (hs A 3 + 1) 3 = _
  unfold dtUp
  exact if_pos rfl
theorem hCm_t {A : aH} {r t i : Nat} : ht (hCm A r) t i = if i = hs A 3 ∧ 8 ≤ t ∧ t < 12 then (if t = 8 then r else 0) else ht A t i := rfl
theorem hCm_o {A : aH} {r t i : Nat} (h : ¬ (i = hs A 3 ∧ 8 ≤ t ∧ t < 12)) : ht (hCm A r) t i = ht A t i := if_neg h
theorem hCm_n {A : aH} {r t : Nat} (h : 8 ≤ t ∧ t < 12) : ht (hCm A r) t (hs A 3) = if t = 8 then r else 0 := if_pos ⟨rfl, h⟩
theorem hCm_W {A : aH} {r : Nat} (W : hWF A) (hr : r < hs A 0) (hp : hs A 3 < 5) : hWF (hCm A r) := by
  refine ⟨⟨?_, ?_, ?_, ?_, ?_, ?_⟩, fun d hd => ?_, fun w hw => ?_, fun p hp' => ?_, fun q hq => ?_, fun p hp' => ?_⟩
  · rw [hCm_s (by decide)]; exact W.1.1
  · rw [hCm_s (by decide)]; exact W.1.2.1
  · rw [hCm_s (by decide)]; exact W.1.2.2.1
  · rw [hCm_3]; omega
  · rw [hCm_s (by decide)]; exact W.1.2.2.2.2.1
  · rw [hCm_s (by decide), hCm_s (by decide)]; exact W.1.2.2.2.2.2
  · rw [hCm_s (by decide)] at hd
    rw [hCm_s (by decide), hCm_o (by omega), hCm_o (by omega), hCm_o (by omega)]
    exact W.2.1 d hd
  · rw [hCm_s (by decide)] at hw
    rw [hCm_o (by omega)]
    refine ⟨(W.2.2.1 w hw).1, (W.2.2.1 w hw).2.1, fun k hk => ?_⟩
    have := (W.2.2.1 w hw).2.1
    rw [hCm_o (by omega)]
    exact (W.2.2.1 w hw).2.2 k hk
  · rw [hCm_3] at hp'
    rw [hCm_s (by decide), hCm_s (by decide)]
    by_cases e : p = hs A 3
    · subst e
      rw [hCm_n (by decide), hCm_n (by decide), hCm_n (by decide), hCm_n (by decide)]
      exact ⟨hr, Nat.zero_le _, Nat.two_pow_pos _, Nat.zero_le _, fun k hk => absurd hk (Nat.not_lt_zero k)⟩
    · rw [hCm_o (fun x => e x.1), hCm_o (fun x => e x.1), hCm_o (fun x => e x.1), hCm_o (fun x => e x.1)]
      have x := W.2.2.2.1 p (by omega)
      refine ⟨x.1, x.2.1, x.2.2.1, x.2.2.2.1, fun k hk => ?_⟩
      rw [hCm_o (fun x => e x.1)]
      exact x.2.2.2.2 k hk
  · rw [hCm_s (by decide)] at hq
    exact W.2.2.2.2.1 q hq
  · rw [hCm_3] at hp'
    show nOk (if p = hs A 3 then [] else hpn A p)
    by_cases e : p = hs A 3
    · rw [if_pos e]; exact ⟨Nat.zero_le _, fun c hc => by cases hc⟩
    · rw [if_neg e]; exact W.2.2.2.2.2 p (by omega)
theorem hCm_ok {A : aH} {r t i : Nat} (e : ¬ (i = hs A 3 ∧ 8 ≤ t ∧ t < 12)) (q : hok (hCm A r) t i) : hok A t i := by
  unfold hok at q ⊢
  rw [hCm_s (show ¬ 1 = 3 by decide), hCm_s (show ¬ 2 = 3 by decide), hCm_3, hCm_o (show ¬ (i = hs A 3 ∧ 8 ≤ 3 ∧ 3 < 12) by omega)] at q
  rcases q with q | q | q | q | q
  · omega
  · omega
  · omega
  · omega
  · by_cases x : i = hs A 3
    · subst x
      rw [hCm_n (by decide)] at q
      have := q.2.2
      rw [if_neg (by decide)] at this
      omega
    · rw [hCm_o (fun y => x y.1)] at q
      omega
abbrev cmM (μ : dtM) (h np r : Nat) : dtM := dtSI (dtSI (dtSI (dtSI (dtSI (dtSJ μ (h + 2) np (Int64.ofNat 0)) (h + 8) np (Int32.ofNat r)) (h + 9) np (Int32.ofNat 0)) (h + 10) np (Int32.ofNat 0)) (h + 11) np (Int32.ofNat 0)) h 3 (Int32.ofNat (np + 1))
theorem PH.come {μ : dtM} {h : Nat} {A : aH} (H : PH μ h A) {r : Nat} (hr : r < hs A 0) (hp : hs A 3 < 5) : PH (cmM μ h (hs A 3) r) h (hCm A r) := by
  have hI : ∀ a b, dtI (cmM μ h (hs A 3) r) a b = if a = h ∧ b = 3 then Int32.ofNat (hs A 3 + 1) else if a = h + 11 ∧ b = hs A 3 then Int32.ofNat 0 else if a = h + 10 ∧ b = hs A 3 then Int32.ofNat 0 else if a = h + 9 ∧ b = hs A 3 then Int32.ofNat 0 else if a = h + 8 ∧ b = hs A 3 then Int32.ofNat r else dtI μ a b := fun a b => by
    rw [m_I_SI, m_I_SI, m_I_SI, m_I_SI, m_I_SI]; rfl
  refine ⟨H.1, ⟨fun k hk => ?_, ?_, fun t i q => ?_, fun q hq => ?_, fun p hp' => ?_⟩, hCm_W H.2.2 hr hp⟩
  · rw [hI]
    by_cases e : k = 3
    · subst e; rw [if_pos ⟨rfl, rfl⟩, hCm_3]
    · rw [if_neg (fun x => e x.2), if_neg (by omega), if_neg (by omega), if_neg (by omega), if_neg (by omega), hCm_s e]; exact H.2.1.1 k hk
  · rw [hI, if_neg (by omega), if_neg (by omega), if_neg (by omega), if_neg (by omega), if_neg (by omega)]; exact H.2.1.2.1
  · by_cases e : i = hs A 3 ∧ 8 ≤ t ∧ t < 12
    · obtain ⟨e1, e2, e3⟩ := e
      subst e1
      have h4 : t = 8 ∨ t = 9 ∨ t = 10 ∨ t = 11 := by omega
      rcases h4 with rfl | rfl | rfl | rfl
      · rw [show pRow h 8 = h + 8 from rfl, show pIdx 8 (hs A 3) = hs A 3 from rfl, hI, if_neg (by omega), if_neg (by omega), if_neg (by omega), if_neg (by omega), if_pos ⟨rfl, rfl⟩, hCm_n (by decide), if_pos rfl]
      · rw [show pRow h 9 = h + 9 from rfl, show pIdx 9 (hs A 3) = hs A 3 from rfl, hI, if_neg (by omega), if_neg (by omega), if_neg (by omega), if_pos ⟨rfl, rfl⟩, hCm_n (by decide), if_neg (by decide)]
      · rw [show pRow h 10 = h + 10 from rfl, show pIdx 10 (hs A 3) = hs A 3 from rfl, hI, if_neg (by omega), if_neg (by omega), if_pos ⟨rfl, rfl⟩, hCm_n (by decide), if_neg (by decide)]
      · rw [show pRow h 11 = h + 11 from rfl, show pIdx 11 (hs A 3) = hs A 3 from rfl, hI, if_neg (by omega), if_pos ⟨rfl, rfl⟩, hCm_n (by decide), if_neg (by decide)]
    · have q2 := hCm_ok e q
      have hin := pRow_in (h := h) (hok_t q2)
      have ne : ∀ s, 8 ≤ s ∧ s < 12 → pRow h s = h + s → pIdx s (hs A 3) = hs A 3 → ¬ (pRow h t = h + s ∧ pIdx t i = hs A 3) := fun s hs' e1 e2 x => by
        have y := pRI (h := h) (hok_t q2) (show s < 20 by omega) (x.1.trans e1.symm) (x.2.trans e2.symm)
        apply e
        omega
      rw [hI, if_neg (by omega), if_neg (ne 11 (by decide) rfl rfl), if_neg (ne 10 (by decide) rfl rfl), if_neg (ne 9 (by decide) rfl rfl), if_neg (ne 8 (by decide) rfl rfl), hCm_o e]
      exact H.2.1.2.2.1 t i q2
  · rw [hCm_s (by decide)] at hq
    show dtJ (dtSJ μ (h + 2) (hs A 3) (Int64.ofNat 0)) (h + 1) q = _
    rw [m_J_SJ, if_neg (by omega)]
    exact H.2.1.2.2.2.1 q hq
  · rw [hCm_3] at hp'
    show dtJ (dtSJ μ (h + 2) (hs A 3) (Int64.ofNat 0)) (h + 2) p = n32 (if p = hs A 3 then [] else hpn A p)
    rw [m_J_SJ]
    by_cases e : p = hs A 3
    · rw [if_pos ⟨rfl, e⟩, if_pos e]; rfl
    · rw [if_neg (fun x => e x.2), if_neg e]; exact H.2.1.2.2.2.2 p (by omega)
theorem gr_k {P : Nat → Nat → Prop} {μ μ' : dtM} {ci j k : Nat} (F : Fr P μ μ') : opGR ci j μ' k = opGR ci j μ k := by
  unfold opGR
  rw [F.S, F.Ra]
abbrev Pcm (h : Nat) : Nat → Nat → Prop := fun k _ => h + 2 ≤ k ∧ k ≤ h + 11
theorem PH.addPerson {μ : dtM} {h : Nat} {A : aH} (H : PH μ h A) {r : Nat} (hp : hs A 3 < 5) : f_X3_addPerson h (0 : Int64) (Int32.ofNat r) μ = some (cmM μ h (hs A 3) r) := by
  have G : ∀ μ', Fr (Pcm h) μ μ' → opGI 3 3 μ' h = some (Int32.ofNat (hs A 3)) := fun μ' F => by
    rw [o_GI (by rw [F.S]; exact H.s0), F.i (by show ¬ (_ ∧ _); omega), H.2.1.1 3 (by decide)]
  have F0 : Fr (Pcm h) μ (dtSJ μ (h + 2) (hs A 3) (Int64.ofNat 0)) := Fr.SJ (by show _ ∧ _; omega)
  have F1 := F0.tr (Fr.SI (P := Pcm h) (μ := dtSJ μ (h + 2) (hs A 3) (Int64.ofNat 0)) (k := h + 8) (j := hs A 3) (v := Int32.ofNat r) (by show _ ∧ _; omega))
  have F2 := F1.tr (Fr.SI (P := Pcm h) (k := h + 9) (j := hs A 3) (v := Int32.ofNat 0) (by show _ ∧ _; omega))
  have F3 := F2.tr (Fr.SI (P := Pcm h) (k := h + 10) (j := hs A 3) (v := Int32.ofNat 0) (by show _ ∧ _; omega))
  have F4 := F3.tr (Fr.SI (P := Pcm h) (k := h + 11) (j := hs A 3) (v := Int32.ofNat 0) (by show _ ∧ _; omega))
  rw [f_X3_addPerson, H.g3, o_bind, if_neg (show ¬ (5 : Int32) ≤ Int32.ofNat (hs A 3) by rw [show (5 : Int32) = Int32.ofNat 5 from rfl, z_le (by decide) (by omega)]; omega), H.r8, o_bind, o_bind]
  rw [show (0 : Int64) = Int64.ofNat 0 from rfl, o_SJ H.s2 hp (by decide), o_bind, gr_k F0, H.r14, o_bind, G _ F0, o_bind, o_SI (n := 5) (by rw [F0.S]; exact H.s8) hp (by decide), o_bind]
  rw [gr_k F1, H.r15, o_bind, G _ F1, o_bind, show (0 : Int32) = Int32.ofNat 0 from rfl, o_SI (n := 5) (by rw [F1.S]; exact H.s9) hp (by decide), o_bind]
  rw [gr_k F2, H.r16, o_bind, G _ F2, o_bind, o_SI (n := 5) (by rw [F2.S]; exact H.s10) hp (by decide), o_bind]
  rw [gr_k F3, H.r17, o_bind, G _ F3, o_bind, o_SI (n := 5) (by rw [F3.S]; exact H.s11) hp (by decide), o_bind]
  rw [G _ F4, o_bind, show (1 : Int32) = Int32.ofNat 1 from rfl, z_add, o_PI (by rw [F4.S]; exact H.s0), o_bind, f_X3_addPerson_68]
theorem MH.come {μ μ2 : dtM} {A : aH} (H : MH μ 0 0 A) {r : Nat} {P : Nat → Nat → Prop} (hr : r < hs A 0) (hp : hs A 3 < 5) (F : Fr P μ μ2) (hI : ∀ b, dtI μ2 134 b = if b = 75 + 12 * hs A 3 then Int32.ofNat r else if 75 + 12 * hs A 3 ≤ b ∧ b < 75 + 12 * hs A 3 + 12 then Int32.ofNat 0 else if b = 3 then Int32.ofNat (hs A 3 + 1) else dtI μ 134 b) (hJ : ∀ b, dtJ μ2 135 b = if b = 14 + hs A 3 then Int64.ofNat 0 else dtJ μ 135 b) : MH μ2 0 0 (hCm A r) := by
  have hnw := H.nw
  have hnr := H.nr
  refine ⟨by unfold mSh; rw [F.S, F.Ra]; exact H.1, ⟨fun k hk => ?_, ?_, fun t i q => ?_, fun v k hv hk h4 => ?_, fun q hq => ?_, fun p hp' => ?_⟩, hCm_W H.2.2 hr hp⟩
  · rw [hI, if_neg (by omega), if_neg (by omega)]
    by_cases e : k = 3
    · subst e; rw [if_pos (by omega), hCm_3]
    · rw [if_neg (by omega), hCm_s e]; exact H.2.1.1 k hk
  · rw [hI, if_neg (by omega), if_neg (by omega), if_neg (by omega)]; exact H.2.1.2.1
  · by_cases e : i = hs A 3 ∧ 8 ≤ t ∧ t < 12
    · obtain ⟨e1, e2, e3⟩ := e
      subst e1
      have h4 : t = 8 ∨ t = 9 ∨ t = 10 ∨ t = 11 := by omega
      rcases h4 with rfl | rfl | rfl | rfl
      · rw [show mIdx 8 (hs A 3) = 75 + 12 * hs A 3 + (8 - 8) from rfl, hI, if_pos (by omega), hCm_n (by decide), if_pos rfl]
      · rw [show mIdx 9 (hs A 3) = 75 + 12 * hs A 3 + (9 - 8) from rfl, hI, if_neg (by omega), if_pos (by omega), hCm_n (by decide), if_neg (by decide)]
      · rw [show mIdx 10 (hs A 3) = 75 + 12 * hs A 3 + (10 - 8) from rfl, hI, if_neg (by omega), if_pos (by omega), hCm_n (by decide), if_neg (by decide)]
      · rw [show mIdx 11 (hs A 3) = 75 + 12 * hs A 3 + (11 - 8) from rfl, hI, if_neg (by omega), if_pos (by omega), hCm_n (by decide), if_neg (by decide)]
    · have q2 := hCm_ok e q
      have hB := hok_B H.2.2 q2
      have hin := mIdx_in hB
      have lt : mIdx t i < 75 + 12 * hs A 3 := by
        unfold mIdx
        by_cases h1 : t < 3
        · rw [if_pos h1]; have := hB.2.1 h1; omega
        · rw [if_neg h1]
          by_cases h2 : t < 8
          · rw [if_pos h2]; have := hB.2.2.1 (by omega) h2; omega
          · rw [if_neg h2]
            have h20 := hB.1
            by_cases h3 : t < 12
            · have hi : i < hs A 3 := by
                rcases q2 with q2 | q2 | q2 | q2 | q2 <;> omega
              omega
            · have hi : i < hs A 3 := by
                rcases q2 with q2 | q2 | q2 | q2 | q2 <;> omega
              omega
      rw [hI, if_neg (by omega), if_neg (by omega), if_neg (by omega), hCm_o e]
      exact H.2.1.2.2.1 t i q2
  · rw [hCm_s (by decide)] at hv
    rw [hCm_o (by omega)] at hk
    have em : mIdx (4 + k) v = 40 + 5 * v + (4 + k - 3) := by
      unfold mIdx
      rw [if_neg (by omega), if_pos (by omega)]
    have := H.2.1.2.2.2.1 v k hv hk h4
    rw [em] at this ⊢
    rw [hI, if_neg (by omega), if_neg (by omega), if_neg (by omega)]
    exact this
  · rw [hCm_s (by decide)] at hq
    rw [hJ, if_neg (by omega)]
    exact H.2.1.2.2.2.2.1 q hq
  · rw [hCm_3] at hp'
    show _ = n256 (if p = hs A 3 then [] else hpn A p)
    rw [hJ]
    by_cases e : p = hs A 3
    · rw [if_pos (by omega), if_pos e]; rfl
    · rw [if_neg (by omega), if_neg e]; exact H.2.1.2.2.2.2.2 p (by omega)
theorem cm44 {np : Nat} {x : Int32} (hp : np < 5) : ∀ (m f j : Nat) (μ : dtM), j + m = 12 → m < f → CX μ → ∃ μ', f_X12_come_44 f 133 x (Int32.ofNat np) (Int32.ofNat j) μ = some (Int32.ofNat np, dtSI (dtSJ (dtSI μ' 134 (75 + 12 * np) x) 135 (14 + np) (Int64.ofNat 0)) 133 2 (Int32.ofNat 0)) ∧ Fr (fun a b => a = 134 ∧ 75 ≤ b ∧ b < 135) μ μ' ∧ ∀ b, dtI μ' 134 b = if 75 + 12 * np + j ≤ b ∧ b < 75 + 12 * np + 12 then Int32.ofNat 0 else dtI μ 134 b := by
  intro m
  induction m with
  | zero =>
    intro f j μ e hf C
    cases f with
    | zero => omega
    | succ f =>
      refine ⟨μ, ?_, Fr.rf, fun b => by rw [if_neg (by omega)]⟩
      have C1 : CX (dtSI μ 134 (75 + 12 * np) x) := C.SI
      have C2 : CX (dtSJ (dtSI μ 134 (75 + 12 * np) x) 135 (14 + np) (Int64.ofNat 0)) := C1.SJ
      rw [f_X12_come_44, if_pos (show (12 : Int32) ≤ Int32.ofNat j by rw [show (12 : Int32) = Int32.ofNat 12 from rfl, z_le (by decide) (by omega)]; omega), C.g133_0, o_bind, f_X12_personRow, o_call]
      rw [show (75 : Int32) = Int32.ofNat 75 from rfl, show (12 : Int32) = Int32.ofNat 12 from rfl, z_mul, z_add, o_SI C.s134 (by omega) (by decide), o_bind, C1.g133_1, o_bind, show (14 : Int32) = Int32.ofNat 14 from rfl, z_add, show (0 : Int64) = Int64.ofNat 0 from rfl, o_SJ C1.s135 (by omega) (by decide), o_bind, C2.v133, o_bind, n_gives C2, o_call]
  | succ m ih =>
    intro f j μ e hf C
    cases f with
    | zero => omega
    | succ f =>
      have F1 : Fr (fun a b => a = 134 ∧ 75 ≤ b ∧ b < 135) μ (dtSI μ 134 (75 + 12 * np + j) (Int32.ofNat 0)) := Fr.SI ⟨rfl, by omega, by omega⟩
      obtain ⟨μ2, e2, F2, g2⟩ := ih f (j + 1) _ (by omega) (by omega) (C.kept F1)
      refine ⟨μ2, ?_, F1.tr F2, fun b => ?_⟩
      · rw [← e2, f_X12_come_44, if_neg (show ¬ (12 : Int32) ≤ Int32.ofNat j by rw [show (12 : Int32) = Int32.ofNat 12 from rfl, z_le (by decide) (by omega)]; omega), C.g133_0, o_bind, f_X12_personRow, o_call]
        rw [show (75 : Int32) = Int32.ofNat 75 from rfl, show (12 : Int32) = Int32.ofNat 12 from rfl, z_mul, z_add, z_add, show (0 : Int32) = Int32.ofNat 0 from rfl, o_SI C.s134 (by omega) (by decide), o_bind, show (1 : Int32) = Int32.ofNat 1 from rfl, z_add]
      · rw [g2, m_I_SI]
        by_cases q : b = 75 + 12 * np + j
        · rw [if_neg (by omega), if_pos ⟨rfl, q⟩, if_pos (by omega)]
        · by_cases q2 : 75 + 12 * np + (j + 1) ≤ b ∧ b < 75 + 12 * np + 12
          · rw [if_pos q2, if_pos (by omega)]
          · rw [if_neg q2, if_neg (fun y => q y.2), if_neg (by omega)]
theorem cs23 {μ : dtM} {w : aW} {f : aF} {A : aH} {z : aZ} (HP : RP μ w f A z) (HM : RM μ f A z) (W : dWF A (zD z)) (x : Int32) : both (f_X11_come 0 x) (f_X12_come 133 x) μ := by
  have C := HP.c
  have HH := HP.ph
  have g5 := HP.g5
  have hnr := HH.nr
  have hnp := HH.np
  have hh := HP.hh
  obtain ⟨w1, w2⟩ := HP.2.1.1
  cases hq : inR x (hs A 0)
  · refine both.no HP HM W (-Int32.ofNat 1) (Int32.ofNat 1) ?_ (fun μ1 R1 => ?_)
    · rw [f_X11_come, g5, o_bind, HH.rv, o_bind, HH.hasRoom, hq, o_call, if_pos (by decide), C.v0, o_bind, show (1 : Int32) = Int32.ofNat 1 from rfl, p_fail C, o_call]
    · rw [f_X12_come, R1.c.v133, o_bind, R1.mh.isRoom, hq, o_call, if_pos (by decide), R1.c.v133, o_bind, show (1 : Int32) = Int32.ofNat 1 from rfl, n_refuse R1.c, o_call]
  · obtain ⟨r, hr, rfl⟩ := inR_t (by omega) hq
    have lt5 := z_lt (show hs A 3 < 2147483648 by omega) (show 5 < 2147483648 by decide)
    have eq5 := z_eq (show hs A 3 < 2147483648 by omega) (show 5 < 2147483648 by decide)
    have m3 : ∀ μ1, RM μ1 f A z → opLI 1 μ1 134 (3 : Int32) = some (Int32.ofNat (hs A 3)) := fun μ1 R1 => R1.mh.gj (j := 3) (by decide)
    by_cases h5 : hs A 3 < 5
    · refine both.hou HP HM W (Int32.ofNat (hs A 3)) (Int32.ofNat 0) (hCm A r) ?_ (fun μ1 R1 => ?_) (W.kept (hCm_s (by decide)) (hCm_s (by decide)) (by rw [hCm_3]; omega))
      · have F0 : Fr (ScHP w) μ (cmM μ w.1 (hs A 3) r) := ((((((Fr.SJ (P := ScHP w) (by unfold ScHP; omega)).tr (Fr.SI (P := ScHP w) (by unfold ScHP; omega))).tr (Fr.SI (P := ScHP w) (by unfold ScHP; omega))).tr (Fr.SI (P := ScHP w) (by unfold ScHP; omega))).tr (Fr.SI (P := ScHP w) (by unfold ScHP; omega))).tr (Fr.SI (P := ScHP w) (by unfold ScHP; omega)))
        have C2 := C.kept F0
        have H2 := HH.come hr h5
        have g5' : opGR 11 5 (cmM μ w.1 (hs A 3) r) 0 = some w.1 := by rw [gr_k F0]; exact g5
        refine ⟨cmM μ w.1 (hs A 3) r, ?_, F0, H2⟩
        have g3 := H2.g3
        rw [hCm_3] at g3
        rw [f_X11_come, g5, o_bind, HH.rv, o_bind, HH.hasRoom, hq, o_call, if_neg (by decide), g5, o_bind, HH.g3, o_bind, if_pos (show Int32.ofNat (hs A 3) < (5 : Int32) by rw [show (5 : Int32) = Int32.ofNat 5 from rfl, lt5]; exact h5), o_bind, HH.rv, o_bind, HH.addPerson h5, o_bind, g5', o_bind, g3, o_bind, C2.v0, o_bind, show (1 : Int32) = Int32.ofNat 1 from rfl, z_sub (by omega), Nat.add_sub_cancel, p_ans C2, o_call]
      · have C1 := R1.c
        have F1 : Fr ScHM μ1 (dtSI μ1 134 3 (Int32.ofNat (hs A 3 + 1))) := Fr.SI (by unfold ScHM; omega)
        obtain ⟨μ2, e2, F2, g2⟩ := cm44 (x := Int32.ofNat r) h5 12 dtFuel 0 _ (by omega) (dtFuel_gt (by decide)) (C1.kept F1)
        have F12 := F1.tr (F2.wide (Q := ScHM) (fun a b y => by unfold ScHM; omega))
        have F3 := (F12.tr (Fr.SI (P := ScHM) (k := 134) (j := 75 + 12 * hs A 3) (v := Int32.ofNat r) (by unfold ScHM; omega))).tr (Fr.SJ (P := ScHM) (k := 135) (j := 14 + hs A 3) (v := Int64.ofNat 0) (by unfold ScHM; omega))
        refine ⟨dtSJ (dtSI μ2 134 (75 + 12 * hs A 3) (Int32.ofNat r)) 135 (14 + hs A 3) (Int64.ofNat 0), ?_, F3, R1.mh.come hr h5 F3 (fun b => ?_) (fun b => ?_)⟩
        · rw [f_X12_come, C1.v133, o_bind, R1.mh.isRoom, hq, o_call, if_neg (by decide), C1.g133_0, o_bind, m3 μ1 R1, o_bind, if_neg (show ¬ Int32.ofNat (hs A 3) = (5 : Int32) by rw [show (5 : Int32) = Int32.ofNat 5 from rfl, eq5]; omega), o_bind, m3 μ1 R1, o_bind, show (1 : Int32) = Int32.ofNat 1 from rfl, z_add, show (3 : Int32) = Int32.ofNat 3 from rfl, o_SI C1.s134 (by decide) (by decide), o_bind]
          exact e2
        · show dtI (dtSI μ2 134 _ _) 134 b = _
          rw [m_I_SI, g2, m_I_SI]
          by_cases q : b = 75 + 12 * hs A 3
          · rw [if_pos ⟨rfl, q⟩, if_pos q]
          · rw [if_neg (fun y => q y.2), if_neg q, Nat.add_zero]
            by_cases q2 : 75 + 12 * hs A 3 ≤ b ∧ b < 75 + 12 * hs A 3 + 12
            · rw [if_pos q2, if_pos q2]
            · rw [if_neg q2, if_neg q2]
              by_cases q3 : b = 3
              · rw [if_pos ⟨rfl, q3⟩, if_pos q3]
              · rw [if_neg (fun y => q3 y.2), if_neg q3]
        · rw [m_J_SJ]
          by_cases q : b = 14 + hs A 3
          · rw [if_pos ⟨rfl, q⟩, if_pos q]
          · rw [if_neg (fun y => q y.2), if_neg q]
            show dtJ μ2 135 b = _
            rw [F2.J (k := 135) (fun j y => absurd y.1 (by decide))]
            rfl
    · refine both.no HP HM W (-Int32.ofNat 1) (Int32.ofNat 4) ?_ (fun μ1 R1 => ?_)
      · rw [f_X11_come, g5, o_bind, HH.rv, o_bind, HH.hasRoom, hq, o_call, if_neg (by decide), g5, o_bind, HH.g3, o_bind, if_neg (show ¬ Int32.ofNat (hs A 3) < (5 : Int32) by rw [show (5 : Int32) = Int32.ofNat 5 from rfl, lt5]; exact h5), C.v0, o_bind, show (4 : Int32) = Int32.ofNat 4 from rfl, p_fail C, o_call]
      · rw [f_X12_come, R1.c.v133, o_bind, R1.mh.isRoom, hq, o_call, if_neg (by decide), R1.c.g133_0, o_bind, m3 μ1 R1, o_bind, if_pos (show Int32.ofNat (hs A 3) = (5 : Int32) by rw [show (5 : Int32) = Int32.ofNat 5 from rfl, eq5]; omega), R1.c.v133, o_bind, show (4 : Int32) = Int32.ofNat 4 from rfl, n_refuse R1.c, o_call]
