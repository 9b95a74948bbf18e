/-! PURE 98: a person told, the program -/
abbrev Ppe (h p : Nat) : Nat → Nat → Prop := fun k j => (k = h ∧ j = 3) ∨ ((k = h + 2 ∨ k = h + 8 ∨ k = h + 9 ∨ k = h + 10 ∨ k = h + 11) ∧ j = p)
theorem p_addPerson {μ : dtM} {h rm : Nat} {l : List Nat} {A : aH} {wn : Nat → List Nat} (S : PHN μ h A wn) (h5 : hs A 3 < 5) (ok : nOk l) (hr : rm < hs A 0) : ∃ μ', f_X3_addPerson h (n32 l) (Int32.ofNat rm) μ = some μ' ∧ Fr (Ppe h (hs A 3)) μ μ' ∧ PHN μ' h (hPe A l rm 0 0) wn := by
  obtain ⟨C, H, hh, N⟩ := S
  let m1 := dtSJ μ (h + 2) (hs A 3) (n32 l)
  let m2 := dtSI m1 (h + 8) (hs A 3) (Int32.ofNat rm)
  let m3 := dtSI m2 (h + 9) (hs A 3) (Int32.ofNat 0)
  let m4 := dtSI m3 (h + 10) (hs A 3) (Int32.ofNat 0)
  let m5 := dtSI m4 (h + 11) (hs A 3) (Int32.ofNat 0)
  let m6 := dtSI m5 h 3 (Int32.ofNat (hs A 3 + 1))
  have F1 : Fr (Ppe h (hs A 3)) μ m1 := Fr.SJ (Or.inr ⟨Or.inl rfl, rfl⟩)
  have F2 : Fr (Ppe h (hs A 3)) μ m2 := F1.tr (Fr.SI (Or.inr ⟨Or.inr (Or.inl rfl), rfl⟩))
  have F3 : Fr (Ppe h (hs A 3)) μ m3 := F2.tr (Fr.SI (Or.inr ⟨Or.inr (Or.inr (Or.inl rfl)), rfl⟩))
  have F4 : Fr (Ppe h (hs A 3)) μ m4 := F3.tr (Fr.SI (Or.inr ⟨Or.inr (Or.inr (Or.inr (Or.inl rfl))), rfl⟩))
  have F5 : Fr (Ppe h (hs A 3)) μ m5 := F4.tr (Fr.SI (Or.inr ⟨Or.inr (Or.inr (Or.inr (Or.inr rfl))), rfl⟩))
  have F6 : Fr (Ppe h (hs A 3)) μ m6 := F5.tr (Fr.SI (Or.inl ⟨rfl, rfl⟩))
  have s0 : ∀ {m}, Fr (Ppe h (hs A 3)) μ m → dtS m h = (0, 3) := fun F => by rw [F.S]; exact H.s0
  have v3 : dtI μ h 3 = Int32.ofNat (hs A 3) := H.2.1.1 3 (by decide)
  have g3 : ∀ {m}, Fr (Ppe h (hs A 3)) μ m → dtI m h 3 = dtI μ h 3 → opGI 3 3 m h = some (Int32.ofNat (hs A 3)) := fun F e => by rw [o_GI (s0 F), e, v3]
  have i1 : dtI m1 h 3 = dtI μ h 3 := rfl
  have i2 : dtI m2 h 3 = dtI μ h 3 := by
    show dtI (dtSI _ _ _ _) _ _ = _
    rw [m_I_SI, if_neg (by omega)]; exact i1
  have i3 : dtI m3 h 3 = dtI μ h 3 := by
    show dtI (dtSI _ _ _ _) _ _ = _
    rw [m_I_SI, if_neg (by omega)]; exact i2
  have i4 : dtI m4 h 3 = dtI μ h 3 := by
    show dtI (dtSI _ _ _ _) _ _ = _
    rw [m_I_SI, if_neg (by omega)]; exact i3
  have i5 : dtI m5 h 3 = dtI μ h 3 := by
    show dtI (dtSI _ _ _ _) _ _ = _
    rw [m_I_SI, if_neg (by omega)]; exact i4
  have r14 : opGR 3 14 m1 h = some (h + 8) := o_GR (s0 F1) (by rw [F1.Ra]; exact H.1.2.2.2.2.2.2.2.2.2.2.2.2.1)
  have r15 : opGR 3 15 m2 h = some (h + 9) := o_GR (s0 F2) (by rw [F2.Ra]; exact H.1.2.2.2.2.2.2.2.2.2.2.2.2.2.1)
  have r16 : opGR 3 16 m3 h = some (h + 10) := o_GR (s0 F3) (by rw [F3.Ra]; exact H.1.2.2.2.2.2.2.2.2.2.2.2.2.2.2.1)
  have r17 : opGR 3 17 m4 h = some (h + 11) := o_GR (s0 F4) (by rw [F4.Ra]; exact H.1.2.2.2.2.2.2.2.2.2.2.2.2.2.2.2.1)
  have np := H.np
  refine ⟨m6, ?_, F6, C.kept F6, H.personed h5 ok hr (by decide) (Nat.two_pow_pos _) F6 (fun k j x => Or.inr (Or.inr x)) ?_ ?_ ?_ ?_ ?_ ?_, hh, fun k hk => ?_⟩
  · rw [f_X3_addPerson, H.g3, o_bind, if_neg (show ¬ (5 : Int32) ≤ Int32.ofNat (hs A 3) by rw [show (5 : Int32) = Int32.ofNat 5 from rfl, z_le (by decide) (by omega)]; omega), H.r8, o_bind, o_bind, o_SJ H.s2 h5 (by decide), o_bind, r14, o_bind, g3 F1 i1, o_bind, o_SI (by rw [F1.S]; exact H.s8) h5 (by decide), o_bind, r15, o_bind, g3 F2 i2, o_bind, show (0 : Int32) = Int32.ofNat 0 from rfl, o_SI (by rw [F2.S]; exact H.s9) h5 (by decide), o_bind, r16, o_bind, g3 F3 i3, o_bind, o_SI (by rw [F3.S]; exact H.s10) h5 (by decide), o_bind, r17, o_bind, g3 F4 i4, o_bind, o_SI (by rw [F4.S]; exact H.s11) h5 (by decide), o_bind, g3 F5 i5, o_bind, show (1 : Int32) = Int32.ofNat 1 from rfl, z_add, o_PI (s0 F5), o_bind, f_X3_addPerson_68]
  · show dtI (dtSI _ _ _ _) _ _ = _
    rw [m_I_SI, if_pos ⟨rfl, rfl⟩]
  · show dtJ (dtSJ _ _ _ _) _ _ = _
    rw [m_J_SJ, if_pos ⟨rfl, rfl⟩]
  · show dtI (dtSI (dtSI (dtSI (dtSI (dtSI _ _ _ _) _ _ _) _ _ _) _ _ _) _ _ _) _ _ = _
    rw [m_I_SI, if_neg (by omega), m_I_SI, if_neg (by omega), m_I_SI, if_neg (by omega), m_I_SI, if_neg (by omega), m_I_SI, if_pos ⟨rfl, rfl⟩]
  · show dtI (dtSI (dtSI (dtSI (dtSI _ _ _ _) _ _ _) _ _ _) _ _ _) _ _ = _
    rw [m_I_SI, if_neg (by omega), m_I_SI, if_neg (by omega), m_I_SI, if_neg (by omega), m_I_SI, if_pos ⟨rfl, rfl⟩]
  · show dtI (dtSI (dtSI (dtSI _ _ _ _) _ _ _) _ _ _) _ _ = _
    rw [m_I_SI, if_neg (by omega), m_I_SI, if_neg (by omega), m_I_SI, if_pos ⟨rfl, rfl⟩]
  · show dtI (dtSI (dtSI _ _ _ _) _ _ _) _ _ = _
    rw [m_I_SI, if_neg (by omega), m_I_SI, if_pos ⟨rfl, rfl⟩]
  · rw [hPe_s (by decide)] at hk
    rw [F6.j (fun x => by
      have y : (117 = h ∧ k = 3) ∨ ((117 = h + 2 ∨ 117 = h + 8 ∨ 117 = h + 9 ∨ 117 = h + 10 ∨ 117 = h + 11) ∧ k = hs A 3) := x
      omega)]
    exact N k hk
/-- the deaf and known of the last person set anew -/
theorem PHN.last {μ : dtM} {h rm df kn : Nat} {l : List Nat} {A : aH} {wn : Nat → List Nat} (S : PHN μ h (hPe A l rm 0 0) wn) (h5 : hs A 3 < 5) (hd : df ≤ 9) (hk : kn < 2 ^ hs A 2) : PHN (dtSI (dtSI μ (h + 9) (hs A 3) (Int32.ofNat df)) (h + 10) (hs A 3) (Int32.ofNat kn)) h (hPe A l rm df kn) wn := by
  obtain ⟨C, ⟨Sh, V, W⟩, hh, N⟩ := S
  have F : Fr (fun k j => (k = h + 9 ∨ k = h + 10) ∧ j = hs A 3) μ (dtSI (dtSI μ (h + 9) (hs A 3) (Int32.ofNat df)) (h + 10) (hs A 3) (Int32.ofNat kn)) := (Fr.SI ⟨Or.inl rfl, rfl⟩).tr (Fr.SI ⟨Or.inr rfl, rfl⟩)
  have same : ∀ t i, ¬ (i = hs A 3 ∧ (t = 9 ∨ t = 10)) → ht (hPe A l rm df kn) t i = ht (hPe A l rm 0 0) t i := fun t i q => by
    by_cases x : i = hs A 3 ∧ 8 ≤ t ∧ t < 12
    · obtain ⟨x1, x2⟩ := x
      subst x1
      rw [hPe_n x2, hPe_n x2]
      by_cases y0 : t = 8
      · rw [if_pos y0, if_pos y0]
      · rw [if_neg y0, if_neg y0, if_neg (by omega), if_neg (by omega), if_neg (by omega), if_neg (by omega)]
    · rw [hPe_o x, hPe_o x]
  have okk : ∀ t i, hok (hPe A l rm df kn) t i → hok (hPe A l rm 0 0) t i := fun t i q => by
    unfold hok at q ⊢
    rw [same 3 i (by omega), same 11 i (by omega)] at q
    exact q
  have W' : hWF (hPe A l rm df kn) := by
    obtain ⟨a, b, c, d, f, g⟩ := W
    refine ⟨a, fun x hx => ?_, fun w hw => ?_, fun p hp => ?_, f, g⟩
    · rw [same _ _ (by omega), same _ _ (by omega), same _ _ (by omega)]; exact b x hx
    · rw [same _ _ (by omega)]
      have y := c w hw
      refine ⟨y.1, y.2.1, fun k hk => ?_⟩
      have k4 : k < 4 := Nat.lt_of_lt_of_le hk y.2.1
      rw [same _ _ (by omega)]; exact y.2.2 k hk
    · have y := d p hp
      rw [same 8 _ (by omega), same 11 _ (by omega)]
      refine ⟨y.1, ?_, ?_, y.2.2.2.1, fun k hk => ?_⟩
      · by_cases x : p = hs A 3
        · rw [x, hPe_n (by decide), if_neg (by decide), if_pos rfl]; exact hd
        · rw [same _ _ (fun z => x z.1)]; exact y.2.1
      · by_cases x : p = hs A 3
        · rw [x, hPe_n (by decide), if_neg (by decide), if_neg (by decide), if_pos rfl]; exact hk
        · rw [same _ _ (fun z => x z.1)]; exact y.2.2.1
      · rw [same _ _ (by omega)]; exact y.2.2.2.2 k hk
  refine ⟨C.kept F, ⟨?_, ⟨fun j hj => ?_, ?_, fun t i q => ?_, fun r hr => ?_, fun p hp => ?_⟩, W'⟩, hh, fun k hk => ?_⟩
  · unfold pSh
    rw [F.S, F.Ra]; exact Sh
  · rw [F.i (by omega)]; exact V.1 j hj
  · rw [F.i (by omega)]; exact V.2.1
  · by_cases x : i = hs A 3 ∧ (t = 9 ∨ t = 10)
    · obtain ⟨x1, x2⟩ := x
      subst x1
      rw [hPe_n (by omega), show pRow h t = h + t by unfold pRow; rw [if_neg (by omega), if_neg (by omega), if_neg (by omega), if_pos (by omega)], show pIdx t (hs A 3) = hs A 3 by unfold pIdx; rw [if_neg (by omega), if_neg (by omega)]]
      by_cases y : t = 9
      · subst y
        rw [if_neg (by decide), if_pos rfl, m_I_SI, if_neg (by omega), m_I_SI, if_pos ⟨rfl, rfl⟩]
      · have y10 : t = 10 := by omega
        subst y10
        rw [if_neg (by decide), if_neg (by decide), if_pos rfl, m_I_SI, if_pos ⟨rfl, rfl⟩]
    · rw [same t i x]
      have q' := okk t i q
      have t20 := hok_t q'
      have e : ¬ ((pRow h t = h + 9 ∨ pRow h t = h + 10) ∧ pIdx t i = hs A 3) := fun y => by
        unfold pRow pIdx at y
        by_cases t3 : t < 3
        · rw [if_pos t3] at y; omega
        · rw [if_neg t3] at y
          by_cases t4 : t = 3
          · rw [if_pos t4] at y; omega
          · rw [if_neg t4] at y
            by_cases t8 : t < 8
            · rw [if_pos t8] at y; omega
            · rw [if_neg t8] at y
              by_cases t12 : t < 12
              · rw [if_pos t12, if_neg (by omega), if_neg (by omega)] at y; omega
              · rw [if_neg t12] at y; omega
      rw [F.i e]; exact V.2.2.1 t i q'
  · rw [F.j (by omega)]; exact V.2.2.2.1 r hr
  · rw [F.j (by omega)]; exact V.2.2.2.2 p hp
  · rw [F.j (by omega)]; exact N k hk
