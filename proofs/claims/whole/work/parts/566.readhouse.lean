/-! PURE 997: an empty house; a house's text, the program -/
def hE : aH := ((fun j => if j = 4 then 4 else 0), (fun _ _ => 0), Int32.ofNat 0, (fun _ => []), (fun _ => []))
theorem hE_s {j : Nat} (h : ¬ j = 4) : hs hE j = 0 := if_neg h
theorem hE_4 : hs hE 4 = 4 := rfl
theorem hE_ok {t i : Nat} (q : hok hE t i) : False := by
  unfold hok at q
  rw [hE_s (by decide), hE_s (by decide), hE_s (by decide)] at q
  omega
theorem hE_W : hWF hE := by
  unfold hWF
  rw [hE_s (j := 0) (by decide), hE_s (j := 1) (by decide), hE_s (j := 2) (by decide), hE_s (j := 3) (by decide), hE_s (j := 5) (by decide), hE_4]
  refine ⟨⟨by decide, by decide, by decide, by decide, by decide, by decide⟩, fun x hx => absurd hx (Nat.not_lt_zero _), fun x hx => absurd hx (Nat.not_lt_zero _), fun x hx => absurd hx (Nat.not_lt_zero _), fun x hx => absurd hx (Nat.not_lt_zero _), fun x hx => absurd hx (Nat.not_lt_zero _)⟩
theorem p_clear {μ : dtM} {h : Nat} (C : CX μ) (hh : h = 12 ∨ h = 25) : ∃ μ', f_X3_clear h μ = some μ' ∧ Fr (fun k j => k = h ∧ j ≤ 6) μ μ' ∧ PH μ' h hE := by
  have S := C.pShw hh
  have s0 : dtS μ h = (0, 3) := S.1.1
  obtain ⟨m1, hm1⟩ : ∃ m, m = dtSI μ h 0 (Int32.ofNat 0) := ⟨_, rfl⟩
  obtain ⟨m2, hm2⟩ : ∃ m, m = dtSI m1 h 1 (Int32.ofNat 0) := ⟨_, rfl⟩
  obtain ⟨m3, hm3⟩ : ∃ m, m = dtSI m2 h 2 (Int32.ofNat 0) := ⟨_, rfl⟩
  obtain ⟨m4, hm4⟩ : ∃ m, m = dtSI m3 h 3 (Int32.ofNat 0) := ⟨_, rfl⟩
  obtain ⟨m5, hm5⟩ : ∃ m, m = dtSI m4 h 4 (Int32.ofNat 4) := ⟨_, rfl⟩
  obtain ⟨m6, hm6⟩ : ∃ m, m = dtSI m5 h 5 (Int32.ofNat 0) := ⟨_, rfl⟩
  obtain ⟨m7, hm7⟩ : ∃ m, m = dtSI m6 h 6 (Int32.ofNat 0) := ⟨_, rfl⟩
  have F1 : Fr (fun k j => k = h ∧ j ≤ 6) μ m1 := by rw [hm1]; exact Fr.SI ⟨rfl, by decide⟩
  have F2 : Fr (fun k j => k = h ∧ j ≤ 6) m1 m2 := by rw [hm2]; exact Fr.SI ⟨rfl, by decide⟩
  have F3 : Fr (fun k j => k = h ∧ j ≤ 6) m2 m3 := by rw [hm3]; exact Fr.SI ⟨rfl, by decide⟩
  have F4 : Fr (fun k j => k = h ∧ j ≤ 6) m3 m4 := by rw [hm4]; exact Fr.SI ⟨rfl, by decide⟩
  have F5 : Fr (fun k j => k = h ∧ j ≤ 6) m4 m5 := by rw [hm5]; exact Fr.SI ⟨rfl, by decide⟩
  have F6 : Fr (fun k j => k = h ∧ j ≤ 6) m5 m6 := by rw [hm6]; exact Fr.SI ⟨rfl, by decide⟩
  have F7 : Fr (fun k j => k = h ∧ j ≤ 6) m6 m7 := by rw [hm7]; exact Fr.SI ⟨rfl, by decide⟩
  have s1 : dtS m1 h = (0, 3) := by rw [F1.S]; exact s0
  have s2 : dtS m2 h = (0, 3) := by rw [F2.S]; exact s1
  have s3 : dtS m3 h = (0, 3) := by rw [F3.S]; exact s2
  have s4 : dtS m4 h = (0, 3) := by rw [F4.S]; exact s3
  have s5 : dtS m5 h = (0, 3) := by rw [F5.S]; exact s4
  have s6 : dtS m6 h = (0, 3) := by rw [F6.S]; exact s5
  have FF := (((((F1.tr F2).tr F3).tr F4).tr F5).tr F6).tr F7
  have v : ∀ j, j < 7 → dtI m7 h j = Int32.ofNat (if j = 4 then 4 else 0) := fun j hj => by
    have : j = 0 ∨ j = 1 ∨ j = 2 ∨ j = 3 ∨ j = 4 ∨ j = 5 ∨ j = 6 := by omega
    rcases this with rfl | rfl | rfl | rfl | rfl | rfl | rfl
    · rw [hm7, m_I_SI, if_neg (by omega), hm6, m_I_SI, if_neg (by omega), hm5, m_I_SI, if_neg (by omega), hm4, m_I_SI, if_neg (by omega), hm3, m_I_SI, if_neg (by omega), hm2, m_I_SI, if_neg (by omega), hm1, m_I_SI, if_pos ⟨rfl, rfl⟩]; rfl
    · rw [hm7, m_I_SI, if_neg (by omega), hm6, m_I_SI, if_neg (by omega), hm5, m_I_SI, if_neg (by omega), hm4, m_I_SI, if_neg (by omega), hm3, m_I_SI, if_neg (by omega), hm2, m_I_SI, if_pos ⟨rfl, rfl⟩]; rfl
    · rw [hm7, m_I_SI, if_neg (by omega), hm6, m_I_SI, if_neg (by omega), hm5, m_I_SI, if_neg (by omega), hm4, m_I_SI, if_neg (by omega), hm3, m_I_SI, if_pos ⟨rfl, rfl⟩]; rfl
    · rw [hm7, m_I_SI, if_neg (by omega), hm6, m_I_SI, if_neg (by omega), hm5, m_I_SI, if_neg (by omega), hm4, m_I_SI, if_pos ⟨rfl, rfl⟩]; rfl
    · rw [hm7, m_I_SI, if_neg (by omega), hm6, m_I_SI, if_neg (by omega), hm5, m_I_SI, if_pos ⟨rfl, rfl⟩]; rfl
    · rw [hm7, m_I_SI, if_neg (by omega), hm6, m_I_SI, if_pos ⟨rfl, rfl⟩]; rfl
    · rw [hm7, m_I_SI, if_pos ⟨rfl, rfl⟩]; rfl
  refine ⟨m7, ?_, FF, (C.kept FF).pShw hh, ⟨fun j hj => v j (by omega), v 6 (by decide), fun t i q => (hE_ok q).elim, fun r hr => absurd hr (Nat.not_lt_zero _), fun p hp => absurd hp (Nat.not_lt_zero _)⟩, hE_W⟩
  rw [f_X3_clear, show (0 : Int32) = Int32.ofNat 0 from rfl, show (4 : Int32) = Int32.ofNat 4 from rfl, o_PI s0, o_bind, ← hm1, o_PI s1, o_bind, ← hm2, o_PI s2, o_bind, ← hm3, o_PI s3, o_bind, ← hm4, o_PI s4, o_bind, ← hm5, o_PI s5, o_bind, ← hm6, o_PI s6, o_bind, ← hm7]
/-- what a house's text of n bytes says -/
def xHouse (B : Nat → Int32) (n : Nat) : aX ((aH × (Nat → List Nat)) × Nat) := xLp (tx B) n (n + 1) hE (fun _ => []) false 0
theorem p_readH {μ : dtM} {B : aB} {n h : Nat} (C : CX μ) (H : PB μ B) (hh : h = 12 ∨ h = 25) (hn : n ≤ B.1) : ∃ μ', f_X4_readInto 114 h 11 (Int32.ofNat n) μ = some (bI (xOk (xHouse B.2.1 n)), μ') ∧ Fw (fun k j => (h ≤ k ∧ k ≤ h + 12) ∨ (k = 115 ∧ 1 ≤ j ∧ j ≤ 9) ∨ k = 117 ∨ (k = 114 ∧ j = 2)) μ μ' ∧ PRh μ' n B.2.1 h (xHouse B.2.1 n) ∧ ∀ j, dtR μ' 0 j = dtR μ 0 j := by
  have n9 := H.1.1
  have S := C.pShw hh
  obtain ⟨m1, e1, F1, H1⟩ := p_clear C hh
  have C1 := C.kept F1
  have F2 : Fr (fun k j => k = 114 ∧ j = 2) m1 (dtSI m1 114 2 (0 : Int32)) := Fr.SI ⟨rfl, rfl⟩
  have C2 := C1.kept F2
  have B2 : PB (dtSI m1 114 2 (0 : Int32)) B := (H.kept F1 (by intros; omega)).kept F2 (by intros; omega)
  obtain ⟨m3, e3, F3, K3, r3⟩ := p_begin (c := 115) C2 B2 (Or.inl rfl) hn
  have C3 := C2.keptW F3
  have H3 : PH m3 h hE := (H1.kept F2 (by intros; omega)).keptW (C3.pShw hh) F3 (by intros; omega)
  have S3 : PHN m3 h hE (fun _ => []) := ⟨C3, H3, hh, fun k hk => absurd hk (Nat.not_lt_zero _)⟩
  obtain ⟨m4, e4, F4, R4⟩ := ri24 (h := h) (n := n) (L := n) (B := B.2.1) ⟨Nat.le_refl _, by omega⟩ (n + 1) 0 0 dtFuel hE (fun _ => []) false m3 (by omega) (Nat.le_refl _) (dtFuel_gt (by omega)) S3 K3 (by rw [F3.i (by omega), m_I_SI, if_pos ⟨rfl, rfl⟩]; rfl)
  refine ⟨m4, ?_, ?_, R4, fun j => by rw [F4.Ra, r3, F2.Ra, F1.Ra]⟩
  · rw [f_X4_readInto, o_Rv S.1.1, o_bind, e1, o_bind, o_PZ0 C1.s114, o_bind, C2.g114_0, o_bind, o_Rv C2.s115, o_bind, e3, o_bind]
    exact e4
  · refine (((F1.wide (fun k j x => ?_)).tr (F2.wide (fun k j x => ?_))).w.tr (F3.wide (fun k j x => ?_))).tr (F4.w.wide (fun k j x => ?_))
    · omega
    · omega
    · omega
    · rcases x with (x | x | x) | x
      · have := x.2; omega
      · omega
      · omega
      · omega
