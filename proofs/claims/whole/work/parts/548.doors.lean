/-! PURE 88: a door told, on both sides -/
theorem xFind_0 {u : Nat → Nat} {n many e : Nat} {N : Nat → List Nat} (h : lxN u n e = none) : xFind u n N many e = .error (flt u n e 2) := by
  unfold xFind
  rw [h]
theorem xFind_1 {u : Nat → Nat} {n many e : Nat} {N : Nat → List Nat} {l : List Nat} (h : lxN u n e = some l) (q : fnd N l many 0 = none) : xFind u n N many e = .error (flt u n e 3) := by
  unfold xFind
  rw [h]
  show (match fnd N l many 0 with | none => _ | some i => _) = _
  rw [q]
theorem xFind_2 {u : Nat → Nat} {n many e i : Nat} {N : Nat → List Nat} {l : List Nat} (h : lxN u n e = some l) (q : fnd N l many 0 = some i) : xFind u n N many e = .ok (i, e) := by
  unfold xFind
  rw [h]
  show (match fnd N l many 0 with | none => _ | some i => _) = _
  rw [q]
theorem xFind_lt {u : Nat → Nat} {n many e : Nat} {N : Nat → List Nat} {y : Nat × Nat} (h : xFind u n N many e = .ok y) : y.1 < many ∧ y.2 = e := by
  cases hn : lxN u n e with
  | none => rw [xFind_0 hn] at h; exact absurd h (fun x => nomatch x)
  | some l =>
    cases hf : fnd N l many 0 with
    | none => rw [xFind_1 hn hf] at h; exact absurd h (fun x => nomatch x)
    | some i =>
      rw [xFind_2 hn hf] at h
      have := fnd_lt _ _ _ hf
      have e : (i, e) = y := Except.ok.inj h
      subst e
      exact ⟨by omega, rfl⟩
theorem xOld_lt {u : Nat → Nat} {n many e : Nat} {N : Nat → List Nat} {y : Nat × Nat} (h : xOld u n N many e = .ok y) : y.1 < many := by
  cases hn : lxN u n e with
  | none => rw [xOld_0 hn] at h; exact absurd h (fun x => nomatch x)
  | some l =>
    cases hf : fnd N l many 0 with
    | none => rw [xOld_1 hn hf] at h; exact absurd h (fun x => nomatch x)
    | some i =>
      rw [xOld_2 hn hf] at h
      have := fnd_lt _ _ _ hf
      have e : (i, lxE u n e) = y := Except.ok.inj h
      subst e
      show i < many
      omega
theorem xNum_le {u : Nat → Nat} {n lo hi e : Nat} {y : Nat × Nat} (h : xNum u n lo hi e = .ok y) : y.1 ≤ hi ∧ lo ≤ y.1 := by
  unfold xNum at h
  by_cases q : lxT u n e = 2
  · rw [if_pos q] at h
    by_cases r : lo ≤ lxV u n e ∧ lxV u n e ≤ hi
    · rw [if_pos r] at h
      have e : (lxV u n e, lxE u n e) = y := Except.ok.inj h
      subst e
      exact ⟨r.2, r.1⟩
    · rw [if_neg r] at h; exact absurd h (fun x => nomatch x)
  · rw [if_neg q] at h; exact absurd h (fun x => nomatch x)
def xCho (u : Nat → Nat) (n k hi e : Nat) : aX (Nat × Nat) := if lxK u n e = some k then xNum u n 0 hi (lxE u n e) else .ok (0, e)
theorem xCho_le {u : Nat → Nat} {n k hi e : Nat} {y : Nat × Nat} (h : xCho u n k hi e = .ok y) : y.1 ≤ hi := by
  unfold xCho at h
  by_cases q : lxK u n e = some k
  · rw [if_pos q] at h; exact (xNum_le h).1
  · rw [if_neg q] at h
    have e : (0, e) = y := Except.ok.inj h
    subst e
    exact Nat.zero_le _
def xTwo (u : Nat → Nat) (n : Nat) (N : Nat → List Nat) (many a e : Nat) : aX (Nat × Nat) := xB (xFind u n N many e) (fun b e1 => if b = a then .error (flt u n e1 5) else .ok (b, lxE u n e1))
def xOpn (u : Nat → Nat) (n e : Nat) : Bool × Nat := if lxK u n e = some 4 then (true, lxE u n e) else (false, e)
def xDoor (u : Nat → Nat) (n : Nat) (A : aH) (wn : Nat → List Nat) (e : Nat) : aX ((aH × (Nat → List Nat)) × Nat) := if hs A 1 = 10 then .error (flt u n e 6) else xB (xOld u n (hrn A) (hs A 0) (lxE u n e)) (fun a e1 => xB (xTwo u n (hrn A) (hs A 0) a e1) (fun b e2 => xB (xCho u n 3 9 e2) (fun z e3 => .ok ((hDr A a b z (xOpn u n e3).1, wn), (xOpn u n e3).2))))
theorem p_cho {μ : dtM} {h n e k hi : Nat} {B : Nat → Int32} {A : aH} {wn : Nat → List Nat} (S : PHN μ h A wn) (H : PTk μ 115 n B e) (hk : k < 24) (hh : hi < 10000) : ∃ μ' v, f_X4_readChoice 114 (Int32.ofNat k) (Int32.ofNat hi) μ = some (v, μ') ∧ Fr (Pcl 115) μ μ' ∧ PRv μ' 115 n B (xCho (tx B) n k hi e) v := by
  have C := S.1
  have cond := oN_eqk (o := lxK (tx B) n e) (fun j h => lxK_lt h) hk
  unfold xCho
  by_cases q : lxK (tx B) n e = some k
  · obtain ⟨μ1, e1, F1, H1⟩ := H.adv
    have C1 := C.kept F1
    obtain ⟨μ2, v, e2, F2, R2⟩ := H1.passNum (lo := 0) (hi := hi) (by decide) hh
    rw [if_pos q]
    refine ⟨μ2, v, ?_, (F1.wide (fun _ _ x => Ptk.c x)).tr F2, R2⟩
    rw [f_X4_readChoice, C.g114_0, o_bind, H.g6, o_bind, if_pos (Eq.mpr cond q), o_bind, H.1.v, o_bind, e1, o_bind, C1.g114_0, o_bind, H1.1.v, o_bind, show (0 : Int32) = Int32.ofNat 0 from rfl, e2, o_call]
  · rw [if_neg q]
    refine ⟨μ, Int32.ofNat 0, ?_, Fr.rf, rfl, H⟩
    rw [f_X4_readChoice, C.g114_0, o_bind, H.g6, o_bind, if_neg (fun x => q (Eq.mp cond x))]; rfl
theorem p_addDoor {μ : dtM} {h a b z : Nat} {op : Bool} {A : aH} {wn : Nat → List Nat} (S : PHN μ h A wn) (h10 : hs A 1 < 10) (ha : a < hs A 0) (hb : b < hs A 0) (hab : ¬ a = b) (hz : z ≤ 9) : ∃ μ', f_X3_addDoor h (Int32.ofNat a) (Int32.ofNat b) (Int32.ofNat z) (bI op) μ = some μ' ∧ Fr (fun k j => (k = h ∧ (j = 1 ∨ j = 5)) ∨ ((k = h + 3 ∨ k = h + 4 ∨ k = h + 5) ∧ j = hs A 1)) μ μ' ∧ PHN μ' h (hDr A a b z op) wn := by
  obtain ⟨C, H, hh, N⟩ := S
  let P : Nat → Nat → Prop := fun k j => (k = h ∧ (j = 1 ∨ j = 5)) ∨ ((k = h + 3 ∨ k = h + 4 ∨ k = h + 5) ∧ j = hs A 1)
  let m1 := dtSI μ (h + 3) (hs A 1) (Int32.ofNat a)
  let m2 := dtSI m1 (h + 4) (hs A 1) (Int32.ofNat b)
  let m3 := dtSI m2 (h + 5) (hs A 1) (Int32.ofNat z)
  have F1 : Fr P μ m1 := Fr.SI (Or.inr ⟨Or.inl rfl, rfl⟩)
  have F2 : Fr P μ m2 := F1.tr (Fr.SI (Or.inr ⟨Or.inr (Or.inl rfl), rfl⟩))
  have F3 : Fr P μ m3 := F2.tr (Fr.SI (Or.inr ⟨Or.inr (Or.inr rfl), rfl⟩))
  have s0 : ∀ {m}, Fr P μ m → dtS m h = (0, 3) := fun F => by rw [F.S]; exact H.s0
  have g1 : ∀ {m}, Fr P μ m → dtI m h 1 = dtI μ h 1 → opGI 3 1 m h = some (Int32.ofNat (hs A 1)) := fun F e => by rw [o_GI (s0 F), e, H.2.1.1 1 (by decide)]
  have i1 : dtI m1 h 1 = dtI μ h 1 := by
    show dtI (dtSI _ _ _ _) _ _ = _
    rw [m_I_SI, if_neg (by omega)]
  have i2 : dtI m2 h 1 = dtI μ h 1 := by
    show dtI (dtSI _ _ _ _) _ _ = _
    rw [m_I_SI, if_neg (by omega)]; exact i1
  have i3 : dtI m3 h 1 = dtI μ h 1 := by
    show dtI (dtSI _ _ _ _) _ _ = _
    rw [m_I_SI, if_neg (by omega)]; exact i2
  have i35 : dtI m3 h 5 = dtI μ h 5 := by
    show dtI (dtSI (dtSI (dtSI _ _ _ _) _ _ _) _ _ _) _ _ = _
    rw [m_I_SI, if_neg (by omega), m_I_SI, if_neg (by omega), m_I_SI, if_neg (by omega)]
  have r10 : opGR 3 10 m1 h = some (h + 4) := o_GR (s0 F1) (by rw [F1.Ra]; exact H.1.2.2.2.2.2.2.2.2.1)
  have r11 : opGR 3 11 m2 h = some (h + 5) := o_GR (s0 F2) (by rw [F2.Ra]; exact H.1.2.2.2.2.2.2.2.2.2.1)
  have st : f_X3_addDoor h (Int32.ofNat a) (Int32.ofNat b) (Int32.ofNat z) (bI op) μ = if bI op = 0 then (f_X3_addDoor_52 h m3) else ((f_X3_unshut h (Int32.ofNat (hs A 1)) m3).bind fun μ30 => f_X3_addDoor_52 h μ30) := by
    rw [f_X3_addDoor, H.g1, o_bind, if_neg (show ¬ (10 : Int32) ≤ Int32.ofNat (hs A 1) by rw [show (10 : Int32) = Int32.ofNat 10 from rfl, z_le (by decide) (by omega)]; omega), H.r9, o_bind, o_bind, o_SI H.s3 h10 (by decide), o_bind, r10, o_bind, g1 F1 i1, o_bind, o_SI (by rw [F1.S]; exact H.s4) h10 (by decide), o_bind, r11, o_bind, g1 F2 i2, o_bind, o_SI (by rw [F2.S]; exact H.s5) h10 (by decide), o_bind, g1 F3 i3, o_bind, o_Rv (s0 F3), o_bind]
  have fin : ∀ m, Fr P μ m → dtI m h 1 = dtI μ h 1 → dtI m h 5 = Int32.ofNat (dOp A op) → dtI m (h + 3) (hs A 1) = Int32.ofNat a → dtI m (h + 4) (hs A 1) = Int32.ofNat b → dtI m (h + 5) (hs A 1) = Int32.ofNat z → ∃ μ', f_X3_addDoor_52 h m = some μ' ∧ Fr P μ μ' ∧ PHN μ' h (hDr A a b z op) wn := fun m F x1 x5 xa xb xz => by
    have Fm : Fr P μ (dtSI m h 1 (Int32.ofNat (hs A 1 + 1))) := F.tr (Fr.SI (Or.inl ⟨rfl, Or.inl rfl⟩))
    refine ⟨_, ?_, Fm, C.kept Fm, H.doored h10 ha hb hab hz Fm (fun k j x => Or.inr (Or.inr x)) (by rw [m_I_SI, if_pos ⟨rfl, rfl⟩]) (by rw [m_I_SI, if_neg (by omega)]; exact x5) (by rw [m_I_SI, if_neg (by omega)]; exact xa) (by rw [m_I_SI, if_neg (by omega)]; exact xb) (by rw [m_I_SI, if_neg (by omega)]; exact xz), hh, fun k hk => ?_⟩
    · rw [f_X3_addDoor_52, g1 F x1, o_bind, show (1 : Int32) = Int32.ofNat 1 from rfl, z_add, o_PI (s0 F), o_bind, f_X3_addDoor_62]
    · rw [hDr_s (by decide)] at hk
      rw [Fm.j (by show ¬ (_ ∨ _); omega)]; exact N k hk
  have va : dtI m3 (h + 3) (hs A 1) = Int32.ofNat a := by
    show dtI (dtSI (dtSI (dtSI _ _ _ _) _ _ _) _ _ _) _ _ = _
    rw [m_I_SI, if_neg (by omega), m_I_SI, if_neg (by omega), m_I_SI, if_pos ⟨rfl, rfl⟩]
  have vb : dtI m3 (h + 4) (hs A 1) = Int32.ofNat b := by
    show dtI (dtSI (dtSI _ _ _ _) _ _ _) _ _ = _
    rw [m_I_SI, if_neg (by omega), m_I_SI, if_pos ⟨rfl, rfl⟩]
  have vz : dtI m3 (h + 5) (hs A 1) = Int32.ofNat z := by
    show dtI (dtSI _ _ _ _) _ _ = _
    rw [m_I_SI, if_pos ⟨rfl, rfl⟩]
  have v5 : dtI μ h 5 = Int32.ofNat (hs A 5) := H.2.1.1 5 (by decide)
  rw [st]
  cases op with
  | false =>
    rw [if_pos (show bI false = 0 from (by decide : bI false = 0))]
    exact fin m3 F3 i3 (by rw [i35, v5]; rfl) va vb vz
  | true =>
    rw [if_neg (show ¬ bI true = 0 from (by decide : ¬ bI true = 0)), f_X3_unshut, o_GI (s0 F3), i35, v5, o_bind, show (1 : Int32) = Int32.ofNat 1 from rfl, show (31 : Int32) = Int32.ofNat 31 from rfl, z_bit (by omega), z_or, o_PI (s0 F3), o_bind, o_bind]
    have F5 : Fr P μ (dtSI m3 h 5 (Int32.ofNat (hs A 5 ||| 2 ^ hs A 1))) := F3.tr (Fr.SI (Or.inl ⟨rfl, Or.inr rfl⟩))
    exact fin _ F5 (by rw [m_I_SI, if_neg (by omega)]; exact i3) (by rw [m_I_SI, if_pos ⟨rfl, rfl⟩]; rfl) (by rw [m_I_SI, if_neg (by omega)]; exact va) (by rw [m_I_SI, if_neg (by omega)]; exact vb) (by rw [m_I_SI, if_neg (by omega)]; exact vz)
