/-! PURE 92: a word told: its sounds, the program -/
def xSs (u : Nat → Nat) (n : Nat) : Nat → Nat → (Nat → Nat) → Nat → aX ((Nat × (Nat → Nat)) × Nat)
  | 0, k, s, e => match sndO (lxK u n e) with
    | none => .ok ((k, s), e)
    | some _ => .error (flt u n e 5)
  | m + 1, k, s, e => match sndO (lxK u n e) with
    | none => .ok ((k, s), e)
    | some v => xSs u n m (k + 1) (dtUp s k v) (lxE u n e)
theorem xSs_n {u : Nat → Nat} {n m k e : Nat} {s : Nat → Nat} (h : sndO (lxK u n e) = none) : xSs u n m k s e = .ok ((k, s), e) := by
  cases m with
  | zero => rw [xSs, h]
  | succ m => rw [xSs, h]
theorem xSs_0 {u : Nat → Nat} {n k e v : Nat} {s : Nat → Nat} (h : sndO (lxK u n e) = some v) : xSs u n 0 k s e = .error (flt u n e 5) := by rw [xSs, h]
theorem xSs_s {u : Nat → Nat} {n m k e v : Nat} {s : Nat → Nat} (h : sndO (lxK u n e) = some v) : xSs u n (m + 1) k s e = xSs u n m (k + 1) (dtUp s k v) (lxE u n e) := by rw [xSs, h]
theorem sndO_lt {o : Option Nat} {v : Nat} (h : sndO o = some v) : v < 4 := by
  cases o with
  | none => exact absurd h (fun x => nomatch x)
  | some k =>
    have h' : (if 7 ≤ k ∧ k < 11 then some (k - 7) else none) = some v := h
    by_cases q : 7 ≤ k ∧ k < 11
    · rw [if_pos q] at h'
      have := Option.some.inj h'
      omega
    · rw [if_neg q] at h'; exact absurd h' (fun x => nomatch x)
theorem xSs_ok {u : Nat → Nat} {n : Nat} : ∀ (m k e : Nat) (s : Nat → Nat) (y : (Nat × (Nat → Nat)) × Nat), k + m = 4 → 1 ≤ k → (∀ j, j < k → s j < 4) → xSs u n m k s e = .ok y → (1 ≤ y.1.1 ∧ y.1.1 ≤ 4) ∧ ∀ j, j < y.1.1 → y.1.2 j < 4
  | 0, k, e, s, y, hk, h1, h4, h => by
    cases q : sndO (lxK u n e) with
    | none =>
      rw [xSs_n q] at h
      have e' : ((k, s), e) = y := Except.ok.inj h
      subst e'
      exact ⟨⟨h1, by show k ≤ 4; omega⟩, h4⟩
    | some v => rw [xSs_0 q] at h; exact absurd h (fun x => nomatch x)
  | m + 1, k, e, s, y, hk, h1, h4, h => by
    cases q : sndO (lxK u n e) with
    | none =>
      rw [xSs_n q] at h
      have e' : ((k, s), e) = y := Except.ok.inj h
      subst e'
      exact ⟨⟨h1, by show k ≤ 4; omega⟩, h4⟩
    | some v =>
      rw [xSs_s q] at h
      refine xSs_ok m (k + 1) _ _ y (by omega) (by omega) (fun j hj => ?_) h
      unfold dtUp
      by_cases x : j = k
      · rw [if_pos x]; exact sndO_lt q
      · rw [if_neg x]; exact h4 j (by omega)
theorem PHN.kW {μ μ' : dtM} {h : Nat} {A : aH} {wn : Nat → List Nat} (S : PHN μ h A wn) (F : Fr (Pwd h (hs A 2)) μ μ') : PHN μ' h A wn := by
  obtain ⟨C, H, hh, N⟩ := S
  refine ⟨C.kept F, H.kW F, hh, fun k hk => ?_⟩
  rw [F.j (by omega)]; exact N k hk
theorem swL.c {μ μ' : dtM} {h W k : Nat} {s : Nat → Nat} (L : swL μ h W k s) (F : Fr (Pcl 115) μ μ') (hh : h = 12 ∨ h = 25) : swL μ' h W k s :=
  ⟨by rw [F.i (fun x => by have := x.1; omega)]; exact L.1, fun j hj => by rw [F.i (fun x => by have := x.1; omega)]; exact L.2 j hj⟩
def PRw (μ : dtM) (n : Nat) (B : Nat → Int32) (h : Nat) (A : aH) (wn : Nat → List Nat) (r : aX ((Nat × (Nat → Nat)) × Nat)) : Prop := match r with
  | .ok y => PHN μ h A wn ∧ swL μ h (hs A 2) y.1.1 y.1.2 ∧ PTk μ 115 n B y.2
  | .error x => PFl μ 115 x
theorem p_51 {μ : dtM} {h n e : Nat} {B : Nat → Int32} {A : aH} {wn : Nat → List Nat} (S : PHN μ h A wn) (H : PTk μ 115 n B e) : (sndO (lxK (tx B) n e) = none → f_X4_readSounds_51 114 μ = some (bI true, μ)) ∧ (∀ v, sndO (lxK (tx B) n e) = some v → ∃ μ', f_X4_readSounds_51 114 μ = some (bI false, μ') ∧ Fr (Pcl 115) μ μ' ∧ PFl μ' 115 (flt (tx B) n e 5)) := by
  have C := S.1
  have is' := H.isSound
  refine ⟨fun q => ?_, fun v q => ?_⟩
  · rw [q] at is'
    rw [f_X4_readSounds_51, C.g114_0, o_bind, H.1.v, o_bind, is', o_call, if_pos (show bI (none : Option Nat).isSome = 0 from (by decide : bI false = 0)), f_X4_readSounds_72, f_X4_readSounds_77, show (1 : Int32) = Int32.ofNat 1 from rfl, o_ret1']
  · rw [q] at is'
    obtain ⟨μ1, e1, F1, H1⟩ := p_flaw (w := 5) H
    refine ⟨μ1, ?_, F1, H1⟩
    rw [f_X4_readSounds_51, C.g114_0, o_bind, H.1.v, o_bind, is', o_call, if_neg (show ¬ bI (some v).isSome = 0 from (by decide : ¬ bI true = 0)), C.g114_0, o_bind, H.1.v, o_bind, show (5 : Int32) = Int32.ofNat 5 from rfl, e1, o_call, if_pos (show bI false = 0 from (by decide : bI false = 0)), f_X4_readSounds_77, show (0 : Int32) = Int32.ofNat 0 from rfl, o_ret0']
theorem p_snd {μ : dtM} {h n e k v : Nat} {s : Nat → Nat} {B : Nat → Int32} {A : aH} {wn : Nat → List Nat} {K : Nat → Nat → Int32 → dtM → Option (Int32 × dtM)} (S : PHN μ h A wn) (H : PTk μ 115 n B e) (L : swL μ h (hs A 2) k s) (h7 : hs A 2 < 7) (hk : k < 4) (q : sndO (lxK (tx B) n e) = some v) : ∃ μ', f_X4_readSounds_25 K 114 h (Int32.ofNat k) μ = K 114 h (Int32.ofNat (k + 1)) μ' ∧ Fr (PDr h) μ μ' ∧ PHN μ' h A wn ∧ PTk μ' 115 n B (lxE (tx B) n e) ∧ swL μ' h (hs A 2) (k + 1) (dtUp s k v) := by
  have C := S.1
  have hh := S.2.2.1
  have v4 := sndO_lt q
  obtain ⟨μ1, x, e1, F1, R1⟩ := H.passSound
  unfold xSnd at R1
  rw [q] at R1
  obtain ⟨r1, H1⟩ := R1
  have S1 := S.k F1
  obtain ⟨μ2, e2, F2, L2⟩ := p_addSound3 (v := v) S1.2.1 h7 hk (L.c F1 hh)
  refine ⟨μ2, ?_, (F1.wide (fun _ _ x => Or.inl x)).tr (F2.wide (fun k j x => Or.inr (Or.inl (by omega)))), S1.kW F2, H1.kept F2 (fun j x => by omega) (fun j x => by omega), L2⟩
  rw [f_X4_readSounds_25, C.g114_0, o_bind, H.1.v, o_bind, e1, o_call, r1, if_neg (nm1 (by omega)), S1.2.1.rv, o_bind, e2, o_bind, show (1 : Int32) = Int32.ofNat 1 from rfl, z_add]
theorem rs6 {h n : Nat} {B : Nat → Int32} {A : aH} {wn : Nat → List Nat} (h7 : hs A 2 < 7) : ∀ (m k e f : Nat) (s : Nat → Nat) (μ : dtM), k + m = 4 → 1 ≤ k → m < f → PHN μ h A wn → PTk μ 115 n B e → swL μ h (hs A 2) k s → ∃ μ', f_X4_readSounds_6 f 114 h (Int32.ofNat k) μ = some (bI (xOk (xSs (tx B) n m k s e)), μ') ∧ Fr (PDr h) μ μ' ∧ PRw μ' n B h A wn (xSs (tx B) n m k s e)
  | _, _, _, 0, _, _, _, _, hf, _, _, _ => absurd hf (Nat.not_lt_zero _)
  | 0, k, e, f + 1, s, μ, hk, h1, hf, S, H, L => by
    obtain ⟨p1, p2⟩ := p_51 S H
    have st : f_X4_readSounds_6 (f + 1) 114 h (Int32.ofNat k) μ = f_X4_readSounds_51 114 μ := by
      rw [f_X4_readSounds_6, if_pos (show (4 : Int32) ≤ Int32.ofNat k by rw [show (4 : Int32) = Int32.ofNat 4 from rfl, z_le (by decide) (by omega)]; omega)]
    rw [st]
    cases q : sndO (lxK (tx B) n e) with
    | none =>
      rw [xSs_n q]
      exact ⟨μ, p1 q, Fr.rf, S, L, H⟩
    | some v =>
      obtain ⟨μ1, e1, F1, R1⟩ := p2 v q
      rw [xSs_0 q]
      exact ⟨μ1, e1, F1.wide (fun _ _ x => Or.inl x), R1⟩
  | m + 1, k, e, f + 1, s, μ, hk, h1, hf, S, H, L => by
    obtain ⟨p1, p2⟩ := p_51 S H
    have is' := H.isSound
    have st : f_X4_readSounds_6 (f + 1) 114 h (Int32.ofNat k) μ = if bI (sndO (lxK (tx B) n e)).isSome = 0 then (f_X4_readSounds_51 114 μ) else (f_X4_readSounds_25 (f_X4_readSounds_6 f) 114 h (Int32.ofNat k) μ) := by
      rw [f_X4_readSounds_6, if_neg (show ¬ (4 : Int32) ≤ Int32.ofNat k by rw [show (4 : Int32) = Int32.ofNat 4 from rfl, z_le (by decide) (by omega)]; omega), if_neg (show ¬ Int32.ofNat k = 0 by rw [show (0 : Int32) = Int32.ofNat 0 from rfl, z_eq (by omega) (by decide)]; omega), S.1.g114_0, o_bind, H.1.v, o_bind, is', o_call]
    rw [st]
    cases q : sndO (lxK (tx B) n e) with
    | none =>
      rw [xSs_n q, if_pos (show bI (none : Option Nat).isSome = 0 from (by decide : bI false = 0))]
      exact ⟨μ, p1 q, Fr.rf, S, L, H⟩
    | some v =>
      obtain ⟨μ1, e1, F1, S1, H1, L1⟩ := p_snd (K := f_X4_readSounds_6 f) S H L h7 (by omega) q
      obtain ⟨μ2, e2, F2, R2⟩ := rs6 h7 m (k + 1) _ f _ μ1 (by omega) (by omega) (by omega) S1 H1 L1
      rw [xSs_s q, if_neg (show ¬ bI (some v).isSome = 0 from (by decide : ¬ bI true = 0)), e1]
      exact ⟨μ2, e2, F1.tr F2, R2⟩
def xSn (u : Nat → Nat) (n e : Nat) : aX ((Nat × (Nat → Nat)) × Nat) := match sndO (lxK u n e) with
  | none => .error (flt u n e 2)
  | some v => xSs u n 3 1 (dtUp (fun _ => 0) 0 v) (lxE u n e)
theorem xSn_0 {u : Nat → Nat} {n e : Nat} (h : sndO (lxK u n e) = none) : xSn u n e = .error (flt u n e 2) := by rw [xSn, h]
theorem xSn_1 {u : Nat → Nat} {n e v : Nat} (h : sndO (lxK u n e) = some v) : xSn u n e = xSs u n 3 1 (dtUp (fun _ => 0) 0 v) (lxE u n e) := by rw [xSn, h]
theorem xSn_ok {u : Nat → Nat} {n e : Nat} {y : (Nat × (Nat → Nat)) × Nat} (h : xSn u n e = .ok y) : (1 ≤ y.1.1 ∧ y.1.1 ≤ 4) ∧ ∀ j, j < y.1.1 → y.1.2 j < 4 := by
  cases q : sndO (lxK u n e) with
  | none => rw [xSn_0 q] at h; exact absurd h (fun x => nomatch x)
  | some v =>
    rw [xSn_1 q] at h
    refine xSs_ok 3 1 _ _ y rfl (by decide) (fun j hj => ?_) h
    have : j = 0 := by omega
    subst this
    unfold dtUp
    rw [if_pos rfl]; exact sndO_lt q
theorem p_sounds {μ : dtM} {h n e : Nat} {B : Nat → Int32} {A : aH} {wn : Nat → List Nat} (S : PHN μ h A wn) (H : PTk μ 115 n B e) (h7 : hs A 2 < 7) : ∃ μ', f_X4_readSounds 114 h μ = some (bI (xOk (xSn (tx B) n e)), μ') ∧ Fr (PDr h) μ μ' ∧ PRw μ' n B h A wn (xSn (tx B) n e) := by
  have hh := S.2.2.1
  obtain ⟨μ1, e1, F1, L1⟩ := p_beginWord S.2.1 h7 (fun _ => 0)
  have S1 := S.kW F1
  have H1 : PTk μ1 115 n B e := H.kept F1 (fun j x => by omega) (fun j x => by omega)
  have F1' : Fr (PDr h) μ μ1 := F1.wide (fun k j x => Or.inr (Or.inl (by omega)))
  obtain ⟨f, hf⟩ : ∃ f, dtFuel = f + 1 + 5 := ⟨dtFuel - 6, by have := dtFuel_gt (n := 6) (by decide); omega⟩
  have st : f_X4_readSounds 114 h μ = f_X4_readSounds_25 (f_X4_readSounds_6 (f + 5)) 114 h (Int32.ofNat 0) μ1 := by
    rw [f_X4_readSounds, S.2.1.rv, o_bind, e1, o_bind, show dtFuel = (f + 5) + 1 by omega, f_X4_readSounds_6, if_neg (by decide), if_pos (by decide)]; rfl
  rw [st]
  cases q : sndO (lxK (tx B) n e) with
  | none =>
    obtain ⟨μ2, v, e2, F2, R2⟩ := H1.passSound
    unfold xSnd at R2
    rw [q] at R2
    obtain ⟨r1, r2⟩ := R2
    rw [xSn_0 q]
    refine ⟨μ2, ?_, F1'.tr (F2.wide (fun _ _ x => Or.inl x)), r2⟩
    rw [f_X4_readSounds_25, S1.1.g114_0, o_bind, H1.1.v, o_bind, e2, o_call, r1, if_pos (show -Int32.ofNat 1 = (-1 : Int32) from rfl), show (0 : Int32) = Int32.ofNat 0 from rfl, o_ret0']; rfl
  | some v =>
    obtain ⟨μ2, e2, F2, S2, H2, L2⟩ := p_snd (K := f_X4_readSounds_6 (f + 5)) S1 H1 L1 h7 (by decide) q
    obtain ⟨μ3, e3, F3, R3⟩ := rs6 h7 3 1 _ (f + 5) _ μ2 rfl (by decide) (by omega) S2 H2 L2
    rw [xSn_1 q, e2]
    exact ⟨μ3, e3, F1'.tr (F2.tr F3), R3⟩
