/-! PURE 96: the words a person knows, on both sides -/
def kc7 (k : Nat) : Nat := k % 2 + k / 2 % 2 + k / 4 % 2 + k / 8 % 2 + k / 16 % 2 + k / 32 % 2 + k / 64 % 2
theorem kc7_le (k : Nat) : kc7 k ≤ 7 := by unfold kc7; omega
theorem kc7_up : ∀ k, k < 128 → ∀ w, w < 7 → k.testBit w = false → kc7 (k ||| 2 ^ w) = kc7 k + 1 := by decide +kernel
def xKs (u : Nat → Nat) (n : Nat) (wn : Nat → List Nat) (nw : Nat) : Nat → Nat → Nat → aX (Nat × Nat)
  | 0, kn, e => .ok (kn, e)
  | m + 1, kn, e => match lxN u n e with
    | none => .ok (kn, e)
    | some l => match fnd wn l nw 0 with
      | none => .error (flt u n e 3)
      | some w => if kn.testBit w = true then .error (flt u n e 5) else xKs u n wn nw m (kn ||| 2 ^ w) (lxE u n e)
theorem xKs_n {u : Nat → Nat} {n nw m kn e : Nat} {wn : Nat → List Nat} (h : lxN u n e = none) : xKs u n wn nw m kn e = .ok (kn, e) := by
  cases m with
  | zero => rfl
  | succ m => rw [xKs, h]
theorem xKs_f {u : Nat → Nat} {n nw m kn e : Nat} {wn : Nat → List Nat} {l : List Nat} (h : lxN u n e = some l) (q : fnd wn l nw 0 = none) : xKs u n wn nw (m + 1) kn e = .error (flt u n e 3) := by
  rw [xKs, h]
  show (match fnd wn l nw 0 with | none => _ | some i => _) = _
  rw [q]
theorem xKs_s {u : Nat → Nat} {n nw m kn e w : Nat} {wn : Nat → List Nat} {l : List Nat} (h : lxN u n e = some l) (q : fnd wn l nw 0 = some w) : xKs u n wn nw (m + 1) kn e = if kn.testBit w = true then .error (flt u n e 5) else xKs u n wn nw m (kn ||| 2 ^ w) (lxE u n e) := by
  rw [xKs, h]
  show (match fnd wn l nw 0 with | none => _ | some i => _) = _
  rw [q]
theorem xKs_lt {u : Nat → Nat} {n nw : Nat} {wn : Nat → List Nat} : ∀ (m kn e : Nat) (y : Nat × Nat), kn < 2 ^ nw → xKs u n wn nw m kn e = .ok y → y.1 < 2 ^ nw
  | 0, kn, e, y, hk, h => by
    have e' : (kn, e) = y := Except.ok.inj h
    subst e'; exact hk
  | m + 1, kn, e, y, hk, h => by
    cases hn : lxN u n e with
    | none =>
      rw [xKs_n hn] at h
      have e' : (kn, e) = y := Except.ok.inj h
      subst e'; exact hk
    | some l =>
      cases hf : fnd wn l nw 0 with
      | none => rw [xKs_f hn hf] at h; exact absurd h (fun x => nomatch x)
      | some w =>
        have := fnd_lt _ _ _ hf
        rw [xKs_s hn hf] at h
        by_cases b : kn.testBit w = true
        · rw [if_pos b] at h; exact absurd h (fun x => nomatch x)
        · rw [if_neg b] at h
          exact xKs_lt m _ _ y (z_lt2 hk (by omega)) h
def xKn (u : Nat → Nat) (n : Nat) (wn : Nat → List Nat) (nw e : Nat) : aX (Nat × Nat) := if lxK u n e = some 14 then xKs u n wn nw 8 0 (lxE u n e) else .ok (0, e)
theorem xKn_lt {u : Nat → Nat} {n nw e : Nat} {wn : Nat → List Nat} {y : Nat × Nat} (h : xKn u n wn nw e = .ok y) : y.1 < 2 ^ nw := by
  unfold xKn at h
  by_cases q : lxK u n e = some 14
  · rw [if_pos q] at h; exact xKs_lt 8 0 _ y (Nat.two_pow_pos _) h
  · rw [if_neg q] at h
    have e' : (0, e) = y := Except.ok.inj h
    subst e'; exact Nat.two_pow_pos _
theorem p7 {a b : Nat} (h : a < 2 ^ b) (hb : b ≤ 7) : a < 128 := Nat.lt_of_lt_of_le h (Nat.pow_le_pow_right (by decide) hb)
theorem rk25 {h n : Nat} {B : Nat → Int32} {A : aH} {wn : Nat → List Nat} : ∀ (m k kn e f : Nat) (μ : dtM), k + m = 8 → m < f → kc7 kn = k → kn < 2 ^ hs A 2 → PHN μ h A wn → PTk μ 115 n B e → ∃ μ' v, f_X4_readKnown_25 f 114 h (Int32.ofNat kn) (Int32.ofNat k) μ = some (v, μ') ∧ Fr (Pcl 115) μ μ' ∧ PRv μ' 115 n B (xKs (tx B) n wn (hs A 2) m kn e) v
  | _, _, _, _, 0, _, _, hf, _, _, _, _ => absurd hf (Nat.not_lt_zero _)
  | 0, k, kn, e, f + 1, μ, hk, hf, hc, hl, S, H => by
    have := kc7_le kn
    omega
  | m + 1, k, kn, e, f + 1, μ, hk, hf, hc, hl, S, H => by
    have C := S.1
    have nw := S.2.1.nw
    have k128 := p7 hl nw
    have hn' := H.isName
    have st : f_X4_readKnown_25 (f + 1) 114 h (Int32.ofNat kn) (Int32.ofNat k) μ = if bI (lxN (tx B) n e).isSome = 0 then (f_X4_readKnown_106 (Int32.ofNat kn) μ) else ((opGR 4 0 μ 114).bind fun x13 => (opGR 4 1 μ 114).bind fun x15 => (opGI 3 2 μ h).bind fun x17 => (opRv 8 μ x13).bind fun _ => opCall (f_X8_findAmong x13 x15 x17 μ) fun x22 μ20 => if x22 = (-1 : Int32) then (some ((-1 : Int32), μ20)) else (opCall (f_X11_contains (Int32.ofNat kn) x22 μ20) fun x28 μ26 => if x28 = 0 then ((some (Int32.ofNat kn ||| ((1 : Int32) <<< (x22 &&& 31)))).bind fun x32 => (opGR 4 0 μ26 114).bind fun x34 => (opRv 8 μ26 x34).bind fun _ => (f_X8_advance x34 μ26).bind fun μ37 => f_X4_readKnown_25 f 114 h x32 (Int32.ofNat k + 1) μ37) else ((opGR 4 0 μ26 114).bind fun x39 => (opRv 8 μ26 x39).bind fun _ => opCall (f_X8_flaw x39 (5 : Int32) μ26) fun x44 μ42 => some ((-1 : Int32), μ42)))) := by
      rw [f_X4_readKnown_25, if_neg (show ¬ (7 : Int32) < Int32.ofNat k by rw [show (7 : Int32) = Int32.ofNat 7 from rfl, z_lt (by decide) (by omega)]; omega), C.g114_0, o_bind, H.1.v, o_bind, hn', o_call, C.g114_0]
    rw [st]
    cases hn : lxN (tx B) n e with
    | none =>
      rw [xKs_n hn]
      refine ⟨μ, Int32.ofNat kn, ?_, Fr.rf, rfl, H⟩
      rw [if_pos (show bI (none : Option (List Nat)).isSome = 0 from (by decide : bI false = 0)), f_X4_readKnown_106]
    | some l =>
      obtain ⟨μ1, v, e1, F1, R1⟩ := H.findAmong (nc := 117) (many := hs A 2) (N := wn) C.s117 ⟨nw, by decide⟩ S.2.2.2
      have S1 := S.k F1
      rw [if_neg (show ¬ bI (some l).isSome = 0 from (by decide : ¬ bI true = 0)), C.g114_0, o_bind, C.g114_1, o_bind, S.2.1.g2, o_bind, H.1.v, o_bind, e1, o_call]
      cases hf' : fnd wn l (hs A 2) 0 with
      | none =>
        rw [xFind_1 hn hf'] at R1
        obtain ⟨r1, r2⟩ := R1
        rw [xKs_f hn hf']
        refine ⟨μ1, -Int32.ofNat 1, ?_, F1, rfl, r2⟩
        rw [r1, if_pos (show -Int32.ofNat 1 = (-1 : Int32) from rfl)]; rfl
      | some w =>
        have hw := fnd_lt _ _ _ hf'
        rw [xFind_2 hn hf'] at R1
        obtain ⟨r1, H1⟩ := R1
        have ct := f_contains (s := kn) (d := w) (μ := μ1) (by omega) (by omega)
        rw [xKs_s hn hf', r1, if_neg (nm1 (by omega)), ct, o_call]
        by_cases b : kn.testBit w = true
        · obtain ⟨μ2, e2, F2, R2⟩ := p_flaw (w := 5) H1
          rw [if_pos b]
          refine ⟨μ2, -Int32.ofNat 1, ?_, F1.tr F2, rfl, R2⟩
          rw [if_neg (by rw [b]; decide), S1.1.g114_0, o_bind, H1.1.v, o_bind, show (5 : Int32) = Int32.ofNat 5 from rfl, e2, o_call]; rfl
        · have b' : kn.testBit w = false := by
            cases h : kn.testBit w with
            | true => exact absurd h b
            | false => rfl
          obtain ⟨μ2, e2, F2, H2⟩ := H1.adv
          have S2 := S1.k (F2.wide (fun _ _ x => Ptk.c x))
          obtain ⟨μ3, v3, e3, F3, R3⟩ := rk25 m (k + 1) (kn ||| 2 ^ w) (lxE (tx B) n e) f μ2 (by omega) (by omega) (by rw [kc7_up kn k128 w (by omega) b', hc]) (z_lt2 hl (by omega)) S2 H2
          rw [if_neg b]
          refine ⟨μ3, v3, ?_, F1.tr ((F2.wide (fun _ _ x => Ptk.c x)).tr F3), R3⟩
          rw [if_pos (by rw [b']; decide), show (1 : Int32) = Int32.ofNat 1 from rfl, show (31 : Int32) = Int32.ofNat 31 from rfl, z_bit (by omega), z_or, o_bind, S1.1.g114_0, o_bind, H1.1.v, o_bind, e2, o_bind, z_add, e3]
theorem p_known {μ : dtM} {h n e : Nat} {B : Nat → Int32} {A : aH} {wn : Nat → List Nat} (S : PHN μ h A wn) (H : PTk μ 115 n B e) : ∃ μ' v, f_X4_readKnown 114 h μ = some (v, μ') ∧ Fr (Pcl 115) μ μ' ∧ PRv μ' 115 n B (xKn (tx B) n wn (hs A 2) e) v := by
  have C := S.1
  have cond : (oN (lxK (tx B) n e) = (14 : Int32)) = (lxK (tx B) n e = some 14) := oN_eqk (fun j h => lxK_lt h) (by decide)
  unfold xKn
  by_cases q : lxK (tx B) n e = some 14
  · obtain ⟨μ1, e1, F1, H1⟩ := H.adv
    have S1 := S.k (F1.wide (fun _ _ x => Ptk.c x))
    obtain ⟨μ2, v, e2, F2, R2⟩ := rk25 (n := n) (B := B) 8 0 0 (lxE (tx B) n e) dtFuel μ1 rfl (dtFuel_gt (by decide)) rfl (Nat.two_pow_pos _) S1 H1
    rw [if_pos q]
    refine ⟨μ2, v, ?_, (F1.wide (fun _ _ x => Ptk.c x)).tr F2, R2⟩
    rw [f_X4_readKnown, C.g114_0, o_bind, H.g6, o_bind, if_pos (Eq.mpr cond q), o_bind, H.1.v, o_bind, e1, o_bind]
    exact e2
  · rw [if_neg q]
    refine ⟨μ, Int32.ofNat 0, ?_, Fr.rf, rfl, H⟩
    rw [f_X4_readKnown, C.g114_0, o_bind, H.g6, o_bind, if_neg (fun x => q (Eq.mp cond x))]; rfl
/-! the model -/
abbrev Mkn (R : Nat) : Nat → Nat → Prop := fun k j => Mcl k j ∨ (k = 134 ∧ (j = R + 2 ∨ j = 2512))
theorem rk101 {n R : Nat} {B : Nat → Int32} {A : aH} {wn : Nat → List Nat} (W : hWF A) (hR : 2091 ≤ R ∧ R < 2140) : ∀ (m k kn e f : Nat) (μ : dtM), k + m = 8 → m < f → kc7 kn = k → kn < 2 ^ hs A 2 → MTk μ n B e → M0f μ → dtI μ 134 2018 = Int32.ofNat (hs A 2) → (∀ k, k < hs A 2 → dtJ μ 135 (83 + k) = n256 (wn k) ∧ nOk (wn k)) → dtI μ 134 (R + 2) = Int32.ofNat kn → ∃ μ', f_X12_aPerson_101 f 133 (Int32.ofNat R) (Int32.ofNat 2512) (Int32.ofNat 1) μ = (if xOk (xKs (tx B) n wn (hs A 2) m kn e) = true then f_X12_aPerson_197 133 μ' else some (bI false, μ')) ∧ Fr (Mkn R) μ μ' ∧ MRv μ' n B (xKs (tx B) n wn (hs A 2) m kn e) (R + 2)
  | _, _, _, _, 0, _, _, hf, _, _, _, _, _, _, _ => absurd hf (Nat.not_lt_zero _)
  | 0, k, kn, e, f + 1, μ, hk, hf, hc, hl, H, h0, c2, N, ek => by
    have := kc7_le kn
    omega
  | m + 1, k, kn, e, f + 1, μ, hk, hf, hc, hl, H, h0, c2, N, ek => by
    have C := H.1.1
    have nw := W.1.2.2.1
    have k128 := p7 hl nw
    have hn' := H.isName
    cases hn : lxN (tx B) n e with
    | none =>
      rw [hn] at hn'
      rw [xKs_n hn]
      refine ⟨μ, ?_, Fr.rf, ek, H, h0⟩
      rw [f_X12_aPerson_101, if_neg (by decide), C.v133, o_bind, hn', o_call, if_pos (show bI (none : Option (List Nat)).isSome = 0 from (by decide : bI false = 0))]; rfl
    | some l =>
      rw [hn] at hn'
      have fh := H.find hn (base := 83) (many := hs A 2) (N := wn) (by omega) N
      obtain ⟨μ1, e1, F1, R1⟩ := H.oldOne h0 (t := 2512) (by decide) (base := 83) (many := hs A 2) (N := wn) (by omega) N
      have C1 := C.kept F1
      have F1' : Fr (Mkn R) μ μ1 := F1.wide (fun k j x => x.elim Or.inl (fun y => Or.inr ⟨y.1, Or.inr y.2⟩))
      have s159 : ∀ x, f_X12_aPerson_159 (f_X12_aPerson_101 f) 133 (Int32.ofNat R) (Int32.ofNat 2512) (Int32.ofNat 1) x μ = if bI (xOk (xOld (tx B) n wn (hs A 2) e)) = 0 then (opRet (0 : Int32) μ1) else ((opGR 12 0 μ1 133).bind fun x12 => (opLI 1 μ1 x12 (Int32.ofNat R + (2 : Int32))).bind fun x14 => (opSI μ1 x12 (Int32.ofNat R + (2 : Int32)) (x14 ||| ((1 : Int32) <<< (x &&& 31)))).bind fun μ16 => f_X12_aPerson_101 f 133 (Int32.ofNat R) (Int32.ofNat 2512) (Int32.ofNat 1) μ16) := fun x => by
        rw [f_X12_aPerson_159, C.g133_0, o_bind, show (2018 : Int32) = Int32.ofNat 2018 from rfl, o_LI C.s134 (by decide) (by decide), c2, o_bind, C.v133, o_bind, show (83 : Int32) = Int32.ofNat 83 from rfl, e1, o_call]
      have st : f_X12_aPerson_101 (f + 1) 133 (Int32.ofNat R) (Int32.ofNat 2512) (Int32.ofNat 1) μ = if oN (fnd wn l (hs A 2) 0) = (-1 : Int32) then (f_X12_aPerson_159 (f_X12_aPerson_101 f) 133 (Int32.ofNat R) (Int32.ofNat 2512) (Int32.ofNat 1) (oN (fnd wn l (hs A 2) 0)) μ) else (opCall (f_X12_isIn 133 (Int32.ofNat kn) (oN (fnd wn l (hs A 2) 0)) μ) fun x29 μ27 => if x29 = 0 then (f_X12_aPerson_159 (f_X12_aPerson_101 f) 133 (Int32.ofNat R) (Int32.ofNat 2512) (Int32.ofNat 1) (oN (fnd wn l (hs A 2) 0)) μ27) else ((opRv 12 μ27 133).bind fun _ => opCall (f_X12_fails 133 (5 : Int32) μ27) fun x36 μ34 => opRet x36 μ34)) := by
        rw [f_X12_aPerson_101, if_neg (by decide), C.v133, o_bind, hn', o_call, if_neg (show ¬ bI (some l).isSome = 0 from (by decide : ¬ bI true = 0)), C.g133_0, o_bind, show (2018 : Int32) = Int32.ofNat 2018 from rfl, o_LI C.s134 (by decide) (by decide), c2, o_bind, C.v133, o_bind, show (83 : Int32) = Int32.ofNat 83 from rfl, fh, o_call, C.g133_0, o_bind, show (2 : Int32) = Int32.ofNat 2 from rfl, z_add, o_LI C.s134 (by omega) (by decide), ek, o_bind, C.v133, o_bind]
      rw [st]
      cases hf' : fnd wn l (hs A 2) 0 with
      | none =>
        rw [xOld_1 hn hf'] at R1
        rw [xOld_1 hn hf'] at s159
        rw [xKs_f hn hf']
        refine ⟨μ1, ?_, F1', R1⟩
        rw [if_pos (show oN none = (-1 : Int32) from rfl), s159, if_pos (show bI (xOk (Except.error (flt (tx B) n e 3) : aX (Nat × Nat))) = 0 from (by decide : bI false = 0)), show (0 : Int32) = Int32.ofNat 0 from rfl, o_ret0']; rfl
      | some w =>
        have hw := fnd_lt _ _ _ hf'
        rw [xOld_2 hn hf'] at R1
        rw [xOld_2 hn hf'] at s159
        obtain ⟨_, H1, h1⟩ := R1
        have ct := f_isIn (s := kn) (d := w) (μ := μ) (by omega) (by omega)
        rw [xKs_s hn hf', if_neg (show ¬ oN (some w) = (-1 : Int32) from nm1 (by omega)), show oN (some w) = Int32.ofNat w from rfl, ct, o_call]
        by_cases b : kn.testBit w = true
        · obtain ⟨μ2, e2, F2, R2⟩ := n_fails (w := 5) H h0 (by decide)
          rw [if_pos b]
          refine ⟨μ2, ?_, F2.wide (fun _ _ x => Or.inl x), R2⟩
          rw [if_neg (by rw [b]; decide), C.v133, o_bind, show (5 : Int32) = Int32.ofNat 5 from rfl, e2, o_call, o_bI]; rfl
        · have b' : kn.testBit w = false := by
            cases h : kn.testBit w with
            | true => exact absurd h b
            | false => rfl
          have k1 : ∀ j, ¬ j = 2512 → dtI μ1 134 j = dtI μ 134 j := fun j hj => F1.i (fun x => by
            have y : (134 = 133 ∧ 12 ≤ j ∧ j ≤ 18 ∧ ¬ j = 16) ∨ (134 = 134 ∧ j = 2512) := x
            omega)
          obtain ⟨μ3, e3, F3, R3⟩ := rk101 W hR m (k + 1) (kn ||| 2 ^ w) (lxE (tx B) n e) f (dtSI μ1 134 (R + 2) (Int32.ofNat (kn ||| 2 ^ w))) (by omega) (by omega) (by rw [kc7_up kn k128 w (by omega) b', hc]) (z_lt2 hl (by omega)) H1.at4 h1.at4 (by rw [m_I_SI, if_neg (by omega), k1 _ (by decide)]; exact c2) (fun j hj => by
            rw [m_J_SI, F1.j (fun x => by
              have y : (135 = 133 ∧ 12 ≤ 83 + j ∧ 83 + j ≤ 18 ∧ ¬ 83 + j = 16) ∨ (135 = 134 ∧ 83 + j = 2512) := x
              omega)]
            exact N j hj) (by rw [m_I_SI, if_pos ⟨rfl, rfl⟩])
          rw [if_neg b]
          refine ⟨μ3, ?_, F1'.tr ((Fr.SI (Or.inr ⟨rfl, Or.inl rfl⟩)).tr F3), R3⟩
          rw [if_pos (by rw [b']; decide), s159, if_neg (show ¬ bI (xOk (Except.ok (w, lxE (tx B) n e) : aX (Nat × Nat))) = 0 from (by decide : ¬ bI true = 0)), C1.g133_0, o_bind, show (2 : Int32) = Int32.ofNat 2 from rfl, z_add, o_LI C1.s134 (by omega) (by decide), k1 _ (by omega), ek, o_bind, show (1 : Int32) = Int32.ofNat 1 from rfl, show (31 : Int32) = Int32.ofNat 31 from rfl, z_bit (by omega), z_or, o_SI C1.s134 (by omega) (by decide), o_bind, e3]
