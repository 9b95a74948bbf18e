/-! PURE 75: the program's search for a doubt -/
theorem z_sub_neg {a b : Nat} (ha : a < 1073741824) (hb : b < 1073741824) (h : a < b) : Int32.ofNat a - Int32.ofNat b < (0 : Int32) := by
  rw [Int32.lt_iff_toInt_lt, z_subI ha hb, show (0 : Int32) = Int32.ofNat 0 from rfl, z_tI (by decide)]
  omega
theorem fits_neg {μ : dtM} {h w : Nat} {x : Int32} {A : aH} (H : PH μ h A) (hw : w < hs A 2) (hx : x < (0 : Int32)) : f_X5_fits 124 h (Int32.ofNat w) x μ = some (bI false, μ) := by
  rw [f_X5_fits, H.r12, o_bind, H.l3 hw, o_bind, if_pos hx, f_X5_fits_39, f_X5_fits_40, show (0 : Int32) = Int32.ofNat 0 from rfl, o_ret0']
theorem fit_in {A : aH} {row : Nat → Nat} {m w : Nat} (h : ht A 3 w ≤ m) : fit A row m w (m - ht A 3 w) = agr A row w (m - ht A 3 w) (ht A 3 w) 0 := by
  unfold fit
  rw [show m - ht A 3 w + ht A 3 w = m by omega, decide_eq_true (Nat.le_refl m)]; rfl
theorem ce5 {μ : dtM} {h : Nat} {A : aH} (H : PH μ h A) (C : CX μ) {kn m : Nat} {row : Nat → Nat} (hk : kn < 128) (R : pRw μ m row) (V : AV μ 127 0 (m - 1) (bf A kn row)) (hm : 1 ≤ m) : ∀ (n f i acc : Nat), i + n = hs A 2 → n < f → f_X5_countEndings_5 f 124 h (Int32.ofNat kn) (Int32.ofNat acc) (Int32.ofNat i) μ = some (Int32.ofNat (fo (bW A kn row (bf A kn row) m) n i acc), μ) := by
  have hnw := H.nw
  have h24 := R.1
  intro n
  induction n with
  | zero =>
    intro f i acc e hf
    cases f with
    | zero => omega
    | succ f =>
      rw [f_X5_countEndings_5, H.g2, o_bind, if_pos (show Int32.ofNat (hs A 2) ≤ Int32.ofNat i by rw [z_le (by omega) (by omega)]; omega)]; rfl
  | succ n ih =>
    intro f i acc e hf
    cases f with
    | zero => omega
    | succ f =>
      have hi : i < hs A 2 := by omega
      have hw := H.word hi
      have nx : ∀ a, f_X5_countEndings_59 (f_X5_countEndings_5 f) 124 h (Int32.ofNat kn) (Int32.ofNat a) (Int32.ofNat i) μ = some (Int32.ofNat (fo (bW A kn row (bf A kn row) m) n (i + 1) a), μ) := fun a => by
        rw [f_X5_countEndings_59, show (1 : Int32) = Int32.ofNat 1 from rfl, z_add]
        exact ih f (i + 1) a (by omega) (by omega)
      rw [f_X5_countEndings_5, H.g2, o_bind, if_neg (show ¬ Int32.ofNat (hs A 2) ≤ Int32.ofNat i by rw [z_le (by omega) (by omega)]; omega), R.m C, o_bind, H.r12, o_bind, H.l3 hi, o_bind, o_bind, f_contains (by omega) (by omega), o_call, fo]
      cases t : kn.testBit i
      · have ef : bW A kn row (bf A kn row) m i acc = acc := if_neg (fun x => by rw [t] at x; exact absurd x.1 (by decide))
        rw [if_pos (by decide), nx, ef]
      · rw [if_neg (by decide), o_Rv C.s124, o_bind]
        by_cases q : ht A 3 i ≤ m
        · rw [z_sub q, H.fits C R hi (show m - ht A 3 i ≤ 24 by omega), o_call, fit_in q]
          cases g : agr A row i (m - ht A 3 i) (ht A 3 i) 0
          · have ef : bW A kn row (bf A kn row) m i acc = acc := if_neg (fun x => by rw [g] at x; exact absurd x.2.2 (by decide))
            rw [if_pos (by decide), nx, ef]
          · have ef : bW A kn row (bf A kn row) m i acc = acc + bf A kn row (m - ht A 3 i) := if_pos ⟨t, q, g⟩
            rw [if_neg (by decide), C.g124_3, o_bind, V.get C.s127 (by decide) (show m - 1 < 25 by omega) (Nat.zero_le _) (show m - ht A 3 i ≤ m - 1 by omega), o_bind, o_bind, z_add, nx, ef]
        · have ef : bW A kn row (bf A kn row) m i acc = acc := if_neg (fun x => q x.2.1)
          rw [fits_neg H hi (z_sub_neg (by omega) (by omega) (by omega)), o_call, if_pos (by decide), nx, ef]
theorem PH.countEndings {μ : dtM} {h : Nat} {A : aH} (H : PH μ h A) (C : CX μ) {kn m : Nat} {row : Nat → Nat} (hk : kn < 128) (R : pRw μ (m + 1) row) (V : AV μ 127 0 m (bf A kn row)) : f_X5_countEndings 124 h (Int32.ofNat kn) μ = some (Int32.ofNat (bf A kn row (m + 1)), μ) := by
  rw [f_X5_countEndings, bf_s H.2.2]
  exact ce5 H C hk R V (by omega) (hs A 2) dtFuel 0 0 (by omega) (dtFuel_gt (by have := H.nw; omega))
theorem cb14 {μ : dtM} {h : Nat} {A : aH} (H : PH μ h A) (C : CX μ) {kn m fr : Nat} {row : Nat → Nat} (hk : kn < 128) (R : pRw μ m row) (hf : fr ≤ m) : ∀ (n f i acc : Nat), i + n = hs A 2 → n < f → f_X5_countBegun_14 f 124 h (Int32.ofNat kn) (Int32.ofNat fr) (Int32.ofNat acc) (Int32.ofNat (m - fr)) (Int32.ofNat i) μ = some (Int32.ofNat (fo (cB A kn row fr (m - fr)) n i acc), μ) := by
  have hnw := H.nw
  have h24 := R.1
  intro n
  induction n with
  | zero =>
    intro f i acc e hf
    cases f with
    | zero => omega
    | succ f =>
      rw [f_X5_countBegun_14, H.g2, o_bind, if_pos (show Int32.ofNat (hs A 2) ≤ Int32.ofNat i by rw [z_le (by omega) (by omega)]; omega)]; rfl
  | succ n ih =>
    intro f i acc e hf
    cases f with
    | zero => omega
    | succ f =>
      have hi : i < hs A 2 := by omega
      have hw := H.word hi
      have nx : ∀ a, f_X5_countBegun_60 (f_X5_countBegun_14 f) 124 h (Int32.ofNat kn) (Int32.ofNat fr) (Int32.ofNat a) (Int32.ofNat (m - fr)) (Int32.ofNat i) μ = some (Int32.ofNat (fo (cB A kn row fr (m - fr)) n (i + 1) a), μ) := fun a => by
        rw [f_X5_countBegun_60, show (1 : Int32) = Int32.ofNat 1 from rfl, z_add]
        exact ih f (i + 1) a (by omega) (by omega)
      rw [f_X5_countBegun_14, H.g2, o_bind, if_neg (show ¬ Int32.ofNat (hs A 2) ≤ Int32.ofNat i by rw [z_le (by omega) (by omega)]; omega), f_contains (by omega) (by omega), o_call, fo]
      cases t : kn.testBit i
      · have ef : cB A kn row fr (m - fr) i acc = acc := if_neg (fun x => by rw [t] at x; exact absurd x.1 (by decide))
        rw [if_pos (by decide), nx, ef]
      · rw [if_neg (by decide), H.r12, o_bind, H.l3 hi, o_bind]
        by_cases q : m - fr < ht A 3 i
        · rw [if_neg (show ¬ Int32.ofNat (ht A 3 i) ≤ Int32.ofNat (m - fr) by rw [z_le (by omega) (by omega)]; omega), o_Rv C.s124, o_bind, H.agrees C R hi (show m - fr ≤ ht A 3 i by omega) (by omega), o_call]
          cases g : agr A row i fr (m - fr) 0
          · have ef : cB A kn row fr (m - fr) i acc = acc := if_neg (fun x => by rw [g] at x; exact absurd x.2.2 (by decide))
            rw [if_pos (by decide), nx, ef]
          · have ef : cB A kn row fr (m - fr) i acc = acc + 1 := if_pos ⟨t, q, g⟩
            rw [if_neg (by decide), show (1 : Int32) = Int32.ofNat 1 from rfl, z_add, nx, ef]
        · have ef : cB A kn row fr (m - fr) i acc = acc := if_neg (fun x => q x.2.1)
          rw [if_pos (show Int32.ofNat (ht A 3 i) ≤ Int32.ofNat (m - fr) by rw [z_le (by omega) (by omega)]; omega), nx, ef]
theorem PH.countBegun {μ : dtM} {h : Nat} {A : aH} (H : PH μ h A) (C : CX μ) {kn m fr : Nat} {row : Nat → Nat} (hk : kn < 128) (R : pRw μ m row) (hf : fr ≤ m) : f_X5_countBegun 124 h (Int32.ofNat kn) (Int32.ofNat fr) μ = some (Int32.ofNat (bK A kn row fr (m - fr)), μ) := by
  rw [f_X5_countBegun, R.m C, o_bind, z_sub hf, o_bind, show (0 : Int32) = Int32.ofNat 0 from rfl]
  exact cb14 H C hk R hf (hs A 2) dtFuel 0 0 (by omega) (dtFuel_gt (by have := H.nw; omega))
theorem cB_up {A : aH} {kn : Nat} {row : Nat → Nat} {j d : Nat} : ∀ (n i acc : Nat), fo (cB A kn row j d) n i acc ≤ acc + n
  | 0, _, _ => Nat.le_refl _
  | n + 1, i, acc => by
    rw [fo]
    have a := cB_up (A := A) (kn := kn) (row := row) (j := j) (d := d) n (i + 1) (cB A kn row j d i acc)
    have b : cB A kn row j d i acc ≤ acc + 1 := by
      unfold cB
      by_cases q : kn.testBit i = true ∧ d < ht A 3 i ∧ agr A row i j d 0 = true
      · rw [if_pos q]; exact Nat.le_refl _
      · rw [if_neg q]; omega
    omega
theorem bf_7 {A : aH} (W : hWF A) {kn m : Nat} {row : Nat → Nat} (hm : m ≤ 7) : bf A kn row m ≤ 823543 := by
  rw [bf_rc W]
  exact Nat.le_trans (rc_le W (Nat.zero_le _)) (Nat.le_trans (Nat.pow_le_pow_right (by decide) (show m - 0 ≤ 7 by omega)) (by decide))
theorem bgF_up {A : aH} (W : hWF A) {kn m : Nat} {row : Nat → Nat} (hm : m ≤ 7) : ∀ (n i acc : Nat), i + n ≤ m → fo (bgF A kn row m) n i acc ≤ acc + n * 5764801
  | 0, _, _, _ => by rw [fo]; omega
  | n + 1, i, acc, e => by
    rw [fo, Nat.succ_mul]
    have a := bgF_up W (kn := kn) (row := row) hm n (i + 1) (bgF A kn row m i acc) (by omega)
    have b : bgF A kn row m i acc ≤ acc + 5764801 := by
      unfold bgF bK
      have c := cB_up (A := A) (kn := kn) (row := row) (j := i) (d := m - i) (hs A 2) 0 0
      have d := bf_7 W (kn := kn) (row := row) (show i ≤ 7 by omega)
      have hnw := W.1.2.2.1
      have g := Nat.mul_le_mul d (show fo (cB A kn row i (m - i)) (hs A 2) 0 0 ≤ 7 by omega)
      omega
    omega
theorem bg_up {A : aH} (W : hWF A) {kn m : Nat} {row : Nat → Nat} (hm : m ≤ 7) : bg A kn row m ≤ 100000000 := by
  unfold bg
  have a := bgF_up W (kn := kn) (row := row) hm (m - (m - 3)) (m - 3) (bf A kn row m) (by omega)
  have b := bf_7 W (kn := kn) (row := row) hm
  have c : m - (m - 3) ≤ 3 := by omega
  have d := Nat.mul_le_mul_right 5764801 c
  omega
theorem two24 {μ : dtM} {h : Nat} {A : aH} (H : PH μ h A) (C : CX μ) {kn m : Nat} {row : Nat → Nat} (hk : kn < 128) (hm : m ≤ 7) (R : pRw μ m row) (V : AV μ 127 0 m (bf A kn row)) : ∀ (n f i acc : Nat), i + n = m → n < f → fo (bgF A kn row m) n i acc < 2147483648 → f_X5_canBeTwo_24 f 124 h (Int32.ofNat kn) (Int32.ofNat acc) (Int32.ofNat i) μ = some (bI (decide (1 < fo (bgF A kn row m) n i acc)), μ) := by
  intro n
  induction n with
  | zero =>
    intro f i acc e hf hb
    cases f with
    | zero => omega
    | succ f =>
      rw [fo] at hb ⊢
      rw [f_X5_canBeTwo_24, R.m C, o_bind, if_pos (show Int32.ofNat m ≤ Int32.ofNat i by rw [z_le (by omega) (by omega)]; omega)]
      by_cases q : 1 < acc
      · rw [if_neg (show ¬ Int32.ofNat acc ≤ (1 : Int32) by rw [show (1 : Int32) = Int32.ofNat 1 from rfl, z_le (by omega) (by decide)]; omega), f_X5_canBeTwo_68, show (1 : Int32) = Int32.ofNat 1 from rfl, o_ret1', decide_eq_true q]
      · rw [if_pos (show Int32.ofNat acc ≤ (1 : Int32) by rw [show (1 : Int32) = Int32.ofNat 1 from rfl, z_le (by omega) (by decide)]; omega), f_X5_canBeTwo_68, show (0 : Int32) = Int32.ofNat 0 from rfl, o_ret0', decide_eq_false q]
  | succ n ih =>
    intro f i acc e hf hb
    cases f with
    | zero => omega
    | succ f =>
      rw [fo] at hb ⊢
      rw [f_X5_canBeTwo_24, R.m C, o_bind, if_neg (show ¬ Int32.ofNat m ≤ Int32.ofNat i by rw [z_le (by omega) (by omega)]; omega), C.g124_3, o_bind, V.get C.s127 (by decide) (show m < 25 by omega) (Nat.zero_le _) (show i ≤ m by omega), o_bind, o_Rv C.s124, o_bind, H.countBegun C hk R (show i ≤ m by omega), o_call, z_mul, z_add, o_bind, show (1 : Int32) = Int32.ofNat 1 from rfl, z_add]
      exact ih f (i + 1) _ (by omega) (by omega) hb
theorem z_max3 : ∀ m, m < 8 → (if (0 : Int32) < ((Int32.ofNat m - (4 : Int32)) + (1 : Int32)) then ((Int32.ofNat m - (4 : Int32)) + (1 : Int32)) else (0 : Int32)) = Int32.ofNat (m - 3) := by decide
theorem PH.canBeTwo {μ : dtM} {h : Nat} {A : aH} (H : PH μ h A) (C : CX μ) {kn m : Nat} {row : Nat → Nat} (hk : kn < 128) (hm : m ≤ 7) (R : pRw μ m row) (V : AV μ 127 0 m (bf A kn row)) : f_X5_canBeTwo 124 h (Int32.ofNat kn) μ = some (bI (decide (1 < bg A kn row m)), μ) := by
  have hb := bg_up H.2.2 (kn := kn) (row := row) hm
  rw [f_X5_canBeTwo, C.g124_3, o_bind, R.m C, o_bind, V.get C.s127 (by decide) (show m < 25 by omega) (Nat.zero_le _) (Nat.le_refl m), o_bind, o_bind, z_max3 m (by omega), o_bind]
  unfold bg at hb ⊢
  exact two24 H C hk hm R V (m - (m - 3)) dtFuel (m - 3) (bf A kn row m) (by omega) (dtFuel_gt (by omega)) (by omega)
/-! the search -/
abbrev Pdb : Nat → Nat → Prop := fun k j => (k = 124 ∧ j = 1) ∨ k = 125 ∨ k = 127
def dbI (μ : dtM) (h : Nat) (A : aH) (kn a : Nat) (row : Nat → Nat) : Prop := PH μ h A ∧ CX μ ∧ LV μ 125 a row ∧ AV μ 127 0 a (bf A kn row)
theorem AV.cut {μ : dtM} {k lo m m' : Nat} {g g' : Nat → Nat} (V : AV μ k lo m g) (hm : m' ≤ m) (e : ∀ j, j ≤ m' → g j = g' j) : AV μ k lo m' g' := fun j h1 h2 => by rw [← e j h2]; exact V j h1 (Nat.le_trans h2 hm)
theorem LV.cut {μ : dtM} {k m m' : Nat} {g g' : Nat → Nat} (V : LV μ k m g) (hm : m' ≤ m) (e : ∀ j, j < m' → g j = g' j) : LV μ k m' g' := fun j h => by rw [← e j h]; exact V j (Nat.lt_of_lt_of_le h hm)
theorem up_o {row : Nat → Nat} {a s j : Nat} (h : ¬ j = a) : dtUp row a s j = row j := if_neg h
theorem ex_step {μ : dtM} {h : Nat} {A : aH} {kn a s : Nat} {row : Nat → Nat} (hh : h + 12 < 123) (hk : kn < 128) (ha : a < 7) (I : dbI μ h A kn a row) (hr : rB row a) (hs4 : s < 4) : ∃ μ', (∀ (rec : Nat → Nat → Int32 → Int32 → Int32 → dtM → Option (Int32 × dtM)) (f : Nat) (l4 : Int32), f_X5_extendToDoubt_25 rec (f + 1) 124 h (Int32.ofNat kn) (Int32.ofNat a) l4 (Int32.ofNat s) μ = if bI (decide (1 < bg A kn (dtUp row a s) (a + 1))) = 0 then f_X5_extendToDoubt_86 rec (f_X5_extendToDoubt_25 rec f) 124 h (Int32.ofNat kn) (Int32.ofNat a) l4 (Int32.ofNat s) μ' else (opCall (rec 124 h (Int32.ofNat kn) (Int32.ofNat (a + 1)) l4 μ') fun x30 μ28 => if x30 = 0 then f_X5_extendToDoubt_86 rec (f_X5_extendToDoubt_25 rec f) 124 h (Int32.ofNat kn) (Int32.ofNat a) l4 (Int32.ofNat s) μ28 else opRet (1 : Int32) μ28)) ∧ Fr Pdb μ μ' ∧ dbI μ' h A kn (a + 1) (dtUp row a s) ∧ rB (dtUp row a s) (a + 1) ∧ dtI μ' 124 1 = Int32.ofNat (a + 1) := by
  obtain ⟨H, C, L, V⟩ := I
  have C1 : CX (dtSI μ 125 a (Int32.ofNat s)) := C.SI
  have F2 : Fr Pdb μ (dtSI (dtSI μ 125 a (Int32.ofNat s)) 124 1 (Int32.ofNat (a + 1))) := (Fr.SI (Or.inr (Or.inl rfl))).tr (Fr.SI (Or.inl ⟨rfl, rfl⟩))
  have C2 := C.kept F2
  have H2 : PH (dtSI (dtSI μ 125 a (Int32.ofNat s)) 124 1 (Int32.ofNat (a + 1))) h A := H.kept F2 (fun k _ q j x => by
    have y : (k = 124 ∧ j = 1) ∨ k = 125 ∨ k = 127 := x
    omega)
  have r4 : rB (dtUp row a s) (a + 1) := fun j hj => by
    unfold dtUp
    by_cases e : j = a
    · rw [if_pos e]; exact hs4
    · rw [if_neg e]; exact hr j (by omega)
  have L2 : LV (dtSI (dtSI μ 125 a (Int32.ofNat s)) 124 1 (Int32.ofNat (a + 1))) 125 (a + 1) (dtUp row a s) := fun j hj => by
    rw [m_I_SI, if_neg (by omega), m_I_SI]
    unfold dtUp
    by_cases e : j = a
    · rw [if_pos ⟨rfl, e⟩, if_pos e]
    · rw [if_neg (fun x => e x.2), if_neg e]; exact L j (by omega)
  have m2 : dtI (dtSI (dtSI μ 125 a (Int32.ofNat s)) 124 1 (Int32.ofNat (a + 1))) 124 1 = Int32.ofNat (a + 1) := by rw [m_I_SI, if_pos ⟨rfl, rfl⟩]
  have R2 : pRw (dtSI (dtSI μ 125 a (Int32.ofNat s)) 124 1 (Int32.ofNat (a + 1))) (a + 1) (dtUp row a s) := ⟨by omega, r4, m2, L2⟩
  have bc : ∀ j, j ≤ a → bf A kn row j = bf A kn (dtUp row a s) j := fun j hj => bf_cg H.2.2 (fun i hi => (up_o (by omega)).symm)
  have V2 : AV (dtSI (dtSI μ 125 a (Int32.ofNat s)) 124 1 (Int32.ofNat (a + 1))) 127 0 a (bf A kn (dtUp row a s)) := fun j h1 h2 => by
    rw [m_I_SI, if_neg (by omega), m_I_SI, if_neg (by omega), V j h1 h2, bc j h2]
  have ce := H2.countEndings C2 hk R2 V2
  have F3 : Fr Pdb (dtSI (dtSI μ 125 a (Int32.ofNat s)) 124 1 (Int32.ofNat (a + 1))) (dtSI (dtSI (dtSI μ 125 a (Int32.ofNat s)) 124 1 (Int32.ofNat (a + 1))) 127 (a + 1) (Int32.ofNat (bf A kn (dtUp row a s) (a + 1)))) := Fr.SI (Or.inr (Or.inr rfl))
  have C3 := C2.kept F3
  have H3 : PH (dtSI (dtSI (dtSI μ 125 a (Int32.ofNat s)) 124 1 (Int32.ofNat (a + 1))) 127 (a + 1) (Int32.ofNat (bf A kn (dtUp row a s) (a + 1)))) h A := H2.kept F3 (fun k _ q j x => by
    have y : (k = 124 ∧ j = 1) ∨ k = 125 ∨ k = 127 := x
    omega)
  have m3 : dtI (dtSI (dtSI (dtSI μ 125 a (Int32.ofNat s)) 124 1 (Int32.ofNat (a + 1))) 127 (a + 1) (Int32.ofNat (bf A kn (dtUp row a s) (a + 1)))) 124 1 = Int32.ofNat (a + 1) := by rw [m_I_SI, if_neg (by omega)]; exact m2
  have L3 : LV (dtSI (dtSI (dtSI μ 125 a (Int32.ofNat s)) 124 1 (Int32.ofNat (a + 1))) 127 (a + 1) (Int32.ofNat (bf A kn (dtUp row a s) (a + 1)))) 125 (a + 1) (dtUp row a s) := fun j hj => by rw [m_I_SI, if_neg (by omega)]; exact L2 j hj
  have R3 : pRw (dtSI (dtSI (dtSI μ 125 a (Int32.ofNat s)) 124 1 (Int32.ofNat (a + 1))) 127 (a + 1) (Int32.ofNat (bf A kn (dtUp row a s) (a + 1)))) (a + 1) (dtUp row a s) := ⟨by omega, r4, m3, L3⟩
  have V3 : AV (dtSI (dtSI (dtSI μ 125 a (Int32.ofNat s)) 124 1 (Int32.ofNat (a + 1))) 127 (a + 1) (Int32.ofNat (bf A kn (dtUp row a s) (a + 1)))) 127 0 (a + 1) (bf A kn (dtUp row a s)) := fun j h1 h2 => by
    rw [m_I_SI]
    by_cases e : j = a + 1
    · rw [if_pos ⟨rfl, e⟩, e]
    · rw [if_neg (fun x => e x.2)]; exact V2 j h1 (by omega)
  have cb := H3.canBeTwo C3 hk (show a + 1 ≤ 7 by omega) R3 V3
  refine ⟨_, fun rec f l4 => ?_, F2.tr F3, ⟨H3, C3, L3, V3⟩, r4, m3⟩
  rw [f_X5_extendToDoubt_25, if_neg (show ¬ (4 : Int32) ≤ Int32.ofNat s by rw [show (4 : Int32) = Int32.ofNat 4 from rfl, z_le (by decide) (by omega)]; omega), C.g124_0, o_bind, o_SI C.s125 (show a < 24 by omega) (by decide), o_bind, show (1 : Int32) = Int32.ofNat 1 from rfl, z_add, o_PI C1.s124, o_bind, C2.g124_3, o_bind, o_GI C2.s124, m2, o_bind, o_Rv C2.s124, o_bind, ce, o_call, o_SI C2.s127 (show a + 1 < 25 by omega) (by decide), o_bind, o_Rv C3.s124, o_bind, cb, o_call, o_Rv C3.s124, o_bind]
theorem exDb {h : Nat} {A : aH} {kn n : Nat} (hh : h + 12 < 123) (hk : kn < 128) (hn : n ≤ 7) (sh : ∀ n', 1 ≤ n' → n' < n → fsR A kn n' n' 0 (fun _ => 0) = none) : ∀ (r fu a : Nat) (row : Nat → Nat) (μ : dtM), a + r = n → r < fu → dbI μ h A kn a row → rB row a → (1 ≤ a → dtI μ 124 1 = Int32.ofNat a) → 1 ≤ n → ∃ μ', f_X5_extendToDoubt fu 124 h (Int32.ofNat kn) (Int32.ofNat a) (Int32.ofNat n) μ = some (bI (fsR A kn n r a row).isSome, μ') ∧ Fr Pdb μ μ' ∧ dbI μ' h A kn a row ∧ ∀ x, fsR A kn n r a row = some x → LV μ' 125 n x ∧ dtI μ' 124 1 = Int32.ofNat n := by
  intro r
  induction r with
  | zero =>
    intro fu a row μ e hf I hr h1 hn1
    have ea : a = n := by omega
    subst ea
    obtain ⟨H, C, L, V⟩ := I
    cases fu with
    | zero => omega
    | succ fu =>
      have b7 := bf_7 H.2.2 (kn := kn) (row := row) hn
      have st : f_X5_extendToDoubt (fu + 1) 124 h (Int32.ofNat kn) (Int32.ofNat a) (Int32.ofNat a) μ = if Int32.ofNat (bf A kn row a) ≤ (1 : Int32) then (f_X5_extendToDoubt_21 (f_X5_extendToDoubt fu) (0 : Int32) μ) else (f_X5_extendToDoubt_21 (f_X5_extendToDoubt fu) (1 : Int32) μ) := by
        rw [f_X5_extendToDoubt, f_X5_extendToDoubt_b, if_neg (show ¬ Int32.ofNat a < Int32.ofNat a by rw [z_lt (by omega) (by omega)]; omega), C.g124_3, o_bind, V.get C.s127 (by decide) (show a < 25 by omega) (Nat.zero_le _) (Nat.le_refl a), o_bind]
      rw [fsR, ← bf_rc H.2.2]
      by_cases q : 1 < bf A kn row a
      · refine ⟨μ, ?_, Fr.rf, ⟨H, C, L, V⟩, fun x hx => ?_⟩
        · rw [st, if_neg (show ¬ Int32.ofNat (bf A kn row a) ≤ (1 : Int32) by rw [show (1 : Int32) = Int32.ofNat 1 from rfl, z_le (by omega) (by decide)]; omega), f_X5_extendToDoubt_21, show (1 : Int32) = Int32.ofNat 1 from rfl, o_ret1', if_pos q]; rfl
        · rw [if_pos q] at hx
          have : row = x := Option.some.inj hx
          subst this
          exact ⟨L, h1 hn1⟩
      · refine ⟨μ, ?_, Fr.rf, ⟨H, C, L, V⟩, fun x hx => ?_⟩
        · rw [st, if_pos (show Int32.ofNat (bf A kn row a) ≤ (1 : Int32) by rw [show (1 : Int32) = Int32.ofNat 1 from rfl, z_le (by omega) (by decide)]; omega), f_X5_extendToDoubt_21, show (0 : Int32) = Int32.ofNat 0 from rfl, o_ret0', if_neg q]; rfl
        · rw [if_neg q] at hx; cases hx
  | succ r ih =>
    intro fu a row μ e hf I hr h1 hn1
    cases fu with
    | zero => omega
    | succ fu =>
      have W := I.1.2.2
      -- the loop over the sounds
      have lp : ∀ (m f2 s : Nat) (μ1 : dtM), s + m = 4 → m < f2 → dbI μ1 h A kn a row → ∃ μ', f_X5_extendToDoubt_25 (f_X5_extendToDoubt fu) f2 124 h (Int32.ofNat kn) (Int32.ofNat a) (Int32.ofNat n) (Int32.ofNat s) μ1 = some (bI (fsL (fun s => fsR A kn n r (a + 1) (dtUp row a s)) m s).isSome, μ') ∧ Fr Pdb μ1 μ' ∧ dbI μ' h A kn a row ∧ ∀ x, fsL (fun s => fsR A kn n r (a + 1) (dtUp row a s)) m s = some x → LV μ' 125 n x ∧ dtI μ' 124 1 = Int32.ofNat n := by
        intro m
        induction m with
        | zero =>
          intro f2 s μ1 e2 hf2 I1
          cases f2 with
          | zero => omega
          | succ f2 =>
            refine ⟨μ1, ?_, Fr.rf, I1, fun x hx => by cases hx⟩
            rw [f_X5_extendToDoubt_25, if_pos (show (4 : Int32) ≤ Int32.ofNat s by rw [show (4 : Int32) = Int32.ofNat 4 from rfl, z_le (by decide) (by omega)]; omega), show (0 : Int32) = Int32.ofNat 0 from rfl, o_ret0']; rfl
        | succ m ihm =>
          intro f2 s μ1 e2 hf2 I1
          cases f2 with
          | zero => omega
          | succ f2 =>
            obtain ⟨μ2, st, F2, I2, r2, m2⟩ := ex_step hh hk (show a < 7 by omega) I1 hr (show s < 4 by omega)
            have back : ∀ ν, dbI ν h A kn (a + 1) (dtUp row a s) → dbI ν h A kn a row := fun ν J => ⟨J.1, J.2.1, J.2.2.1.cut (by omega) (fun j hj => up_o (by omega)), J.2.2.2.cut (by omega) (fun j hj => bf_cg W (fun i hi => up_o (by omega)))⟩
            rw [st, fsL]
            by_cases q : 1 < bg A kn (dtUp row a s) (a + 1)
            · rw [decide_eq_true q, if_neg (by decide)]
              obtain ⟨μ3, e3, F3, I3, x3⟩ := ih fu (a + 1) (dtUp row a s) μ2 (by omega) (by omega) I2 r2 (fun _ => m2) hn1
              rw [e3, o_call]
              cases hfs : fsR A kn n r (a + 1) (dtUp row a s) with
              | some y =>
                refine ⟨μ3, ?_, F2.tr F3, back μ3 I3, fun x hx => ?_⟩
                · rw [if_neg (show ¬ bI (some y).isSome = 0 from (by decide : ¬ bI true = 0)), show (1 : Int32) = Int32.ofNat 1 from rfl, o_ret1']; rfl
                · have : y = x := Option.some.inj hx
                  subst this
                  exact x3 _ hfs
              | none =>
                obtain ⟨μ4, e4, F4, I4, x4⟩ := ihm f2 (s + 1) μ3 (by omega) (by omega) (back μ3 I3)
                refine ⟨μ4, ?_, (F2.tr F3).tr F4, I4, x4⟩
                rw [if_pos (by decide), f_X5_extendToDoubt_86, show (1 : Int32) = Int32.ofNat 1 from rfl, z_add, e4]
            · have hfs : fsR A kn n r (a + 1) (dtUp row a s) = none := fsR_cut W (by omega) (by omega) r2 sh (by omega)
              rw [decide_eq_false q, if_pos (by decide), f_X5_extendToDoubt_86, show (1 : Int32) = Int32.ofNat 1 from rfl, z_add, hfs]
              obtain ⟨μ4, e4, F4, I4, x4⟩ := ihm f2 (s + 1) μ2 (by omega) (by omega) (back μ2 I2)
              exact ⟨μ4, e4, F2.tr F4, I4, x4⟩
      obtain ⟨μ', e', F', I', x'⟩ := lp 4 dtFuel 0 μ (by omega) (dtFuel_gt (by decide)) I
      refine ⟨μ', ?_, F', I', x'⟩
      rw [f_X5_extendToDoubt, f_X5_extendToDoubt_b, if_pos (show Int32.ofNat a < Int32.ofNat n by rw [z_lt (by omega) (by omega)]; omega)]
      exact e'
theorem fd9 {h : Nat} {A : aH} {kn : Nat} (hh : h + 12 < 123) (hk : kn < 128) : ∀ (m f n : Nat) (μ : dtM), n + m = 8 → 1 ≤ n → m < f → dbI μ h A kn 0 (fun _ => 0) → (∀ n', 1 ≤ n' → n' < n → fsR A kn n' n' 0 (fun _ => 0) = none) → ∃ μ', f_X5_findDoubt_9 f 124 h (Int32.ofNat kn) (Int32.ofNat n) μ = some (oN ((fdR A kn m n).map (fun x => x.1)), μ') ∧ Fr Pdb μ μ' ∧ ∀ x, fdR A kn m n = some x → LV μ' 125 x.1 x.2 ∧ dtI μ' 124 1 = Int32.ofNat x.1 ∧ x.1 ≤ 7 := by
  intro m
  induction m with
  | zero =>
    intro f n μ e h1 hf I sh
    cases f with
    | zero => omega
    | succ f =>
      refine ⟨μ, ?_, Fr.rf, fun x hx => by cases hx⟩
      rw [f_X5_findDoubt_9, if_pos (show (7 : Int32) < Int32.ofNat n by rw [show (7 : Int32) = Int32.ofNat 7 from rfl, z_lt (by decide) (by omega)]; omega)]; rfl
  | succ m ih =>
    intro f n μ e h1 hf I sh
    cases f with
    | zero => omega
    | succ f =>
      obtain ⟨μ1, e1, F1, I1, x1⟩ := exDb hh hk (show n ≤ 7 by omega) sh n dtRecFuel 0 (fun _ => 0) μ (by omega) (show n < 40 by omega) I (fun j hj => absurd hj (Nat.not_lt_zero _)) (fun h => absurd h (by decide)) h1
      have e1' : f_X5_extendToDoubt dtRecFuel 124 h (Int32.ofNat kn) (0 : Int32) (Int32.ofNat n) μ = some (bI (fsR A kn n n 0 (fun _ => 0)).isSome, μ1) := e1
      rw [f_X5_findDoubt_9, if_neg (show ¬ (7 : Int32) < Int32.ofNat n by rw [show (7 : Int32) = Int32.ofNat 7 from rfl, z_lt (by decide) (by omega)]; omega), o_Rv I.2.1.s124, o_bind, e1', o_call, fdR]
      cases hfs : fsR A kn n n 0 (fun _ => 0) with
      | some y =>
        refine ⟨μ1, ?_, F1, fun x hx => ?_⟩
        · rw [if_neg (show ¬ bI (some y).isSome = 0 from (by decide : ¬ bI true = 0))]; rfl
        · have : (n, y) = x := Option.some.inj hx
          subst this
          exact ⟨(x1 y hfs).1, (x1 y hfs).2, show n ≤ 7 by omega⟩
      | none =>
        obtain ⟨μ2, e2, F2, x2⟩ := ih f (n + 1) μ1 (by omega) (by omega) (by omega) I1 (fun n' a b => by
          by_cases q : n' = n
          · rw [q]; exact hfs
          · exact sh n' a (by omega))
        refine ⟨μ2, ?_, F1.tr F2, x2⟩
        rw [if_pos (by decide), show (1 : Int32) = Int32.ofNat 1 from rfl, z_add, e2]
theorem PH.findDoubt {μ : dtM} {h : Nat} {A : aH} (H : PH μ h A) (hh : h + 12 < 123) (C : CX μ) {kn : Nat} (hk : kn < 128) : ∃ μ', f_X5_findDoubt 124 h (Int32.ofNat kn) μ = some (oN ((fdR A kn 7 1).map (fun x => x.1)), μ') ∧ Fr Pdb μ μ' ∧ ∀ x, fdR A kn 7 1 = some x → LV μ' 125 x.1 x.2 ∧ dtI μ' 124 1 = Int32.ofNat x.1 ∧ x.1 ≤ 7 := by
  have F0 : Fr Pdb μ (dtSI μ 127 0 (Int32.ofNat 1)) := Fr.SI (Or.inr (Or.inr rfl))
  have I0 : dbI (dtSI μ 127 0 (Int32.ofNat 1)) h A kn 0 (fun _ => 0) := ⟨H.kept F0 (fun k _ q j x => by
    have y : (k = 124 ∧ j = 1) ∨ k = 125 ∨ k = 127 := x
    omega), C.kept F0, fun j hj => absurd hj (Nat.not_lt_zero _), fun j h1 h2 => by
      have : j = 0 := by omega
      subst this
      rw [m_I_SI, if_pos ⟨rfl, rfl⟩]; rfl⟩
  obtain ⟨μ1, e1, F1, x1⟩ := fd9 hh hk 7 dtFuel 1 _ (by omega) (by omega) (dtFuel_gt (by decide)) I0 (fun n' a b => by omega)
  refine ⟨μ1, ?_, F0.tr F1, x1⟩
  rw [f_X5_findDoubt, C.g124_3, o_bind, show (0 : Int32) = Int32.ofNat 0 from rfl, show (1 : Int32) = Int32.ofNat 1 from rfl, o_SI C.s127 (by decide) (by decide), o_bind, e1]
