/-! PURE 56: culprits -/
theorem hBo_no {A : aH} {d X : Nat} : (!(X &&& hBo A d == 0)) = (X.testBit (ht A 0 d) || X.testBit (ht A 1 d)) := by
  have h := hGo_eq (A := A) (op := 2 ^ d) (d := d) (X := X)
  unfold hGo at h
  rw [Nat.testBit_two_pow, decide_eq_true rfl, Bool.true_and, Bool.true_and] at h
  exact h
def cuOk (A : aH) (g : Nat → Int64) : Nat → Nat → Nat → Bool
  | 0, _, _ => true
  | n + 1, j, O => sJ (g j) (hs A 1) && (O.testBit (g j).toNatClampNeg && cuOk A g n (j + 1) (O ^^^ 2 ^ (g j).toNatClampNeg))
theorem cuOk_ab {A : aH} {g : Nat → Int64} : ∀ (n j O : Nat), cuOk A g n j O = true → abB g (hs A 1) n j = true
  | 0, _, _, _ => rfl
  | n + 1, j, O, h => by
    rw [cuOk, Bool.and_eq_true, Bool.and_eq_true] at h
    rw [abB, if_pos h.1]
    exact cuOk_ab n (j + 1) _ h.2.2
theorem p512 {d : Nat} (h : d < 10) : 2 ^ d < 1024 := show 2 ^ d < 2 ^ 10 from Nat.pow_lt_pow_right (by decide) h
theorem andnot_in {O d : Nat} (h : O.testBit d = true) : O ^^^ (O &&& 2 ^ d) = O ^^^ 2 ^ d := by
  have e : O &&& 2 ^ d = 2 ^ d := by
    apply Nat.eq_of_testBit_eq
    intro i
    rw [Nat.testBit_and, Nat.testBit_two_pow]
    by_cases q : d = i
    · rw [← q, h]; rfl
    · rw [decide_eq_false q, Bool.and_false]
  rw [e]
theorem ao28 {μ : dtM} {A : aH} {T : aT} (H : PT μ T) (C : CX μ) (hnd : hs A 1 ≤ 10) {i N : Nat} (hi : i < 4) (hN : N < taN T i) (hab : abB (taV T i) (hs A 1) N 0 = true) : ∀ (n f j O : Nat), j + n = N → n < f → O < 1024 → f_X11_areOpenDoors_28 f (2 + 2 * i) (Int32.ofNat N) (Int32.ofNat O) (Int32.ofNat j) μ = some (bI (cuOk A (taV T i) n j O), μ) := by
  have h61 := (H i hi).1.2
  have kk := kkT_ok (show hs A 1 < 2147483648 by omega) hab
  intro n
  induction n with
  | zero =>
    intro f j O e hf hO
    cases f with
    | zero => omega
    | succ f =>
      simp (disch := omega) only [f_X11_areOpenDoors_28, z_le, z_lit, o_ret1']
      rw [if_pos (by omega)]; rfl
  | succ n ih =>
    intro f j O e hf hO
    cases f with
    | zero => omega
    | succ f =>
      obtain ⟨ev, hk⟩ := kk j (by omega)
      have hk2 := p512 (show kkT T i j < 10 by omega)
      have sj : sJ (taV T i j) (hs A 1) = true := abB_t N 0 hab j (Nat.zero_le _) (by omega)
      have hx := ih f (j + 1) (O ^^^ 2 ^ kkT T i j) (by omega) (by omega) (xor1024 hO hk2)
      have ps := p_small H C hi (show j + 1 < taN T i by omega) (show kkT T i j < 2147483648 by omega) ev
      have zb := z_bit (d := kkT T i j) (by omega)
      simp (disch := omega) only [f_X11_areOpenDoors_28, z_le, o_Rv (C.tr hi).1, ps, f_contains, o_bind, o_call, z_lit, zb, z_xor, z_add, b0, o_ret0']
      rw [if_neg (by omega), cuOk, sj, Bool.true_and]
      show _ = some (bI (O.testBit (kkT T i j) && cuOk A (taV T i) n (j + 1) (O ^^^ 2 ^ kkT T i j)), μ)
      cases q : O.testBit (kkT T i j)
      · rw [if_pos rfl]; rfl
      · rw [if_neg (by decide), hx, Bool.true_and]
theorem p_openDoors {μ : dtM} {w : aW} {f : aF} {A : aH} {z : aZ} (H : RP μ w f A z) {i N : Nat} (hi : i < 4) (hN : N < taN (zT z) i) : f_X11_areOpenDoors 0 (2 + 2 * i) (Int32.ofNat N) μ = some (bI (cuOk A (taV (zT z) i) N 0 (hs A 5)), μ) := by
  have C := H.c
  have T := H.pt
  have HH := H.ph
  have hnd := HH.nd
  have hop := HH.op1
  have h61 := (T i hi).1.2
  have al := p_allBelow T C (lim := hs A 1) hi hN (by omega)
  have h2 : 2 ^ hs A 1 ≤ 1024 := Nat.pow_le_pow_right (n := 2) (by decide) hnd
  simp only [f_X11_areOpenDoors, H.g5, HH.g1, HH.g5, o_Rv (C.tr hi).1, al, o_bind, o_call, z_lit, b0, o_ret0', o_ret1', o_bI, Bool.true_eq_false, Bool.false_eq_true, eq_self, if_true, if_false]
  cases q : abB (taV (zT z) i) (hs A 1) N 0
  · rw [if_pos rfl]
    cases q2 : cuOk A (taV (zT z) i) N 0 (hs A 5)
    · rfl
    · rw [cuOk_ab N 0 _ q2] at q; exact absurd q (by decide)
  · rw [if_neg (by decide)]
    exact ao28 T C hnd hi hN q N dtFuel 0 (hs A 5) (by omega) (dtFuel_gt (by omega)) (by omega)
def csR (A : aH) (kk : Nat → Nat) : Nat → Nat → Nat → Nat → Bool
  | 0, _, _, _ => true
  | n + 1, k, O, S => if hReach A O S &&& hBo A (kk k) = 0 then false else csR A kk n (k + 1) (O ^^^ (O &&& 2 ^ kk k)) (hBo A (kk k))
theorem sa14 {μ : dtM} {h : Nat} {A : aH} {T : aT} (HH : PH μ h A) (H : PT μ T) (C : CX μ) {i N : Nat} (hi : i < 4) (hN : N < taN T i) (kk : ∀ j, j < N → taV T i j = Int64.ofNat (kkT T i j) ∧ kkT T i j < hs A 1) : ∀ (n f j O S : Nat), j + n = N → n < f → O < 1024 → S < 128 → f_X10_canShutAll_14 f h (2 + 2 * i) (Int32.ofNat N) (Int32.ofNat O) (Int32.ofNat S) (Int32.ofNat j) μ = some (bI (csR A (kkT T i) n j O S), μ) := by
  have h61 := (H i hi).1.2
  have hnd := HH.nd
  intro n
  induction n with
  | zero =>
    intro f j O S e hf hO hS
    cases f with
    | zero => omega
    | succ f =>
      simp (disch := omega) only [f_X10_canShutAll_14, z_le, z_lit, o_ret1']
      rw [if_pos (by omega)]; rfl
  | succ n ih =>
    intro f j O S e hf hO hS
    cases f with
    | zero => omega
    | succ f =>
      obtain ⟨ev, hk⟩ := kk j (by omega)
      have hk2 := p512 (show kkT T i j < 10 by omega)
      have hb := hBo_lt HH.2.2 hk
      have hr := hReach_lt HH.2.2 (op := O) hS
      have han : hReach A O S &&& hBo A (kkT T i j) < 128 := Nat.and_lt_two_pow (n := 7) _ hb
      have ha2 : O &&& 2 ^ kkT T i j < 1024 := and1024 hk2
      have hx := ih f (j + 1) (O ^^^ (O &&& 2 ^ kkT T i j)) (hBo A (kkT T i j)) (by omega) (by omega) (xor1024 hO ha2) hb
      have ps := p_small H C hi (show j + 1 < taN T i by omega) (show kkT T i j < 2147483648 by omega) ev
      have zb := z_bit (d := kkT T i j) (by omega)
      have za := z_and (hReach A O S) (hBo A (kkT T i j))
      have rr := HH.reach (op := O) (by omega) hS
      simp only [f_X10_canShutAll_14, z_le (show N < 2147483648 by omega) (show j < 2147483648 by omega), o_Rv (C.tr hi).1, ps, HH.rv, HH.roomsOfDoor hk, rr, za, z_eq (show hReach A O S &&& hBo A (kkT T i j) < 2147483648 by omega) (show 0 < 2147483648 by decide), o_bind, o_call, z_lit, zb, z_andnot, z_add, o_ret0']
      rw [if_neg (by omega), csR]
      by_cases q : hReach A O S &&& hBo A (kkT T i j) = 0
      · rw [if_pos q, if_pos q]
      · rw [if_neg q, if_neg q, hx]
theorem PH.canShut {μ : dtM} {h : Nat} {A : aH} {T : aT} (HH : PH μ h A) (H : PT μ T) (C : CX μ) {i N r : Nat} (hi : i < 4) (hN : N < taN T i) (kk : ∀ j, j < N → taV T i j = Int64.ofNat (kkT T i j) ∧ kkT T i j < hs A 1) (hr : r < 7) : f_X10_canShutAll h (Int32.ofNat r) (2 + 2 * i) (Int32.ofNat N) μ = some (bI (csR A (kkT T i) N 0 (hs A 5) (2 ^ r)), μ) := by
  have hnd := HH.nd
  have hop := HH.op1
  have h61 := (H i hi).1.2
  have h2 : 2 ^ hs A 1 ≤ 1024 := Nat.pow_le_pow_right (n := 2) (by decide) hnd
  have zr : (1 : Int32) <<< (Int32.ofNat r &&& 31) = Int32.ofNat (2 ^ r) := z_bit (d := r) (by omega)
  rw [f_X10_canShutAll, HH.g5, o_bind, zr, o_bind]
  exact sa14 HH H C hi hN kk N dtFuel 0 (hs A 5) (2 ^ r) (by omega) (dtFuel_gt (by omega)) (by omega) (p128 hr)
theorem ch27 {μ : dtM} {A : aH} {T : aT} (M1 : MH μ 0 0 A) (H : MT μ T) (C : CX μ) {i N : Nat} (hi : i < 4) (hN : N < taN T i) (kk : ∀ j, j < N → taV T i j = Int64.ofNat (kkT T i j) ∧ kkT T i j < hs A 1) : ∀ (n f j O S : Nat), j + n = N → n < f → O < 1024 → S < 128 → f_X12_canHave_27 f 133 (Int32.ofNat i) (Int32.ofNat N) (Int32.ofNat O) (Int32.ofNat (hReach A O S)) (Int32.ofNat j) μ = some (bI (csR A (kkT T i) n j O S), μ) := by
  have h61 := (H i hi).1.2
  have hnd := M1.nd
  have hnr := M1.nr
  intro n
  induction n with
  | zero =>
    intro f j O S e hf hO hS
    cases f with
    | zero => omega
    | succ f =>
      simp (disch := omega) only [f_X12_canHave_27, z_le, z_lit, o_ret1']
      rw [if_pos (by omega)]; rfl
  | succ n ih =>
    intro f j O S e hf hO hS
    cases f with
    | zero => omega
    | succ f =>
      obtain ⟨ev, hk⟩ := kk j (by omega)
      have hk2 := p512 (show kkT T i j < 10 by omega)
      have hb := hBo_lt M1.2.2 hk
      have d0 := (M1.door hk).1
      have d1 := (M1.door hk).2.1
      have hr := hReach_lt M1.2.2 (op := O) hS
      have ha2 : O &&& 2 ^ kkT T i j < 1024 := and1024 hk2
      have ho := xor1024 hO ha2
      have hx := ih f (j + 1) (O ^^^ (O &&& 2 ^ kkT T i j)) (hBo A (kkT T i j)) (by omega) (by omega) ho hb
      have zb := z_bit (d := kkT T i j) (by omega)
      have z0 := z_bit (d := ht A 0 (kkT T i j)) (by omega)
      have z1 := z_bit (d := ht A 1 (kkT T i j)) (by omega)
      have ia := M1.isAt (s := hReach A O S) (by omega) hk
      rw [← hBo_no] at ia
      have m0 := M1.doorOf (t := 0) (by decide) hk
      have m1 := M1.doorOf (t := 1) (by decide) hk
      have rr := M1.reaches (op := O ^^^ (O &&& 2 ^ kkT T i j)) (by omega) hb
      rw [hReachM_eq M1.2.2 hb] at rr
      have zo : Int32.ofNat (2 ^ ht A 0 (kkT T i j)) ||| Int32.ofNat (2 ^ ht A 1 (kkT T i j)) = Int32.ofNat (hBo A (kkT T i j)) := z_or _ _
      have nu := H.nu C hi (show j + 1 < taN T i by omega)
      rw [ev] at nu
      simp only [f_X12_canHave_27, z_le (show N < 2147483648 by omega) (show j < 2147483648 by omega), C.g133_7, C.v133, z_mul, z_add, nu, j_to (show kkT T i j < 2147483648 by omega), ia, m0, m1, rr, o_bind, o_call, z_lit, zb, z0, z1, zo, z_andnot, b0, o_ret0']
      rw [if_neg (by omega), csR]
      by_cases q : hReach A O S &&& hBo A (kkT T i j) = 0
      · rw [q, if_pos (show (!(0 == 0)) = false from rfl), if_pos rfl]
      · have : (hReach A O S &&& hBo A (kkT T i j) == 0) = false := by simpa using q
        rw [this, if_neg (by decide), if_neg q, hx]
theorem MH.canHave {μ : dtM} {A : aH} {T : aT} (M1 : MH μ 0 0 A) (H : MT μ T) (C : CX μ) {i N p : Nat} (hi : i < 4) (hN : N < taN T i) (kk : ∀ j, j < N → taV T i j = Int64.ofNat (kkT T i j) ∧ kkT T i j < hs A 1) (hp : p < hs A 3) : f_X12_canHave 133 (Int32.ofNat p) (Int32.ofNat i) (Int32.ofNat N) μ = some (bI (csR A (kkT T i) N 0 (hs A 5) (2 ^ ht A 8 p)), μ) := by
  have hnd := M1.nd
  have hnr := M1.nr
  have hop := M1.op1
  have h61 := (H i hi).1.2
  have m5 : opLI 1 μ 134 (5 : Int32) = some (Int32.ofNat (hs A 5)) := M1.gj (j := 5) (by decide)
  have h2 : 2 ^ hs A 1 ≤ 1024 := Nat.pow_le_pow_right (n := 2) (by decide) hnd
  have pr := (M1.pers hp).1
  have zr : (1 : Int32) <<< (Int32.ofNat (ht A 8 p) &&& 31) = Int32.ofNat (2 ^ ht A 8 p) := z_bit (d := ht A 8 p) (by omega)
  have p0 : f_X12_personOf 133 (Int32.ofNat p) (0 : Int32) μ = some (Int32.ofNat (ht A 8 p), μ) := M1.personOf (k := 0) (by decide) hp
  have hp1 := p128 (show ht A 8 p < 7 by omega)
  have rr := M1.reaches (op := hs A 5) (by omega) hp1
  rw [hReachM_eq M1.2.2 hp1] at rr
  rw [f_X12_canHave, C.g133_0, o_bind, m5, o_bind, C.v133, o_bind, p0, o_call, C.v133, o_bind, zr, rr, o_call]
  exact ch27 M1 H C hi hN kk N dtFuel 0 (hs A 5) (2 ^ ht A 8 p) (by omega) (dtFuel_gt (by omega)) (by omega) hp1
def cuB (A : aH) (kk : Nat → Nat) (N p acc : Nat) : Nat := if csR A kk N 0 (hs A 5) (2 ^ ht A 8 p) = true then acc ||| 2 ^ p else acc
theorem cu57 {μ : dtM} {w : aW} {fr : aF} {A : aH} {z : aZ} (HP : RP μ w fr A z) {i N : Nat} (hi : i < 4) (hN : N < taN (zT z) i) (kk : ∀ j, j < N → taV (zT z) i j = Int64.ofNat (kkT (zT z) i j) ∧ kkT (zT z) i j < hs A 1) : ∀ (n f p acc : Nat), p + n = hs A 3 → n < f → f_X11_culprits_57 f 0 (Int32.ofNat i) (Int32.ofNat N) (Int32.ofNat acc) (Int32.ofNat p) μ = some (Int32.ofNat (fo (cuB A (kkT (zT z) i) N) n p acc), dtSI μ 0 0 (Int32.ofNat 0)) := by
  have C := HP.c
  have T := HP.pt
  have HH := HP.ph
  have g5 := HP.g5
  have hnd := HH.nd
  have hnr := HH.nr
  have hnp := HH.np
  have hop := HH.op1
  have h61 := (T i hi).1.2
  have h2 : 2 ^ hs A 1 ≤ 1024 := Nat.pow_le_pow_right (n := 2) (by decide) hnd
  intro n
  induction n with
  | zero =>
    intro f p acc e hf
    cases f with
    | zero => omega
    | succ f =>
      simp (disch := omega) only [f_X11_culprits_57, g5, HH.g3, z_le, C.v0, p_ans C, o_bind, o_call]
      rw [if_pos (by omega)]; rfl
  | succ n ih =>
    intro f p acc e hf
    cases f with
    | zero => omega
    | succ f =>
      have pr := (HH.pers (p := p) (by omega)).1
      have zp := z_bit (d := p) (by omega)
      have l8 := HH.l8 (p := p) (by omega)
      have sa := HH.canShut T C hi hN kk (show ht A 8 p < 7 by omega)
      simp only [f_X11_culprits_57, f_X11_culprits_105, g5, HH.g3, HH.r14, l8, C.g0_3, C.t1 hi, zp, sa, z_le (show hs A 3 < 2147483648 by omega) (show p < 2147483648 by omega), o_bind, o_call, z_lit, b0, z_or, z_add]
      rw [if_neg (by omega), fo, cuB]
      cases q : csR A (kkT (zT z) i) N 0 (hs A 5) (2 ^ ht A 8 p)
      · rw [if_pos rfl, if_neg (by decide)]; exact ih f (p + 1) acc (by omega) (by omega)
      · rw [if_neg (by decide), if_pos rfl]; exact ih f (p + 1) _ (by omega) (by omega)
theorem cu144 {μ : dtM} {fr : aF} {A : aH} {z : aZ} (HM : RM μ fr A z) {i N : Nat} (hi : i < 4) (hN : N < taN (zT z) i) (kk : ∀ j, j < N → taV (zT z) i j = Int64.ofNat (kkT (zT z) i j) ∧ kkT (zT z) i j < hs A 1) : ∀ (n f p acc : Nat), p + n = hs A 3 → n < f → f_X12_culprits_144 f 133 (Int32.ofNat i) (Int32.ofNat N) (Int32.ofNat acc) (Int32.ofNat p) μ = some (Int32.ofNat (fo (cuB A (kkT (zT z) i) N) n p acc), dtSI μ 133 2 (Int32.ofNat 0)) := by
  have C := HM.c
  have T := HM.mt
  have M1 := HM.mh
  have hnd := M1.nd
  have hnr := M1.nr
  have hnp := M1.np
  have hop := M1.op1
  have h61 := (T i hi).1.2
  have m3 := M1.gj (j := 3) (by decide)
  have m5 := M1.gj (j := 5) (by decide)
  have h2 : 2 ^ hs A 1 ≤ 1024 := Nat.pow_le_pow_right (n := 2) (by decide) hnd
  intro n
  induction n with
  | zero =>
    intro f p acc e hf
    cases f with
    | zero => omega
    | succ f =>
      simp (disch := omega) only [f_X12_culprits_144, C.g133_0, z_lit, m3, z_le, C.v133, n_gives C, o_bind, o_call]
      rw [if_pos (by omega)]; rfl
  | succ n ih =>
    intro f p acc e hf
    cases f with
    | zero => omega
    | succ f =>
      have pr := (M1.pers (p := p) (by omega)).1
      have zp := z_bit (d := p) (by omega)
      have sa := M1.canHave T C hi hN kk (show p < hs A 3 by omega)
      simp only [f_X12_culprits_144, f_X12_culprits_176, C.g133_0, C.v133, m3, zp, sa, z_le (show hs A 3 < 2147483648 by omega) (show p < 2147483648 by omega), o_bind, o_call, z_lit, b0, z_or, Nat.or_zero, z_add]
      rw [if_neg (by omega), fo, cuB]
      cases q : csR A (kkT (zT z) i) N 0 (hs A 5) (2 ^ ht A 8 p)
      · rw [if_pos rfl, if_neg (by decide)]; exact ih f (p + 1) acc (by omega) (by omega)
      · rw [if_neg (by decide), if_pos rfl]; exact ih f (p + 1) _ (by omega) (by omega)
theorem cu67 {μ : dtM} {fr : aF} {A : aH} {z : aZ} (HM : RM μ fr A z) {i N : Nat} (hi : i < 4) (hN : N < taN (zT z) i) : ∀ (n f j O : Nat), j + n = N → n < f → O < 1024 → f_X12_culprits_67 f 133 (Int32.ofNat i) (Int32.ofNat N) (Int32.ofNat O) (Int32.ofNat j) μ = if cuOk A (taV (zT z) i) n j O = true then f_X12_culprits_144 dtFuel 133 (Int32.ofNat i) (Int32.ofNat N) (Int32.ofNat 0) (Int32.ofNat 0) μ else some (-Int32.ofNat 1, dtSI μ 133 2 (Int32.ofNat 5)) := by
  have C := HM.c
  have T := HM.mt
  have M1 := HM.mh
  have hnd := M1.nd
  have h61 := (T i hi).1.2
  have m1 := M1.gj (j := 1) (by decide)
  intro n
  induction n with
  | zero =>
    intro f j O e hf hO
    cases f with
    | zero => omega
    | succ f =>
      rw [f_X12_culprits_67, if_pos (show Int32.ofNat N ≤ Int32.ofNat j by rw [z_le (by omega) (by omega)]; omega)]
      rfl
  | succ n ih =>
    intro f j O e hf hO
    cases f with
    | zero => omega
    | succ f =>
      rw [f_X12_culprits_67, if_neg (show ¬ Int32.ofNat N ≤ Int32.ofNat j by rw [z_le (by omega) (by omega)]; omega), cuOk]
      have nu := T.nu C hi (show j + 1 < taN (zT z) i by omega)
      have fr := f_isFromL (v := taV (zT z) i j) (lim := hs A 1) (μ := μ) (by omega)
      cases q : sJ (taV (zT z) i j) (hs A 1)
      · rw [q] at fr
        simp only [f_X12_culprits_116, C.g133_0, C.g133_7, C.v133, z_lit, z_mul, z_add, nu, m1, j_lit, j_of (show hs A 1 < 2147483648 by omega), fr, n_refuse C, o_bind, o_call, b0, if_true, Bool.false_and]
        rw [if_neg (by decide)]
      · obtain ⟨ev, hk⟩ := sJ_k (show hs A 1 < 2147483648 by omega) q
        rw [Bool.true_and]
        rw [q] at fr
        have hto : (taV (zT z) i j).toInt32 = Int32.ofNat (taV (zT z) i j).toNatClampNeg := by
          rw [ev, j_to (by omega), ← ev]
        have hk2 := p512 (show (taV (zT z) i j).toNatClampNeg < 10 by omega)
        have zb := z_bit (d := (taV (zT z) i j).toNatClampNeg) (by omega)
        have ii := f_isIn (s := O) (d := (taV (zT z) i j).toNatClampNeg) (μ := μ) (by omega) (by omega)
        simp only [f_X12_culprits_116, C.g133_0, C.g133_7, C.v133, z_lit, z_mul, z_add, nu, m1, j_lit, j_of (show hs A 1 < 2147483648 by omega), fr, n_refuse C, hto, ii, zb, z_andnot, o_bind, o_call, b0, Bool.true_eq_false, if_false]
        cases q2 : O.testBit (taV (zT z) i j).toNatClampNeg
        · rw [if_pos rfl, Bool.false_and, if_neg (by decide)]
        · rw [if_neg (by decide), Bool.true_and, andnot_in q2]
          exact ih f (j + 1) _ (by omega) (by omega) (xor1024 hO hk2)
theorem cu20n {μ : dtM} (C : CX μ) {x y : Int32} {s : Nat} (h : 0 < s ∧ s < 2147483648) : f_X11_culprits_20 0 x y (Int32.ofNat s) μ = some (-Int32.ofNat 1, dtSI μ 0 0 (Int32.ofNat s)) := by
  have ne : ¬ Int32.ofNat s = 0 := by
    rw [show (0 : Int32) = Int32.ofNat 0 from rfl, z_eq (by omega) (by omega)]; omega
  rw [f_X11_culprits_20, if_neg ne, C.v0, o_bind, p_fail C, o_call]
theorem cu_w {μ : dtM} {x : Int32} : f_X11_within x (0 : Int32) (6 : Int32) μ = some (bI (inR x 7), μ) := f_within0 (n := 6) (by decide)
theorem cu_f {μ : dtM} {x : Int32} : f_X12_isFrom x.toInt64 (0 : Int64) (6 : Int64) μ = some (bI (inR x 7), μ) := f_isFrom (n := 6) (by decide)
theorem cu_p1 {μ : dtM} (C : CX μ) {x y : Int32} (h : inR y 7 = false) : f_X11_culprits 0 x y μ = some (-Int32.ofNat 1, dtSI μ 0 0 (Int32.ofNat 1)) := by
  rw [f_X11_culprits, cu_w, h, o_call, if_pos (by decide)]
  exact cu20n C (by decide)
theorem cu_ps {μ : dtM} {w : aW} {f : aF} {A : aH} {z : aZ} (HP : RP μ w f A z) {x : Int32} {n : Nat} (hn : n < 7) : f_X11_culprits 0 x (Int32.ofNat n) μ = f_X11_culprits_20 0 x (Int32.ofNat n) (Int32.ofNat (rSt (zT z) x n)) μ := by
  have q : inR (Int32.ofNat n) 7 = true := by rw [inR_n (by decide) (by omega), decide_eq_true hn]
  rw [f_X11_culprits, cu_w, q, o_call, if_neg (by decide), HP.c.v0, o_bind, p_run HP x (n := n) (by omega), o_call]
theorem cu_m1 {μ : dtM} (C : CX μ) {x y : Int32} (h : inR x 4 = false ∨ inR y 7 = false) : f_X12_culprits 133 x y μ = some (-Int32.ofNat 1, dtSI μ 133 2 (Int32.ofNat 1)) := by
  have e19 : f_X12_culprits_19 133 μ = some (-Int32.ofNat 1, dtSI μ 133 2 (Int32.ofNat 1)) := by rw [f_X12_culprits_19, C.v133, o_bind, show (1 : Int32) = Int32.ofNat 1 from rfl, n_refuse C, o_call]
  cases h1 : inR x 4
  · rw [f_X12_culprits, f_isTrayM, h1, o_call, if_pos (by decide), e19]
  · have h2 : inR y 7 = false := h.resolve_left (by rw [h1]; decide)
    rw [f_X12_culprits, f_isTrayM, h1, o_call, if_neg (by decide), cu_f, h2, o_call, if_pos (by decide), e19]
theorem cu_m2 {μ : dtM} (C : CX μ) {x y : Int32} (h1 : inR x 4 = true) (h2 : inR y 7 = true) : f_X12_culprits 133 x y μ = (opLI 1 μ 137 x).bind fun x15 => if x15 = (-1 : Int32) then some (-Int32.ofNat 1, dtSI μ 133 2 (Int32.ofNat 2)) else (opLI 1 μ 137 x).bind fun x22 => if y ≤ x22 then ((opLI 1 μ 134 (5 : Int32)).bind fun x29 => f_X12_culprits_67 dtFuel 133 x y x29 (0 : Int32) μ) else some (-Int32.ofNat 1, dtSI μ 133 2 (Int32.ofNat 3)) := by
  rw [f_X12_culprits, f_isTrayM, h1, o_call, if_neg (by decide), cu_f, h2, o_call, if_neg (by decide), C.g133_6, o_bind, o_bind, C.v133, o_bind, show (2 : Int32) = Int32.ofNat 2 from rfl, n_refuse C, o_call, C.g133_0, o_bind, o_bind, show (3 : Int32) = Int32.ofNat 3 from rfl, n_refuse C, o_call]
theorem cs46 {μ : dtM} {w : aW} {f : aF} {A : aH} {z : aZ} (HP : RP μ w f A z) (HM : RM μ f A z) (W : dWF A (zD z)) (x y : Int32) : both (f_X11_culprits 0 x y) (f_X12_culprits 133 x y) μ := by
  have C := HP.c
  have HH := HP.ph
  have g5 := HP.g5
  have hnr := HH.nr
  have hnd := HH.nd
  have hnw := HH.nw
  have hnp := HH.np
  have T := HP.pt
  have hop := HH.op1
  have h2 : 2 ^ hs A 1 ≤ 1024 := Nat.pow_le_pow_right (n := 2) (by decide) hnd
  cases hq : inR y 7
  · exact both.no HP HM W (-Int32.ofNat 1) (Int32.ofNat 1) (cu_p1 C hq) (fun μ1 R1 => cu_m1 R1.c (Or.inr hq))
  · obtain ⟨n, hn, rfl⟩ := inR_t (by decide) hq
    cases h1 : inR x 4
    · refine both.no HP HM W (-Int32.ofNat 1) (Int32.ofNat 1) ?_ (fun μ1 R1 => cu_m1 R1.c (Or.inl h1))
      have r1 : rSt (zT z) x n = 1 := if_pos h1
      rw [cu_ps HP hn, r1]
      exact cu20n C (by decide)
    · obtain ⟨i, hi, rfl⟩ := inR_t (by decide) h1
      have h61 := (T i hi).1.2
      by_cases h4 : taN (zT z) i = 0
      · have r1 : rSt (zT z) (Int32.ofNat i) n = 2 := by
          unfold rSt; rw [if_neg (by rw [h1]; decide), z_cl (by omega), if_pos h4]
        refine both.no HP HM W (-Int32.ofNat 1) (Int32.ofNat 2) ?_ (fun μ1 R1 => ?_)
        · rw [cu_ps HP hn, r1]
          exact cu20n C (by decide)
        · rw [cu_m2 R1.c h1 hq, R1.mt.no R1.c hi h4, o_bind, if_pos (by decide)]
      · have ne : ¬ Int32.ofNat (taN (zT z) i - 1) = (-1 : Int32) := by
          rw [show (-1 : Int32) = -Int32.ofNat 1 from rfl, z_neg (show taN (zT z) i - 1 < 2147483648 by omega)]; exact id
        have le := z_le (show n < 2147483648 by omega) (show taN (zT z) i - 1 < 2147483648 by omega)
        by_cases h5 : n < taN (zT z) i
        · have r1 : rSt (zT z) (Int32.ofNat i) n = 0 := by
            unfold rSt; rw [if_neg (by rw [h1]; decide), z_cl (by omega), if_neg h4, if_pos h5]
          have po := p_openDoors HP hi h5
          have ep : f_X11_culprits 0 (Int32.ofNat i) (Int32.ofNat n) μ = if bI (cuOk A (taV (zT z) i) n 0 (hs A 5)) = 0 then some (-Int32.ofNat 1, dtSI μ 0 0 (Int32.ofNat 5)) else f_X11_culprits_57 dtFuel 0 (Int32.ofNat i) (Int32.ofNat n) (0 : Int32) (0 : Int32) μ := by
            rw [cu_ps HP hn, r1, f_X11_culprits_20, if_pos (by decide), C.g0_3, o_bind, C.t1 hi, o_bind, C.v0, o_bind, po, o_call, C.v0, o_bind, show (5 : Int32) = Int32.ofNat 5 from rfl, p_fail C, o_call]
          have em : ∀ μ1, RM μ1 f A z → f_X12_culprits 133 (Int32.ofNat i) (Int32.ofNat n) μ1 = f_X12_culprits_67 dtFuel 133 (Int32.ofNat i) (Int32.ofNat n) (Int32.ofNat (hs A 5)) (0 : Int32) μ1 := fun μ1 R1 => by
            have m5 : opLI 1 μ1 134 (5 : Int32) = some (Int32.ofNat (hs A 5)) := R1.mh.gj (j := 5) (by decide)
            rw [cu_m2 R1.c h1 hq, R1.mt.ma R1.c hi (show 0 < taN (zT z) i by omega), o_bind, if_neg ne, o_bind, if_pos (by rw [le]; omega), m5, o_bind]
          cases q : cuOk A (taV (zT z) i) n 0 (hs A 5)
          · refine both.no HP HM W (-Int32.ofNat 1) (Int32.ofNat 5) ?_ (fun μ1 R1 => ?_)
            · rw [ep, q, if_pos (by decide)]
            · have c67 := cu67 R1 hi h5 n dtFuel 0 (hs A 5) (by omega) (dtFuel_gt (by omega)) (by omega)
              rw [q, if_neg (by decide)] at c67
              rw [em μ1 R1]
              exact c67
          · have kk := kkT_ok (show hs A 1 < 2147483648 by omega) (cuOk_ab n 0 _ q)
            refine both.no HP HM W (Int32.ofNat (fo (cuB A (kkT (zT z) i) n) (hs A 3) 0 0)) (Int32.ofNat 0) ?_ (fun μ1 R1 => ?_)
            · rw [ep, q, if_neg (by decide)]
              exact cu57 HP hi h5 kk (hs A 3) dtFuel 0 0 (by omega) (dtFuel_gt (by omega))
            · have c67 := cu67 R1 hi h5 n dtFuel 0 (hs A 5) (by omega) (dtFuel_gt (by omega)) (by omega)
              rw [q, if_pos rfl, cu144 R1 hi h5 kk (hs A 3) dtFuel 0 0 (by omega) (dtFuel_gt (by omega))] at c67
              rw [em μ1 R1]
              exact c67
        · have r1 : rSt (zT z) (Int32.ofNat i) n = 3 := by
            unfold rSt; rw [if_neg (by rw [h1]; decide), z_cl (by omega), if_neg h4, if_neg h5]
          refine both.no HP HM W (-Int32.ofNat 1) (Int32.ofNat 3) ?_ (fun μ1 R1 => ?_)
          · rw [cu_ps HP hn, r1]
            exact cu20n C (by decide)
          · rw [cu_m2 R1.c h1 hq, R1.mt.ma R1.c hi (show 0 < taN (zT z) i by omega), o_bind, if_neg ne, o_bind, if_neg (by rw [le]; omega)]
