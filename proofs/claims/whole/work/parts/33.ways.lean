/-! PURE 4: ways by doors -/
def fo {α : Type} (f : Nat → α → α) : Nat → Nat → α → α
  | 0, _, a => a
  | n + 1, i, a => fo f n (i + 1) (f i a)
theorem fo_inv {α : Type} {f : Nat → α → α} {P : Nat → α → Prop} (hstep : ∀ i a, P i a → P (i + 1) (f i a)) : ∀ (n i : Nat) (a : α), P i a → P (i + n) (fo f n i a)
  | 0, _, _, h => h
  | n + 1, i, a, h => by
    have := fo_inv hstep n (i + 1) (f i a) (hstep i a h)
    rw [show i + (n + 1) = i + 1 + n by omega]
    exact this
/-- with the bound at hand -/
theorem fo_ind {α : Type} {f : Nat → α → α} {N : Nat} {P : Nat → α → Prop} (hstep : ∀ i a, i < N → P i a → P (i + 1) (f i a)) : ∀ (n i : Nat) (a : α), i + n = N → P i a → P N (fo f n i a)
  | 0, i, _, e, h => by rw [show N = i by omega]; exact h
  | n + 1, i, a, e, h => fo_ind hstep n (i + 1) (f i a) (by omega) (hstep i a (by omega) h)
def hGo (A : aH) (op d s : Nat) : Bool := op.testBit d && !(s &&& hBo A d == 0)
def hS1 (A : aH) (op X d acc : Nat) : Nat := if hGo A op d X = true then acc ||| hBo A d else acc
def hStep (A : aH) (op X : Nat) : Nat := fo (fun d acc => hS1 A op X d acc) (hs A 1) 0 X
def hStepM (A : aH) (op X : Nat) : Nat := fo (fun d acc => hS1 A op acc d acc) (hs A 1) 0 X
theorem or128 {a b : Nat} (ha : a < 128) (hb : b < 128) : a ||| b < 128 := Nat.or_lt_two_pow (n := 7) ha hb
theorem p128 {k : Nat} (h : k < 7) : 2 ^ k < 128 := show 2 ^ k < 2 ^ 7 from Nat.pow_lt_pow_right (by decide) h
theorem hBo_lt {A : aH} (W : hWF A) {d : Nat} (hd : d < hs A 1) : hBo A d < 128 := by
  have := W.1.1
  have := (W.2.1 d hd).1
  have := (W.2.1 d hd).2.1
  exact or128 (p128 (by omega)) (p128 (by omega))
theorem hS1_lt {A : aH} (W : hWF A) {op X d acc : Nat} (hd : d < hs A 1) (ha : acc < 128) : hS1 A op X d acc < 128 := by
  unfold hS1
  by_cases h : hGo A op d X = true
  · rw [if_pos h]; exact or128 ha (hBo_lt W hd)
  · rw [if_neg h]; exact ha
theorem PH.so5 {μ : dtM} {h : Nat} {A : aH} (H : PH μ h A) {op X : Nat} (hop : op < 2147483648) (hX : X < 128) : ∀ (n f i acc : Nat), i + n = hs A 1 → n < f → acc < 128 → f_X10_stepOnce_5 f h (Int32.ofNat op) (Int32.ofNat X) (Int32.ofNat acc) (Int32.ofNat i) μ = some (Int32.ofNat (fo (fun d acc => hS1 A op X d acc) n i acc), μ) := by
  have hnd := H.nd
  intro n
  induction n with
  | zero =>
    intro f i acc e hf ha
    cases f with
    | zero => omega
    | succ f =>
      simp only [f_X10_stepOnce_5, H.g1, o_bind, z_le (show hs A 1 < 2147483648 by omega) (show i < 2147483648 by omega)]
      rw [if_pos (by omega)]; rfl
  | succ n ih =>
    intro f i acc e hf ha
    cases f with
    | zero => omega
    | succ f =>
      have hi : i < hs A 1 := by omega
      have hb := hBo_lt H.2.2 hi
      have hx : X &&& hBo A i < 128 := Nat.and_lt_two_pow (n := 7) _ hb
      simp only [f_X10_stepOnce_5, f_X10_stepOnce_43, H.g1, H.rv, o_bind, o_call, z_le (show hs A 1 < 2147483648 by omega) (show i < 2147483648 by omega), H.roomsOfDoor hi, f_contains hop (show i < 32 by omega), z_and, z_or, z_lit, z_add, b0, z_eq (show X &&& hBo A i < 2147483648 by omega) (show 0 < 2147483648 by decide)]
      rw [if_neg (by omega), fo]
      by_cases h1 : op.testBit i = false
      · rw [if_pos h1, ih f (i + 1) acc (by omega) (by omega) ha]
        have : hS1 A op X i acc = acc := by simp [hS1, hGo, h1]
        rw [this]
      · rw [if_neg h1]
        by_cases h2 : X &&& hBo A i = 0
        · rw [if_pos h2, ih f (i + 1) acc (by omega) (by omega) ha]
          have : hS1 A op X i acc = acc := by simp [hS1, hGo, h2]
          rw [this]
        · rw [if_neg h2, ih f (i + 1) _ (by omega) (by omega) (or128 ha hb)]
          have : hS1 A op X i acc = acc ||| hBo A i := by
            have h1' : op.testBit i = true := by simpa using h1
            simp [hS1, hGo, h1', h2]
          rw [this]
theorem dtFuel_gt {n : Nat} (h : n < 2000000) : n < dtFuel := h
theorem PH.stepOnce {μ : dtM} {h : Nat} {A : aH} (H : PH μ h A) {op X : Nat} (hop : op < 2147483648) (hX : X < 128) : f_X10_stepOnce h (Int32.ofNat op) (Int32.ofNat X) μ = some (Int32.ofNat (hStep A op X), μ) := by
  have := H.nd
  rw [f_X10_stepOnce, z_lit]
  exact H.so5 hop hX (hs A 1) dtFuel 0 X (by omega) (dtFuel_gt (by omega)) hX
theorem hStep_lt {A : aH} (W : hWF A) {op X : Nat} (hX : X < 128) : hStep A op X < 128 := fo_ind (P := fun _ a => a < 128) (fun i a hi ha => hS1_lt W hi ha) (hs A 1) 0 X (by omega) hX
theorem hStepM_lt {A : aH} (W : hWF A) {op X : Nat} (hX : X < 128) : hStepM A op X < 128 := fo_ind (P := fun _ a => a < 128) (fun i a hi ha => hS1_lt W hi ha) (hs A 1) 0 X (by omega) hX
def it (f : Nat → Nat) : Nat → Nat → Nat
  | 0, x => x
  | n + 1, x => it f n (f x)
theorem it_fix {f : Nat → Nat} {x : Nat} (h : f x = x) : ∀ n, it f n x = x
  | 0 => rfl
  | n + 1 => by rw [it, h]; exact it_fix h n
theorem it_lt {f : Nat → Nat} (hf : ∀ x, x < 128 → f x < 128) : ∀ (n x : Nat), x < 128 → it f n x < 128
  | 0, _, h => h
  | n + 1, x, h => it_lt hf n (f x) (hf x h)
def hReach (A : aH) (op X : Nat) : Nat := it (hStep A op) 7 X
theorem PH.re5 {μ : dtM} {h : Nat} {A : aH} (H : PH μ h A) {op : Nat} (hop : op < 2147483648) : ∀ (n f i X : Nat), i + n = 7 → n < f → X < 128 → f_X10_reach_5 f h (Int32.ofNat op) (Int32.ofNat X) (Int32.ofNat i) μ = some (Int32.ofNat (it (hStep A op) n X), μ) := by
  intro n
  induction n with
  | zero =>
    intro f i X e hf hX
    cases f with
    | zero => omega
    | succ f =>
      simp only [f_X10_reach_5, f_X10_reach_38, z_lit, z_le (show 7 < 2147483648 by decide) (show i < 2147483648 by omega)]
      rw [if_pos (by omega)]; rfl
  | succ n ih =>
    intro f i X e hf hX
    cases f with
    | zero => omega
    | succ f =>
      have hl := hStep_lt (op := op) H.2.2 hX
      simp only [f_X10_reach_5, f_X10_reach_38, z_lit, z_le (show 7 < 2147483648 by decide) (show i < 2147483648 by omega), H.stepOnce hop hX, o_call, z_add, z_eq (show hStep A op X < 2147483648 by omega) (show X < 2147483648 by omega)]
      rw [if_neg (by omega), it]
      by_cases h1 : hStep A op X = X
      · rw [if_pos h1, h1, it_fix h1]
      · rw [if_neg h1, ih f (i + 1) _ (by omega) (by omega) hl]
theorem PH.reach {μ : dtM} {h : Nat} {A : aH} (H : PH μ h A) {op X : Nat} (hop : op < 2147483648) (hX : X < 128) : f_X10_reach h (Int32.ofNat op) (Int32.ofNat X) μ = some (Int32.ofNat (hReach A op X), μ) := by
  rw [f_X10_reach, z_lit]
  exact H.re5 hop 7 dtFuel 0 X (by omega) (dtFuel_gt (by decide)) hX
theorem z_bit' {d : Nat} (hd : d < 32) : Int32.ofNat 1 <<< Int32.ofNat (d &&& 31) = Int32.ofNat (2 ^ d) := by rw [← z_and, z_bit hd]
theorem MH.rs15 {μ : dtM} {A : aH} (H : MH μ 0 0 A) {k5 : Nat → Int32 → Int32 → Int32 → dtM → Option (Int32 × dtM)} {op : Nat} {l4 : Int32} (hop : op < 2147483648) : ∀ (n f i acc : Nat), i + n = hs A 1 → n < f → acc < 128 → f_X12_reaches_15 k5 f 133 (Int32.ofNat op) (Int32.ofNat acc) l4 (Int32.ofNat i) μ = k5 133 (Int32.ofNat op) (Int32.ofNat (fo (fun d acc => hS1 A op acc d acc) n i acc)) (l4 + Int32.ofNat 1) μ := by
  have hnd := H.nd
  have hnr := H.nr
  have g1 := H.g1
  intro n
  induction n with
  | zero =>
    intro f i acc e hf ha
    cases f with
    | zero => omega
    | succ f =>
      simp only [f_X12_reaches_15, z_lit, H.r0, g1, o_bind, z_le (show hs A 1 < 2147483648 by omega) (show i < 2147483648 by omega)]
      rw [if_pos (by omega)]; rfl
  | succ n ih =>
    intro f i acc e hf ha
    cases f with
    | zero => omega
    | succ f =>
      have hi : i < hs A 1 := by omega
      have hb := hBo_lt H.2.2 hi
      have h0 := (H.door hi).1
      have h1 := (H.door hi).2.1
      have hx : hBo A i &&& acc < 128 := Nat.and_lt_two_pow (n := 7) _ ha
      have eB : (Int32.ofNat (2 ^ ht A 0 i ||| 2 ^ ht A 1 i)) = Int32.ofNat (hBo A i) := rfl
      simp only [f_X12_reaches_15, f_X12_reaches_69, z_lit, H.r0, H.rv, g1, o_bind, o_call, z_le (show hs A 1 < 2147483648 by omega) (show i < 2147483648 by omega), H.doorOf (t := 0) (by decide) hi, H.doorOf (t := 1) (by decide) hi, z_bit' (show ht A 0 i < 32 by omega), z_bit' (show ht A 1 i < 32 by omega), z_or, eB, f_isIn hop (show i < 32 by omega), z_and, z_add, b0, z_eq (show hBo A i &&& acc < 2147483648 by omega) (show 0 < 2147483648 by decide)]
      rw [if_neg (by omega), fo]
      by_cases h1 : op.testBit i = false
      · rw [if_pos h1, ih f (i + 1) acc (by omega) (by omega) ha]
        have : hS1 A op acc i acc = acc := by simp [hS1, hGo, h1]
        rw [this]
      · rw [if_neg h1]
        by_cases h2 : hBo A i &&& acc = 0
        · rw [if_pos h2, ih f (i + 1) acc (by omega) (by omega) ha]
          have : hS1 A op acc i acc = acc := by simp [hS1, hGo, Nat.and_comm acc, h2]
          rw [this]
        · rw [if_neg h2, ih f (i + 1) _ (by omega) (by omega) (or128 ha hb)]
          have : hS1 A op acc i acc = acc ||| hBo A i := by
            have h1' : op.testBit i = true := by simpa using h1
            simp [hS1, hGo, Nat.and_comm acc, h1', h2]
          rw [this]
def hReachM (A : aH) (op X : Nat) : Nat := it (hStepM A op) 7 X
theorem MH.rs5 {μ : dtM} {A : aH} (H : MH μ 0 0 A) {op : Nat} (hop : op < 2147483648) : ∀ (n f i X : Nat), i + n = 7 → n < f → X < 128 → f_X12_reaches_5 f 133 (Int32.ofNat op) (Int32.ofNat X) (Int32.ofNat i) μ = some (Int32.ofNat (it (hStepM A op) n X), μ) := by
  have hnd := H.nd
  intro n
  induction n with
  | zero =>
    intro f i X e hf hX
    cases f with
    | zero => omega
    | succ f =>
      simp only [f_X12_reaches_5, z_lit, z_le (show 7 < 2147483648 by decide) (show i < 2147483648 by omega)]
      rw [if_pos (by omega)]; rfl
  | succ n ih =>
    intro f i X e hf hX
    cases f with
    | zero => omega
    | succ f =>
      simp only [f_X12_reaches_5, z_lit, z_le (show 7 < 2147483648 by decide) (show i < 2147483648 by omega)]
      rw [if_neg (by omega), H.rs15 hop (hs A 1) dtFuel 0 X (by omega) (dtFuel_gt (by omega)) hX, z_add]
      exact ih f (i + 1) _ (by omega) (by omega) (hStepM_lt H.2.2 hX)
theorem MH.reaches {μ : dtM} {A : aH} (H : MH μ 0 0 A) {op X : Nat} (hop : op < 2147483648) (hX : X < 128) : f_X12_reaches 133 (Int32.ofNat X) (Int32.ofNat op) μ = some (Int32.ofNat (hReachM A op X), μ) := by
  rw [f_X12_reaches, z_lit]
  exact H.rs5 hop 7 dtFuel 0 X (by omega) (dtFuel_gt (by decide)) hX
