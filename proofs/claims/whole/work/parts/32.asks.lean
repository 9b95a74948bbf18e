/-! PURE 3: questions about numbers, both sides -/
def inR (x : Int32) (n : Nat) : Bool := decide (¬ x < 0 ∧ ¬ Int32.ofNat n ≤ x)
theorem inR_t {x : Int32} {n : Nat} (hn : n < 2147483648) (h : inR x n = true) : ∃ k, k < n ∧ x = Int32.ofNat k := by
  have h := of_decide_eq_true h
  rcases z_cases x with q | ⟨k, hk, rfl⟩
  · exact absurd q h.1
  · refine ⟨k, ?_, rfl⟩
    have := h.2
    rw [z_le hn hk] at this
    omega
theorem inR_n {k n : Nat} (hn : n < 2147483648) (hk : k < 2147483648) : inR (Int32.ofNat k) n = decide (k < n) := by
  have e1 : (Int32.ofNat k < 0) = (k < 0) := z_lt (b := 0) hk (by decide)
  have e2 := z_le hn hk
  unfold inR
  by_cases h : k < n
  · rw [decide_eq_true h]; exact decide_eq_true ⟨by rw [e1]; exact Nat.not_lt_zero _, by rw [e2]; exact Nat.not_le.mpr h⟩
  · rw [decide_eq_false h]; exact decide_eq_false (fun q => q.2 (by rw [e2]; exact Nat.not_lt.mp h))
theorem inR_neg {x : Int32} {n : Nat} (h : x < 0) : inR x n = false := decide_eq_false (fun q => q.1 h)
theorem b0 {b : Bool} : (bI b = Int32.ofNat 0) = (b = false) := by cases b <;> simp [bI] <;> decide
theorem b1 {b : Bool} : (bI b = Int32.ofNat 1) = (b = true) := by cases b <;> simp [bI] <;> decide
theorem o_ret0' {μ : dtM} : opRet (Int32.ofNat 0) μ = some (bI false, μ) := o_ret0
theorem o_ret1' {μ : dtM} : opRet (Int32.ofNat 1) μ = some (bI true, μ) := o_ret1
theorem f_contains {s d : Nat} {μ : dtM} (hs : s < 2147483648) (hd : d < 32) : f_X11_contains (Int32.ofNat s) (Int32.ofNat d) μ = some (bI (s.testBit d), μ) := by
  simp only [f_X11_contains, f_X11_contains_14, z_lit, o_ret0', o_ret1']
  simp only [z_in hs hd]
  cases s.testBit d <;> rfl
theorem f_isIn {s d : Nat} {μ : dtM} (hs : s < 2147483648) (hd : d < 32) : f_X12_isIn 133 (Int32.ofNat s) (Int32.ofNat d) μ = some (bI (s.testBit d), μ) := by
  simp only [f_X12_isIn, f_X12_isIn_14, z_lit, o_ret0', o_ret1']
  simp only [z_in hs hd]
  cases s.testBit d <;> rfl
theorem f_within0 {x : Int32} {n : Nat} {μ : dtM} (hn : n < 2147483647) : f_X11_within x (Int32.ofNat 0) (Int32.ofNat n) μ = some (bI (inR x (n + 1)), μ) := by
  simp only [f_X11_within, f_X11_within_14, f_X11_within_15, o_ret0, o_ret1]
  rcases z_cases x with q | ⟨k, hk, rfl⟩
  · rw [if_pos q, inR_neg q]; rfl
  · simp only [z_lt hk (show 0 < 2147483648 by decide), Nat.not_lt_zero, if_false, z_lt (show n < 2147483648 by omega) hk, inR_n (show n + 1 < 2147483648 by omega) hk]
    by_cases h : n < k
    · rw [if_pos h, decide_eq_false (by omega)]; rfl
    · rw [if_neg h, decide_eq_true (by omega)]; rfl
theorem f_isTrayP {x : Int32} {μ : dtM} : f_X11_isTray x μ = some (bI (inR x 4), μ) := by
  simp only [f_X11_isTray, z_lit, f_within0 (n := 3) (by decide), o_call, o_bI]
theorem f_isSound {x : Int32} {μ : dtM} : f_X11_isSound x μ = some (bI (inR x 4), μ) := by
  simp only [f_X11_isSound, z_lit, f_within0 (n := 3) (by decide), o_call, o_bI]
theorem f_isTrayM {x : Int32} {μ : dtM} : f_X12_isTray x μ = some (bI (inR x 4), μ) := by
  simp only [f_X12_isTray, f_X12_isTray_13, f_X12_isTray_14, o_ret0, o_ret1]
  unfold inR bI
  by_cases h1 : x < 0 <;> by_cases h2 : (4 : Int32) ≤ x <;> simp [h1, h2, show Int32.ofNat 4 = 4 from rfl]
theorem f_isNoise {x : Int32} {μ : dtM} : f_X12_isNoise x μ = some (bI (inR x 4), μ) := by
  simp only [f_X12_isNoise, f_X12_isNoise_13, f_X12_isNoise_14, o_ret0, o_ret1]
  unfold inR bI
  by_cases h1 : x < 0 <;> by_cases h2 : (4 : Int32) ≤ x <;> simp [h1, h2, show Int32.ofNat 4 = 4 from rfl]
theorem PH.hasRoom {μ : dtM} {h : Nat} {A : aH} (H : PH μ h A) (x : Int32) : f_X3_hasRoom h x μ = some (bI (inR x (hs A 0)), μ) := by
  simp only [f_X3_hasRoom, f_X3_hasRoom_16, f_X3_hasRoom_17, H.g0, o_bind, o_ret0, o_ret1]
  unfold inR bI
  by_cases h1 : x < 0 <;> by_cases h2 : Int32.ofNat (hs A 0) ≤ x <;> simp [h1, h2]
theorem MH.isRoom {μ : dtM} {A : aH} (H : MH μ 0 0 A) (x : Int32) : f_X12_isRoom 133 x μ = some (bI (inR x (hs A 0)), μ) := by
  have e := H.g0
  rw [show Int32.ofNat 0 = (0 : Int32) from rfl] at e
  simp only [f_X12_isRoom, f_X12_isRoom_18, f_X12_isRoom_19, H.r0, e, o_bind, o_ret0, o_ret1]
  unfold inR bI
  by_cases h1 : x < 0 <;> by_cases h2 : Int32.ofNat (hs A 0) ≤ x <;> simp [h1, h2]
theorem PH.hasDoor {μ : dtM} {h : Nat} {A : aH} (H : PH μ h A) (x : Int32) : f_X3_hasDoor h x μ = some (bI (inR x (hs A 1)), μ) := by
  simp only [f_X3_hasDoor, f_X3_hasDoor_16, f_X3_hasDoor_17, H.g1, o_bind, o_ret0, o_ret1]
  unfold inR bI
  by_cases h1 : x < 0 <;> by_cases h2 : Int32.ofNat (hs A 1) ≤ x <;> simp [h1, h2]
theorem MH.isDoor {μ : dtM} {A : aH} (H : MH μ 0 0 A) (x : Int32) : f_X12_isDoor 133 x μ = some (bI (inR x (hs A 1)), μ) := by
  have e := H.g1
  rw [show Int32.ofNat 1 = (1 : Int32) from rfl] at e
  simp only [f_X12_isDoor, f_X12_isDoor_18, f_X12_isDoor_19, H.r0, e, o_bind, o_ret0, o_ret1]
  unfold inR bI
  by_cases h1 : x < 0 <;> by_cases h2 : Int32.ofNat (hs A 1) ≤ x <;> simp [h1, h2]
theorem PH.hasWord {μ : dtM} {h : Nat} {A : aH} (H : PH μ h A) (x : Int32) : f_X3_hasWord h x μ = some (bI (inR x (hs A 2)), μ) := by
  simp only [f_X3_hasWord, f_X3_hasWord_16, f_X3_hasWord_17, H.g2, o_bind, o_ret0, o_ret1]
  unfold inR bI
  by_cases h1 : x < 0 <;> by_cases h2 : Int32.ofNat (hs A 2) ≤ x <;> simp [h1, h2]
theorem MH.isWord {μ : dtM} {A : aH} (H : MH μ 0 0 A) (x : Int32) : f_X12_isWord 133 x μ = some (bI (inR x (hs A 2)), μ) := by
  have e := H.g2
  rw [show Int32.ofNat 2 = (2 : Int32) from rfl] at e
  simp only [f_X12_isWord, f_X12_isWord_18, f_X12_isWord_19, H.r0, e, o_bind, o_ret0, o_ret1]
  unfold inR bI
  by_cases h1 : x < 0 <;> by_cases h2 : Int32.ofNat (hs A 2) ≤ x <;> simp [h1, h2]
theorem PH.hasPerson {μ : dtM} {h : Nat} {A : aH} (H : PH μ h A) (x : Int32) : f_X3_hasPerson h x μ = some (bI (inR x (hs A 3)), μ) := by
  simp only [f_X3_hasPerson, f_X3_hasPerson_16, f_X3_hasPerson_17, H.g3, o_bind, o_ret0, o_ret1]
  unfold inR bI
  by_cases h1 : x < 0 <;> by_cases h2 : Int32.ofNat (hs A 3) ≤ x <;> simp [h1, h2]
theorem MH.isPerson {μ : dtM} {A : aH} (H : MH μ 0 0 A) (x : Int32) : f_X12_isPerson 133 x μ = some (bI (inR x (hs A 3)), μ) := by
  have e := H.g3
  rw [show Int32.ofNat 3 = (3 : Int32) from rfl] at e
  simp only [f_X12_isPerson, f_X12_isPerson_18, f_X12_isPerson_19, H.r0, e, o_bind, o_ret0, o_ret1]
  unfold inR bI
  by_cases h1 : x < 0 <;> by_cases h2 : Int32.ofNat (hs A 3) ≤ x <;> simp [h1, h2]
theorem PH.isOpen {μ : dtM} {h : Nat} {A : aH} (H : PH μ h A) {d : Nat} (q : d < 32) : f_X3_isOpen h (Int32.ofNat d) μ = some (bI ((hs A 5).testBit d), μ) := by
  have := H.op1
  simp only [f_X3_isOpen, H.g5, o_bind, f_contains (show hs A 5 < 2147483648 by omega) q, o_call, o_bI]
theorem MH.isOpen {μ : dtM} {A : aH} (H : MH μ 0 0 A) {d : Nat} (q : d < 32) : f_X12_isOpen 133 (Int32.ofNat d) μ = some (bI ((hs A 5).testBit d), μ) := by
  have := H.op1
  have e := H.g5
  simp only [f_X12_isOpen, z_lit, H.r0, H.rv, e, o_bind, f_isIn (show hs A 5 < 2147483648 by omega) q, o_call, o_bI]
/-- the rooms of a door, as a set -/
def hBo (A : aH) (d : Nat) : Nat := 2 ^ ht A 0 d ||| 2 ^ ht A 1 d
theorem PH.roomsOfDoor {μ : dtM} {h : Nat} {A : aH} (H : PH μ h A) {d : Nat} (q : d < hs A 1) : f_X3_roomsOfDoor h (Int32.ofNat d) μ = some (Int32.ofNat (hBo A d), μ) := by
  have := H.nr
  have := (H.door q).1
  have := (H.door q).2.1
  simp only [f_X3_roomsOfDoor, H.r9, H.r10, H.l0 q, H.l1 q, o_bind, z_lit, z_bit (show ht A 0 d < 32 by omega), z_bit (show ht A 1 d < 32 by omega), z_or]
  rfl
def hAt (A : aH) (p d : Nat) : Bool := decide (ht A 8 p = ht A 0 d) || decide (ht A 8 p = ht A 1 d)
theorem PH.isAt {μ : dtM} {h : Nat} {A : aH} (H : PH μ h A) {p d : Nat} (hp : p < hs A 3) (hd : d < hs A 1) : f_X3_isAt h (Int32.ofNat p) (Int32.ofNat d) μ = some (bI (hAt A p d), μ) := by
  have := H.nr
  have := H.np
  have := H.nd
  have := (H.door hd).1
  have := (H.door hd).2.1
  have := (H.pers hp).1
  simp only [f_X3_isAt, f_X3_isAt_16, f_X3_isAt_45, f_X3_isAt_50, z_lit, H.rv, H.r9, H.r10, H.r14, H.l0 hd, H.l1 hd, H.l8 hp, o_bind, o_call, H.hasPerson, H.hasDoor, inR_n (show hs A 3 < 2147483648 by omega) (show p < 2147483648 by omega), inR_n (show hs A 1 < 2147483648 by omega) (show d < 2147483648 by omega), decide_eq_true hp, decide_eq_true hd, b0, o_ret0', o_ret1']
  simp only [Bool.true_eq_false, if_false, z_eq (show ht A 8 p < 2147483648 by omega) (show ht A 0 d < 2147483648 by omega), z_eq (show ht A 8 p < 2147483648 by omega) (show ht A 1 d < 2147483648 by omega)]
  unfold hAt
  by_cases h1 : ht A 8 p = ht A 0 d <;> by_cases h2 : ht A 8 p = ht A 1 d <;> simp [h1, h2]
theorem MH.isBy {μ : dtM} {A : aH} (H : MH μ 0 0 A) {p d : Nat} (hp : p < hs A 3) (hd : d < hs A 1) : f_X12_isBy 133 (Int32.ofNat p) (Int32.ofNat d) μ = some (bI (hAt A p d), μ) := by
  have := H.nr
  have := (H.door hd).1
  have := (H.door hd).2.1
  have := (H.pers hp).1
  simp only [f_X12_isBy, f_X12_isBy_30, f_X12_isBy_35, z_lit, H.rv, H.personOf (k := 0) (by decide) hp, H.doorOf (t := 0) (by decide) hd, H.doorOf (t := 1) (by decide) hd, o_bind, o_call, o_ret0', o_ret1']
  simp only [Nat.add_zero, z_eq (show ht A 8 p < 2147483648 by omega) (show ht A 0 d < 2147483648 by omega), z_eq (show ht A 8 p < 2147483648 by omega) (show ht A 1 d < 2147483648 by omega)]
  unfold hAt
  by_cases h1 : ht A 8 p = ht A 0 d <;> by_cases h2 : ht A 8 p = ht A 1 d <;> simp [h1, h2]
theorem MH.isAt {μ : dtM} {A : aH} (H : MH μ 0 0 A) {s d : Nat} (hs' : s < 2147483648) (hd : d < hs A 1) : f_X12_isAt 133 (Int32.ofNat s) (Int32.ofNat d) μ = some (bI (s.testBit (ht A 0 d) || s.testBit (ht A 1 d)), μ) := by
  have := H.nr
  have := (H.door hd).1
  have := (H.door hd).2.1
  simp only [f_X12_isAt, f_X12_isAt_28, f_X12_isAt_33, z_lit, H.rv, H.doorOf (t := 0) (by decide) hd, H.doorOf (t := 1) (by decide) hd, o_bind, o_call, f_isIn hs' (show ht A 0 d < 32 by omega), f_isIn hs' (show ht A 1 d < 32 by omega), o_ret0', o_ret1', b0]
  cases s.testBit (ht A 0 d) <;> cases s.testBit (ht A 1 d) <;> rfl
theorem PH.soundOfWord {μ : dtM} {h : Nat} {A : aH} (H : PH μ h A) {w k : Nat} (q : w < hs A 2) (hk : k < ht A 3 w) : f_X3_soundOfWord h (Int32.ofNat w) (Int32.ofNat k) μ = some (Int32.ofNat (ht A (4 + k) w), μ) := by
  simp only [f_X3_soundOfWord, z_lit, z_mul, z_add, H.r13, o_bind, H.l4 q hk]
