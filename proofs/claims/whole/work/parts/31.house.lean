/-! PURE 2: the ops at naturals; an abstract house -/
theorem o_GI {ci j k : Nat} {μ : dtM} (h : dtS μ k = (0, ci)) : opGI ci j μ k = some (dtI μ k j) := if_pos h
theorem o_GJ {ci j k : Nat} {μ : dtM} (h : dtS μ k = (0, ci)) : opGJ ci j μ k = some (dtJ μ k j) := if_pos h
theorem o_GR {ci j k v : Nat} {μ : dtM} (h : dtS μ k = (0, ci)) (hv : dtR μ k j = some v) : opGR ci j μ k = some v := (if_pos h).trans hv
theorem o_PI {ci j k : Nat} {μ : dtM} {v : Int32} (h : dtS μ k = (0, ci)) : opPI ci j μ k v = some (dtSI μ k j v) := if_pos h
theorem o_PJ {ci j k : Nat} {μ : dtM} {v : Int64} (h : dtS μ k = (0, ci)) : opPJ ci j μ k v = some (dtSJ μ k j v) := if_pos h
theorem o_PR {ci j k v : Nat} {μ : dtM} (h : dtS μ k = (0, ci)) (hv : v < 1000000) : opPR ci j μ k v = some (dtSR μ k j (some v)) := if_pos ⟨h, hv⟩
theorem o_PZ0 {ci j k : Nat} {μ : dtM} (h : dtS μ k = (0, ci)) : opPZ ci j μ k (0 : Int32) = some (dtSI μ k j 0) := if_pos ⟨h, Or.inl rfl⟩
theorem o_PZ1 {ci j k : Nat} {μ : dtM} (h : dtS μ k = (0, ci)) : opPZ ci j μ k (1 : Int32) = some (dtSI μ k j 1) := if_pos ⟨h, Or.inr rfl⟩
theorem o_Rv {ci k : Nat} {μ : dtM} (h : dtS μ k = (0, ci)) : opRv ci μ k = some () := if_pos h
theorem o_Lt {k : Nat} (h : k < 1000000) : opLt k = some () := if_pos h
theorem o_ix {i n : Nat} (hi : i < n) (hn : n < 2147483648) : ¬ (Int32.ofNat i < 0 ∨ n ≤ (Int32.ofNat i).toNatClampNeg) := by
  rw [z_cl (Nat.lt_trans hi hn), show (0 : Int32) = Int32.ofNat 0 from rfl, z_lt (Nat.lt_trans hi hn) (by decide)]
  omega
theorem o_LI {t n k i : Nat} {μ : dtM} (h : dtS μ k = (t, n)) (hi : i < n) (hn : n < 2147483648) : opLI t μ k (Int32.ofNat i) = some (dtI μ k i) := by
  rw [opLI, h, if_pos ⟨rfl, o_ix hi hn⟩, z_cl (Nat.lt_trans hi hn)]
theorem o_LJ {t n k i : Nat} {μ : dtM} (h : dtS μ k = (t, n)) (hi : i < n) (hn : n < 2147483648) : opLJ t μ k (Int32.ofNat i) = some (dtJ μ k i) := by
  rw [opLJ, h, if_pos ⟨rfl, o_ix hi hn⟩, z_cl (Nat.lt_trans hi hn)]
theorem o_LR {t n k i v : Nat} {μ : dtM} (h : dtS μ k = (t, n)) (hi : i < n) (hn : n < 2147483648) (hv : dtR μ k i = some v) : opLR t μ k (Int32.ofNat i) = some v := by
  rw [opLR, h, if_pos ⟨rfl, o_ix hi hn⟩, z_cl (Nat.lt_trans hi hn), hv]
theorem o_SI {n k i : Nat} {μ : dtM} {v : Int32} (h : dtS μ k = (1, n)) (hi : i < n) (hn : n < 2147483648) : opSI μ k (Int32.ofNat i) v = some (dtSI μ k i v) := by
  rw [opSI, h, if_pos ⟨rfl, o_ix hi hn⟩, z_cl (Nat.lt_trans hi hn)]
theorem o_SB {n k i : Nat} {μ : dtM} {v : Int32} (h : dtS μ k = (2, n)) (hi : i < n) (hn : n < 2147483648) : opSB μ k (Int32.ofNat i) v = some (dtSI μ k i (vp_nar .byte v)) := by
  rw [opSB, h, if_pos ⟨rfl, o_ix hi hn⟩, z_cl (Nat.lt_trans hi hn)]
theorem o_SJ {n k i : Nat} {μ : dtM} {v : Int64} (h : dtS μ k = (3, n)) (hi : i < n) (hn : n < 2147483648) : opSJ μ k (Int32.ofNat i) v = some (dtSJ μ k i v) := by
  rw [opSJ, h, if_pos ⟨rfl, o_ix hi hn⟩, z_cl (Nat.lt_trans hi hn)]
theorem o_AL {t n k : Nat} {μ : dtM} (h : dtS μ k = (t, n)) (h1 : 0 < t ∧ t < 7) : opAL μ k = some (Int32.ofNat n) := by
  rw [opAL, h, if_pos h1]
theorem o_ret0 {μ : dtM} : opRet (0 : Int32) μ = some (0, μ) := if_pos (Or.inl rfl)
theorem o_ret1 {μ : dtM} : opRet (1 : Int32) μ = some (1, μ) := if_pos (Or.inr rfl)
theorem o_call {α β : Type} {v : α} {μ : dtM} {f : α → dtM → Option β} : opCall (some (v, μ)) f = f v μ := rfl
theorem o_bind {α β : Type} {v : α} {f : α → Option β} : (some v).bind f = f v := rfl
/-- a truth as the code has it -/
def bI (b : Bool) : Int32 := if b = true then 1 else 0
theorem o_bI {b : Bool} {μ : dtM} : opRet (bI b) μ = some (bI b, μ) := by cases b <;> first | exact o_ret0 | exact o_ret1
theorem bI0 {b : Bool} : (bI b = 0) = (b = false) := by cases b <;> simp [bI]
theorem bI1 {b : Bool} : (bI b = 1) = (b = true) := by cases b <;> simp [bI]
/-! an abstract house: the scalars 0 rooms, 1 doors, 2 words, 3 persons, 4 odds, 5 the open doors; the table: of doors 0 one room, 1 the other, 2 baize; of words 3 how many sounds, 4-7 they; of persons 8 room, 9 deaf, 10 knows, 11 how many heard, 12-19 they; made; the names of rooms, of persons -/
abbrev aH : Type := (Nat → Nat) × (Nat → Nat → Nat) × Int32 × (Nat → List Nat) × (Nat → List Nat)
def hs (A : aH) (j : Nat) : Nat := A.1 j
def ht (A : aH) (t i : Nat) : Nat := A.2.1 t i
def hm (A : aH) : Int32 := A.2.2.1
def hrn (A : aH) (i : Nat) : List Nat := A.2.2.2.1 i
def hpn (A : aH) (i : Nat) : List Nat := A.2.2.2.2 i
def hok (A : aH) (t i : Nat) : Prop := (t < 3 ∧ i < hs A 1) ∨ (t = 3 ∧ i < hs A 2) ∨ ((4 ≤ t ∧ t < 8) ∧ i < hs A 2 ∧ t - 4 < ht A 3 i) ∨ ((8 ≤ t ∧ t < 12) ∧ i < hs A 3) ∨ ((12 ≤ t ∧ t < 20) ∧ i < hs A 3 ∧ t - 12 < ht A 11 i)
def nOk (l : List Nat) : Prop := l.length ≤ 8 ∧ ∀ c ∈ l, 1 ≤ c ∧ c ≤ 26
def hWF (A : aH) : Prop :=
  (hs A 0 ≤ 7 ∧ hs A 1 ≤ 10 ∧ hs A 2 ≤ 7 ∧ hs A 3 ≤ 5 ∧ hs A 4 ≤ 16 ∧ hs A 5 < 2 ^ hs A 1) ∧
  (∀ d, d < hs A 1 → ht A 0 d < hs A 0 ∧ ht A 1 d < hs A 0 ∧ ¬ ht A 0 d = ht A 1 d ∧ ht A 2 d ≤ 9) ∧
  (∀ w, w < hs A 2 → 1 ≤ ht A 3 w ∧ ht A 3 w ≤ 4 ∧ ∀ k, k < ht A 3 w → ht A (4 + k) w < 4) ∧
  (∀ p, p < hs A 3 → ht A 8 p < hs A 0 ∧ ht A 9 p ≤ 9 ∧ ht A 10 p < 2 ^ hs A 2 ∧ ht A 11 p ≤ 8 ∧ ∀ k, k < ht A 11 p → ht A (12 + k) p < 4) ∧
  (∀ r, r < hs A 0 → nOk (hrn A r)) ∧ (∀ p, p < hs A 3 → nOk (hpn A p))
def n32 (l : List Nat) : Int64 := l.foldl (fun v c => v * 32 + Int64.ofNat c) 0
def n256 (l : List Nat) : Int64 := l.foldl (fun v c => (v <<< 8) ||| Int64.ofNat (96 + c)) 0
/-! the program's house at the cell h -/
def pRow (h t : Nat) : Nat := if t < 3 then h + 3 + t else if t = 3 then h + 6 else if t < 8 then h + 7 else if t < 12 then h + t else h + 12
def pIdx (t i : Nat) : Nat := if 4 ≤ t ∧ t < 8 then 4 * i + (t - 4) else if 12 ≤ t then 8 * i + (t - 12) else i
def pSh (μ : dtM) (h : Nat) : Prop :=
  (dtS μ h = (0, 3) ∧ dtS μ (h + 1) = (3, 7) ∧ dtS μ (h + 2) = (3, 5)) ∧ (dtS μ (h + 3) = (1, 10) ∧ dtS μ (h + 4) = (1, 10) ∧ dtS μ (h + 5) = (1, 10)) ∧ (dtS μ (h + 6) = (1, 7) ∧ dtS μ (h + 7) = (1, 28)) ∧
  (dtS μ (h + 8) = (1, 5) ∧ dtS μ (h + 9) = (1, 5) ∧ dtS μ (h + 10) = (1, 5) ∧ dtS μ (h + 11) = (1, 5)) ∧ dtS μ (h + 12) = (1, 40) ∧
  (dtR μ h 7 = some (h + 1) ∧ dtR μ h 8 = some (h + 2) ∧ dtR μ h 9 = some (h + 3) ∧ dtR μ h 10 = some (h + 4) ∧ dtR μ h 11 = some (h + 5) ∧ dtR μ h 12 = some (h + 6) ∧ dtR μ h 13 = some (h + 7) ∧ dtR μ h 14 = some (h + 8) ∧ dtR μ h 15 = some (h + 9) ∧ dtR μ h 16 = some (h + 10) ∧ dtR μ h 17 = some (h + 11) ∧ dtR μ h 18 = some (h + 12))
def pV (μ : dtM) (h : Nat) (A : aH) : Prop :=
  (∀ j, j < 6 → dtI μ h j = Int32.ofNat (hs A j)) ∧ dtI μ h 6 = hm A ∧ (∀ t i, hok A t i → dtI μ (pRow h t) (pIdx t i) = Int32.ofNat (ht A t i)) ∧
  (∀ r, r < hs A 0 → dtJ μ (h + 1) r = n32 (hrn A r)) ∧ (∀ p, p < hs A 3 → dtJ μ (h + 2) p = n32 (hpn A p))
def PH (μ : dtM) (h : Nat) (A : aH) : Prop := pSh μ h ∧ pV μ h A ∧ hWF A
theorem PH.s0 {μ : dtM} {h : Nat} {A : aH} (H : PH μ h A) : dtS μ h = (0, 3) := H.1.1.1
theorem PH.s1 {μ : dtM} {h : Nat} {A : aH} (H : PH μ h A) : dtS μ (h + 1) = (3, 7) := H.1.1.2.1
theorem PH.s2 {μ : dtM} {h : Nat} {A : aH} (H : PH μ h A) : dtS μ (h + 2) = (3, 5) := H.1.1.2.2
theorem PH.s3 {μ : dtM} {h : Nat} {A : aH} (H : PH μ h A) : dtS μ (h + 3) = (1, 10) := H.1.2.1.1
theorem PH.s4 {μ : dtM} {h : Nat} {A : aH} (H : PH μ h A) : dtS μ (h + 4) = (1, 10) := H.1.2.1.2.1
theorem PH.s5 {μ : dtM} {h : Nat} {A : aH} (H : PH μ h A) : dtS μ (h + 5) = (1, 10) := H.1.2.1.2.2
theorem PH.s6 {μ : dtM} {h : Nat} {A : aH} (H : PH μ h A) : dtS μ (h + 6) = (1, 7) := H.1.2.2.1.1
theorem PH.s7 {μ : dtM} {h : Nat} {A : aH} (H : PH μ h A) : dtS μ (h + 7) = (1, 28) := H.1.2.2.1.2
theorem PH.s8 {μ : dtM} {h : Nat} {A : aH} (H : PH μ h A) : dtS μ (h + 8) = (1, 5) := H.1.2.2.2.1.1
theorem PH.s9 {μ : dtM} {h : Nat} {A : aH} (H : PH μ h A) : dtS μ (h + 9) = (1, 5) := H.1.2.2.2.1.2.1
theorem PH.s10 {μ : dtM} {h : Nat} {A : aH} (H : PH μ h A) : dtS μ (h + 10) = (1, 5) := H.1.2.2.2.1.2.2.1
theorem PH.s11 {μ : dtM} {h : Nat} {A : aH} (H : PH μ h A) : dtS μ (h + 11) = (1, 5) := H.1.2.2.2.1.2.2.2
theorem PH.s12 {μ : dtM} {h : Nat} {A : aH} (H : PH μ h A) : dtS μ (h + 12) = (1, 40) := H.1.2.2.2.2.1
theorem PH.r7 {μ : dtM} {h : Nat} {A : aH} (H : PH μ h A) : opGR 3 7 μ h = some (h + 1) := o_GR H.s0 H.1.2.2.2.2.2.1
theorem PH.r8 {μ : dtM} {h : Nat} {A : aH} (H : PH μ h A) : opGR 3 8 μ h = some (h + 2) := o_GR H.s0 H.1.2.2.2.2.2.2.1
theorem PH.r9 {μ : dtM} {h : Nat} {A : aH} (H : PH μ h A) : opGR 3 9 μ h = some (h + 3) := o_GR H.s0 H.1.2.2.2.2.2.2.2.1
theorem PH.r10 {μ : dtM} {h : Nat} {A : aH} (H : PH μ h A) : opGR 3 10 μ h = some (h + 4) := o_GR H.s0 H.1.2.2.2.2.2.2.2.2.1
theorem PH.r11 {μ : dtM} {h : Nat} {A : aH} (H : PH μ h A) : opGR 3 11 μ h = some (h + 5) := o_GR H.s0 H.1.2.2.2.2.2.2.2.2.2.1
theorem PH.r12 {μ : dtM} {h : Nat} {A : aH} (H : PH μ h A) : opGR 3 12 μ h = some (h + 6) := o_GR H.s0 H.1.2.2.2.2.2.2.2.2.2.2.1
theorem PH.r13 {μ : dtM} {h : Nat} {A : aH} (H : PH μ h A) : opGR 3 13 μ h = some (h + 7) := o_GR H.s0 H.1.2.2.2.2.2.2.2.2.2.2.2.1
theorem PH.r14 {μ : dtM} {h : Nat} {A : aH} (H : PH μ h A) : opGR 3 14 μ h = some (h + 8) := o_GR H.s0 H.1.2.2.2.2.2.2.2.2.2.2.2.2.1
theorem PH.r15 {μ : dtM} {h : Nat} {A : aH} (H : PH μ h A) : opGR 3 15 μ h = some (h + 9) := o_GR H.s0 H.1.2.2.2.2.2.2.2.2.2.2.2.2.2.1
theorem PH.r16 {μ : dtM} {h : Nat} {A : aH} (H : PH μ h A) : opGR 3 16 μ h = some (h + 10) := o_GR H.s0 H.1.2.2.2.2.2.2.2.2.2.2.2.2.2.2.1
theorem PH.r17 {μ : dtM} {h : Nat} {A : aH} (H : PH μ h A) : opGR 3 17 μ h = some (h + 11) := o_GR H.s0 H.1.2.2.2.2.2.2.2.2.2.2.2.2.2.2.2.1
theorem PH.r18 {μ : dtM} {h : Nat} {A : aH} (H : PH μ h A) : opGR 3 18 μ h = some (h + 12) := o_GR H.s0 H.1.2.2.2.2.2.2.2.2.2.2.2.2.2.2.2.2
theorem PH.g0 {μ : dtM} {h : Nat} {A : aH} (H : PH μ h A) : opGI 3 0 μ h = some (Int32.ofNat (hs A 0)) := by rw [o_GI H.s0, H.2.1.1 0 (by decide)]
theorem PH.g1 {μ : dtM} {h : Nat} {A : aH} (H : PH μ h A) : opGI 3 1 μ h = some (Int32.ofNat (hs A 1)) := by rw [o_GI H.s0, H.2.1.1 1 (by decide)]
theorem PH.g2 {μ : dtM} {h : Nat} {A : aH} (H : PH μ h A) : opGI 3 2 μ h = some (Int32.ofNat (hs A 2)) := by rw [o_GI H.s0, H.2.1.1 2 (by decide)]
theorem PH.g3 {μ : dtM} {h : Nat} {A : aH} (H : PH μ h A) : opGI 3 3 μ h = some (Int32.ofNat (hs A 3)) := by rw [o_GI H.s0, H.2.1.1 3 (by decide)]
theorem PH.g4 {μ : dtM} {h : Nat} {A : aH} (H : PH μ h A) : opGI 3 4 μ h = some (Int32.ofNat (hs A 4)) := by rw [o_GI H.s0, H.2.1.1 4 (by decide)]
theorem PH.g5 {μ : dtM} {h : Nat} {A : aH} (H : PH μ h A) : opGI 3 5 μ h = some (Int32.ofNat (hs A 5)) := by rw [o_GI H.s0, H.2.1.1 5 (by decide)]
theorem PH.g6 {μ : dtM} {h : Nat} {A : aH} (H : PH μ h A) : opGI 3 6 μ h = some (hm A) := by rw [o_GI H.s0, H.2.1.2.1]
theorem PH.rv {μ : dtM} {h : Nat} {A : aH} (H : PH μ h A) : opRv 3 μ h = some () := o_Rv H.s0
theorem PH.tab {μ : dtM} {h : Nat} {A : aH} (H : PH μ h A) {t i : Nat} (q : hok A t i) : dtI μ (pRow h t) (pIdx t i) = Int32.ofNat (ht A t i) := H.2.1.2.2.1 t i q
theorem PH.nr {μ : dtM} {h : Nat} {A : aH} (H : PH μ h A) : hs A 0 ≤ 7 := H.2.2.1.1
theorem PH.nd {μ : dtM} {h : Nat} {A : aH} (H : PH μ h A) : hs A 1 ≤ 10 := H.2.2.1.2.1
theorem PH.nw {μ : dtM} {h : Nat} {A : aH} (H : PH μ h A) : hs A 2 ≤ 7 := H.2.2.1.2.2.1
theorem PH.np {μ : dtM} {h : Nat} {A : aH} (H : PH μ h A) : hs A 3 ≤ 5 := H.2.2.1.2.2.2.1
theorem PH.od {μ : dtM} {h : Nat} {A : aH} (H : PH μ h A) : hs A 4 ≤ 16 := H.2.2.1.2.2.2.2.1
theorem PH.op {μ : dtM} {h : Nat} {A : aH} (H : PH μ h A) : hs A 5 < 2 ^ hs A 1 := H.2.2.1.2.2.2.2.2
theorem PH.op1 {μ : dtM} {h : Nat} {A : aH} (H : PH μ h A) : hs A 5 < 1024 := Nat.lt_of_lt_of_le H.op (Nat.pow_le_pow_right (by decide) H.nd)
theorem PH.door {μ : dtM} {h : Nat} {A : aH} (H : PH μ h A) {d : Nat} (q : d < hs A 1) : ht A 0 d < hs A 0 ∧ ht A 1 d < hs A 0 ∧ ¬ ht A 0 d = ht A 1 d ∧ ht A 2 d ≤ 9 := H.2.2.2.1 d q
theorem PH.word {μ : dtM} {h : Nat} {A : aH} (H : PH μ h A) {w : Nat} (q : w < hs A 2) : 1 ≤ ht A 3 w ∧ ht A 3 w ≤ 4 ∧ ∀ k, k < ht A 3 w → ht A (4 + k) w < 4 := H.2.2.2.2.1 w q
theorem PH.pers {μ : dtM} {h : Nat} {A : aH} (H : PH μ h A) {p : Nat} (q : p < hs A 3) : ht A 8 p < hs A 0 ∧ ht A 9 p ≤ 9 ∧ ht A 10 p < 2 ^ hs A 2 ∧ ht A 11 p ≤ 8 ∧ ∀ k, k < ht A 11 p → ht A (12 + k) p < 4 := H.2.2.2.2.2.1 p q
theorem PH.l0 {μ : dtM} {h : Nat} {A : aH} (H : PH μ h A) {d : Nat} (q : d < hs A 1) : opLI 1 μ (h + 3) (Int32.ofNat d) = some (Int32.ofNat (ht A 0 d)) := by
  have := H.nd
  rw [o_LI H.s3 (by omega) (by decide)]
  exact congrArg some (H.tab (t := 0) (i := d) (Or.inl ⟨by decide, q⟩))
theorem PH.l1 {μ : dtM} {h : Nat} {A : aH} (H : PH μ h A) {d : Nat} (q : d < hs A 1) : opLI 1 μ (h + 4) (Int32.ofNat d) = some (Int32.ofNat (ht A 1 d)) := by
  have := H.nd
  rw [o_LI H.s4 (by omega) (by decide)]
  exact congrArg some (H.tab (t := 1) (i := d) (Or.inl ⟨by decide, q⟩))
theorem PH.l2 {μ : dtM} {h : Nat} {A : aH} (H : PH μ h A) {d : Nat} (q : d < hs A 1) : opLI 1 μ (h + 5) (Int32.ofNat d) = some (Int32.ofNat (ht A 2 d)) := by
  have := H.nd
  rw [o_LI H.s5 (by omega) (by decide)]
  exact congrArg some (H.tab (t := 2) (i := d) (Or.inl ⟨by decide, q⟩))
theorem PH.l3 {μ : dtM} {h : Nat} {A : aH} (H : PH μ h A) {w : Nat} (q : w < hs A 2) : opLI 1 μ (h + 6) (Int32.ofNat w) = some (Int32.ofNat (ht A 3 w)) := by
  have := H.nw
  rw [o_LI H.s6 (by omega) (by decide)]
  exact congrArg some (H.tab (t := 3) (i := w) (Or.inr (Or.inl ⟨rfl, q⟩)))
theorem PH.l4 {μ : dtM} {h : Nat} {A : aH} (H : PH μ h A) {w k : Nat} (q : w < hs A 2) (hk : k < ht A 3 w) : opLI 1 μ (h + 7) (Int32.ofNat (w * 4 + k)) = some (Int32.ofNat (ht A (4 + k) w)) := by
  have := H.nw
  have := (H.word q).2.1
  rw [o_LI H.s7 (by omega) (by decide)]
  have e := H.tab (t := 4 + k) (i := w) (Or.inr (Or.inr (Or.inl ⟨by omega, q, by omega⟩)))
  rw [pRow, if_neg (by omega), if_neg (by omega), if_pos (by omega), pIdx, if_pos (by omega), show 4 * w + (4 + k - 4) = w * 4 + k by omega] at e
  exact congrArg some e
theorem PH.l8 {μ : dtM} {h : Nat} {A : aH} (H : PH μ h A) {p : Nat} (q : p < hs A 3) : opLI 1 μ (h + 8) (Int32.ofNat p) = some (Int32.ofNat (ht A 8 p)) := by
  have := H.np
  rw [o_LI H.s8 (by omega) (by decide)]
  exact congrArg some (H.tab (t := 8) (i := p) (Or.inr (Or.inr (Or.inr (Or.inl ⟨by decide, q⟩)))))
theorem PH.l9 {μ : dtM} {h : Nat} {A : aH} (H : PH μ h A) {p : Nat} (q : p < hs A 3) : opLI 1 μ (h + 9) (Int32.ofNat p) = some (Int32.ofNat (ht A 9 p)) := by
  have := H.np
  rw [o_LI H.s9 (by omega) (by decide)]
  exact congrArg some (H.tab (t := 9) (i := p) (Or.inr (Or.inr (Or.inr (Or.inl ⟨by decide, q⟩)))))
theorem PH.l10 {μ : dtM} {h : Nat} {A : aH} (H : PH μ h A) {p : Nat} (q : p < hs A 3) : opLI 1 μ (h + 10) (Int32.ofNat p) = some (Int32.ofNat (ht A 10 p)) := by
  have := H.np
  rw [o_LI H.s10 (by omega) (by decide)]
  exact congrArg some (H.tab (t := 10) (i := p) (Or.inr (Or.inr (Or.inr (Or.inl ⟨by decide, q⟩)))))
theorem PH.l11 {μ : dtM} {h : Nat} {A : aH} (H : PH μ h A) {p : Nat} (q : p < hs A 3) : opLI 1 μ (h + 11) (Int32.ofNat p) = some (Int32.ofNat (ht A 11 p)) := by
  have := H.np
  rw [o_LI H.s11 (by omega) (by decide)]
  exact congrArg some (H.tab (t := 11) (i := p) (Or.inr (Or.inr (Or.inr (Or.inl ⟨by decide, q⟩)))))
theorem PH.l12 {μ : dtM} {h : Nat} {A : aH} (H : PH μ h A) {p k : Nat} (q : p < hs A 3) (hk : k < ht A 11 p) : opLI 1 μ (h + 12) (Int32.ofNat (p * 8 + k)) = some (Int32.ofNat (ht A (12 + k) p)) := by
  have := H.np
  have := (H.pers q).2.2.2.1
  rw [o_LI H.s12 (by omega) (by decide)]
  have e := H.tab (t := 12 + k) (i := p) (Or.inr (Or.inr (Or.inr (Or.inr ⟨by omega, q, by omega⟩))))
  rw [pRow, if_neg (by omega), if_neg (by omega), if_neg (by omega), if_neg (by omega), pIdx, if_neg (by omega), if_pos (by omega), show 8 * p + (12 + k - 12) = p * 8 + k by omega] at e
  exact congrArg some e
/-! the model's house at slot base b of its row 'at' (cell 134) -/
def mIdx (t i : Nat) : Nat := if t < 3 then 10 + 3 * i + t else if t < 8 then 40 + 5 * i + (t - 3) else 75 + 12 * i + (t - 8)
def mSh (μ : dtM) : Prop := dtS μ 133 = (0, 12) ∧ dtR μ 133 0 = some 134 ∧ dtS μ 134 = (1, 2656) ∧ dtR μ 133 1 = some 135 ∧ dtS μ 135 = (3, 114)
def mV (μ : dtM) (b nb : Nat) (A : aH) : Prop :=
  (∀ j, j < 6 → dtI μ 134 (b + j) = Int32.ofNat (hs A j)) ∧ dtI μ 134 (b + 6) = hm A ∧ (∀ t i, hok A t i → dtI μ 134 (b + mIdx t i) = Int32.ofNat (ht A t i)) ∧
  (∀ w k, w < hs A 2 → ht A 3 w ≤ k → k < 4 → dtI μ 134 (b + mIdx (4 + k) w) = Int32.ofNat 0) ∧
  (∀ r, r < hs A 0 → dtJ μ 135 (nb + r) = n256 (hrn A r)) ∧ (∀ p, p < hs A 3 → dtJ μ 135 (nb + 14 + p) = n256 (hpn A p))
def MH (μ : dtM) (b nb : Nat) (A : aH) : Prop := mSh μ ∧ mV μ b nb A ∧ hWF A
theorem MH.r0 {μ : dtM} {A : aH} (H : MH μ 0 0 A) : opGR 12 0 μ 133 = some 134 := o_GR H.1.1 H.1.2.1
theorem MH.rv {μ : dtM} {A : aH} (H : MH μ 0 0 A) : opRv 12 μ 133 = some () := o_Rv H.1.1
theorem MH.s {μ : dtM} {A : aH} (H : MH μ 0 0 A) : dtS μ 134 = (1, 2656) := H.1.2.2.1
theorem MH.nr {μ : dtM} {A : aH} (H : MH μ 0 0 A) : hs A 0 ≤ 7 := H.2.2.1.1
theorem MH.nd {μ : dtM} {A : aH} (H : MH μ 0 0 A) : hs A 1 ≤ 10 := H.2.2.1.2.1
theorem MH.nw {μ : dtM} {A : aH} (H : MH μ 0 0 A) : hs A 2 ≤ 7 := H.2.2.1.2.2.1
theorem MH.np {μ : dtM} {A : aH} (H : MH μ 0 0 A) : hs A 3 ≤ 5 := H.2.2.1.2.2.2.1
theorem MH.od {μ : dtM} {A : aH} (H : MH μ 0 0 A) : hs A 4 ≤ 16 := H.2.2.1.2.2.2.2.1
theorem MH.op {μ : dtM} {A : aH} (H : MH μ 0 0 A) : hs A 5 < 2 ^ hs A 1 := H.2.2.1.2.2.2.2.2
theorem MH.op1 {μ : dtM} {A : aH} (H : MH μ 0 0 A) : hs A 5 < 1024 := Nat.lt_of_lt_of_le H.op (Nat.pow_le_pow_right (by decide) H.nd)
theorem MH.door {μ : dtM} {A : aH} (H : MH μ 0 0 A) {d : Nat} (q : d < hs A 1) : ht A 0 d < hs A 0 ∧ ht A 1 d < hs A 0 ∧ ¬ ht A 0 d = ht A 1 d ∧ ht A 2 d ≤ 9 := H.2.2.2.1 d q
theorem MH.word {μ : dtM} {A : aH} (H : MH μ 0 0 A) {w : Nat} (q : w < hs A 2) : 1 ≤ ht A 3 w ∧ ht A 3 w ≤ 4 ∧ ∀ k, k < ht A 3 w → ht A (4 + k) w < 4 := H.2.2.2.2.1 w q
theorem MH.pers {μ : dtM} {A : aH} (H : MH μ 0 0 A) {p : Nat} (q : p < hs A 3) : ht A 8 p < hs A 0 ∧ ht A 9 p ≤ 9 ∧ ht A 10 p < 2 ^ hs A 2 ∧ ht A 11 p ≤ 8 ∧ ∀ k, k < ht A 11 p → ht A (12 + k) p < 4 := H.2.2.2.2.2.1 p q
theorem MH.g0 {μ : dtM} {A : aH} (H : MH μ 0 0 A) : opLI 1 μ 134 (Int32.ofNat 0) = some (Int32.ofNat (hs A 0)) := by
  have e := H.2.1.1 0 (by decide)
  rw [Nat.zero_add] at e
  rw [o_LI H.s (by decide) (by decide), e]
theorem MH.g1 {μ : dtM} {A : aH} (H : MH μ 0 0 A) : opLI 1 μ 134 (Int32.ofNat 1) = some (Int32.ofNat (hs A 1)) := by
  have e := H.2.1.1 1 (by decide)
  rw [Nat.zero_add] at e
  rw [o_LI H.s (by decide) (by decide), e]
theorem MH.g2 {μ : dtM} {A : aH} (H : MH μ 0 0 A) : opLI 1 μ 134 (Int32.ofNat 2) = some (Int32.ofNat (hs A 2)) := by
  have e := H.2.1.1 2 (by decide)
  rw [Nat.zero_add] at e
  rw [o_LI H.s (by decide) (by decide), e]
theorem MH.g3 {μ : dtM} {A : aH} (H : MH μ 0 0 A) : opLI 1 μ 134 (Int32.ofNat 3) = some (Int32.ofNat (hs A 3)) := by
  have e := H.2.1.1 3 (by decide)
  rw [Nat.zero_add] at e
  rw [o_LI H.s (by decide) (by decide), e]
theorem MH.g4 {μ : dtM} {A : aH} (H : MH μ 0 0 A) : opLI 1 μ 134 (Int32.ofNat 4) = some (Int32.ofNat (hs A 4)) := by
  have e := H.2.1.1 4 (by decide)
  rw [Nat.zero_add] at e
  rw [o_LI H.s (by decide) (by decide), e]
theorem MH.g5 {μ : dtM} {A : aH} (H : MH μ 0 0 A) : opLI 1 μ 134 (Int32.ofNat 5) = some (Int32.ofNat (hs A 5)) := by
  have e := H.2.1.1 5 (by decide)
  rw [Nat.zero_add] at e
  rw [o_LI H.s (by decide) (by decide), e]
theorem MH.tab {μ : dtM} {A : aH} (H : MH μ 0 0 A) {t i : Nat} (q : hok A t i) : dtI μ 134 (mIdx t i) = Int32.ofNat (ht A t i) := by
  have e := H.2.1.2.2.1 t i q
  rw [Nat.zero_add] at e
  exact e
theorem MH.dl {μ : dtM} {A : aH} (H : MH μ 0 0 A) {t d : Nat} (ht3 : t < 3) (q : d < hs A 1) : opLI 1 μ 134 (Int32.ofNat (10 + 3 * d + t)) = some (Int32.ofNat (ht A t d)) := by
  have := H.nd
  rw [o_LI H.s (by omega) (by decide)]
  have e := H.tab (t := t) (i := d) (Or.inl ⟨ht3, q⟩)
  rw [mIdx, if_pos ht3] at e
  exact congrArg some e
theorem MH.doorOf {μ : dtM} {A : aH} (H : MH μ 0 0 A) {t d : Nat} (ht3 : t < 3) (q : d < hs A 1) : f_X12_doorOf 133 (Int32.ofNat d) (Int32.ofNat t) μ = some (Int32.ofNat (ht A t d), μ) := by
  simp only [f_X12_doorOf, f_X12_doorRow, H.r0, o_bind, o_call, z_lit, z_mul, z_add, H.dl ht3 q]
theorem MH.pl {μ : dtM} {A : aH} (H : MH μ 0 0 A) {t p : Nat} (h8 : 8 ≤ t ∧ t < 12) (q : p < hs A 3) : opLI 1 μ 134 (Int32.ofNat (75 + 12 * p + (t - 8))) = some (Int32.ofNat (ht A t p)) := by
  have := H.np
  rw [o_LI H.s (by omega) (by decide)]
  have e := H.tab (t := t) (i := p) (Or.inr (Or.inr (Or.inr (Or.inl ⟨h8, q⟩))))
  rw [mIdx, if_neg (by omega), if_neg (by omega)] at e
  exact congrArg some e
theorem MH.personOf {μ : dtM} {A : aH} (H : MH μ 0 0 A) {k p : Nat} (hk : k < 4) (q : p < hs A 3) : f_X12_personOf 133 (Int32.ofNat p) (Int32.ofNat k) μ = some (Int32.ofNat (ht A (8 + k) p), μ) := by
  have e := H.pl (t := 8 + k) (by omega) q
  rw [show 8 + k - 8 = k by omega] at e
  simp only [f_X12_personOf, f_X12_personRow, H.r0, o_bind, o_call, z_lit, z_mul, z_add, e]
theorem MH.heardOf {μ : dtM} {A : aH} (H : MH μ 0 0 A) {k p : Nat} (q : p < hs A 3) (hk : k < ht A 11 p) : f_X12_personOf 133 (Int32.ofNat p) (Int32.ofNat (4 + k)) μ = some (Int32.ofNat (ht A (12 + k) p), μ) := by
  have := H.np
  have := (H.pers q).2.2.2.1
  have e := H.tab (t := 12 + k) (i := p) (Or.inr (Or.inr (Or.inr (Or.inr ⟨by omega, q, by omega⟩))))
  rw [mIdx, if_neg (by omega), if_neg (by omega), show 75 + 12 * p + (12 + k - 8) = 75 + 12 * p + (4 + k) by omega] at e
  simp only [f_X12_personOf, f_X12_personRow, H.r0, o_bind, o_call, z_lit, z_mul, z_add]
  rw [o_LI H.s (by omega) (by decide), e]
  rfl
theorem MH.wl {μ : dtM} {A : aH} (H : MH μ 0 0 A) {t w : Nat} (h3 : 3 ≤ t ∧ t < 8) (q : w < hs A 2) (hk : hok A t w) : opLI 1 μ 134 (Int32.ofNat (40 + 5 * w + (t - 3))) = some (Int32.ofNat (ht A t w)) := by
  have := H.nw
  rw [o_LI H.s (by omega) (by decide)]
  have e := H.tab (t := t) (i := w) hk
  rw [mIdx, if_neg (by omega), if_pos (by omega)] at e
  exact congrArg some e
