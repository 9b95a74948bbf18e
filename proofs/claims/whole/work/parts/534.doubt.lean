/-! PURE 74: rows that mean two things: counts from both ends, and what can be begun -/
theorem fo_cg {α : Type} {F G : Nat → α → α} : ∀ (n i : Nat) (a : α), (∀ w b, i ≤ w → w < i + n → F w b = G w b) → fo F n i a = fo G n i a
  | 0, _, _, _ => rfl
  | n + 1, i, a, h => by
    rw [fo, fo, h i a (Nat.le_refl _) (by omega)]
    exact fo_cg n (i + 1) _ (fun w b h1 h2 => h w b (by omega) (by omega))
/-- how many words of k sounds stand in the row from j on -/
def cK (A : aH) (kn : Nat) (row : Nat → Nat) (j k : Nat) : Nat → Nat → Nat
  | 0, _ => 0
  | n + 1, i => (if kn.testBit i = true ∧ ht A 3 i = k ∧ agr A row i j k 0 = true then 1 else 0) + cK A kn row j k n (i + 1)
def dKn (A : aH) (kn : Nat) (row : Nat → Nat) (j k : Nat) : Nat := cK A kn row j k (hs A 2) 0
/-- how many words say what stands from j on, d sounds, and then more -/
def cB (A : aH) (kn : Nat) (row : Nat → Nat) (j d w acc : Nat) : Nat := if kn.testBit w = true ∧ d < ht A 3 w ∧ agr A row w j d 0 = true then acc + 1 else acc
def bK (A : aH) (kn : Nat) (row : Nat → Nat) (j d : Nat) : Nat := fo (cB A kn row j d) (hs A 2) 0 0
theorem cK_step {A : aH} {kn : Nat} {row : Nat → Nat} {j k n i : Nat} : cK A kn row j k (n + 1) i = (if kn.testBit i = true ∧ ht A 3 i = k ∧ agr A row i j k 0 = true then 1 else 0) + cK A kn row j k n (i + 1) := rfl
def rS (A : aH) (kn : Nat) (row : Nat → Nat) (n j : Nat) : Nat := if j ≤ n then rc A kn row n j else 0
theorem rS_in {A : aH} {kn : Nat} {row : Nat → Nat} {n j : Nat} (h : j ≤ n) : rS A kn row n j = rc A kn row n j := if_pos h
theorem rS_out {A : aH} {kn : Nat} {row : Nat → Nat} {n j : Nat} (h : ¬ j ≤ n) : rS A kn row n j = 0 := if_neg h
theorem rW_sum {A : aH} (W : hWF A) {kn m j : Nat} {row : Nat → Nat} : ∀ (n i acc : Nat), i + n ≤ hs A 2 → fo (rcW A kn row m j (rc A kn row m)) n i acc = acc + (cK A kn row j 1 n i * rS A kn row m (j + 1) + cK A kn row j 2 n i * rS A kn row m (j + 2) + cK A kn row j 3 n i * rS A kn row m (j + 3) + cK A kn row j 4 n i * rS A kn row m (j + 4))
  | 0, _, acc, _ => by
    rw [fo, cK, cK, cK, cK]
    simp only [Nat.zero_mul, Nat.add_zero]
  | n + 1, i, acc, e => by
    rw [fo, rW_sum W n (i + 1) _ (by omega), cK_step, cK_step, cK_step, cK_step]
    have hw := W.2.2.1 i (by omega)
    generalize cK A kn row j 1 n (i + 1) = a1
    generalize cK A kn row j 2 n (i + 1) = a2
    generalize cK A kn row j 3 n (i + 1) = a3
    generalize cK A kn row j 4 n (i + 1) = a4
    unfold rcW fit
    have L : ht A 3 i = 1 ∨ ht A 3 i = 2 ∨ ht A 3 i = 3 ∨ ht A 3 i = 4 := by omega
    have key : ∀ l, ht A 3 i = l → (if kn.testBit i = true ∧ (decide (j + ht A 3 i ≤ m) && agr A row i j (ht A 3 i) 0) = true then acc + rc A kn row m (j + ht A 3 i) else acc) = acc + (if kn.testBit i = true ∧ ht A 3 i = l ∧ agr A row i j l 0 = true then 1 else 0) * rS A kn row m (j + l) := fun l hl => by
      rw [hl]
      by_cases t : kn.testBit i = true
      · by_cases g : agr A row i j l 0 = true
        · by_cases q : j + l ≤ m
          · rw [if_pos ⟨t, by rw [decide_eq_true q, g]; rfl⟩, if_pos ⟨t, rfl, g⟩, rS_in q, Nat.one_mul]
          · rw [if_neg (fun x => by rw [decide_eq_false q] at x; cases x.2), if_pos ⟨t, rfl, g⟩, rS_out q, Nat.mul_zero, Nat.add_zero]
        · rw [if_neg (fun x => by
            have := x.2
            rw [Bool.and_eq_true] at this
            exact g this.2), if_neg (fun x => g x.2.2), Nat.zero_mul, Nat.add_zero]
      · rw [if_neg (fun x => t x.1), if_neg (fun x => t x.1), Nat.zero_mul, Nat.add_zero]
    have z : ∀ l, ¬ ht A 3 i = l → (if kn.testBit i = true ∧ ht A 3 i = l ∧ agr A row i j l 0 = true then 1 else 0) = 0 := fun l hl => if_neg (fun x => hl x.2.1)
    rcases L with L | L | L | L
    · rw [key 1 L, z 2 (by omega), z 3 (by omega), z 4 (by omega), Nat.add_mul _ a1, Nat.zero_add, Nat.zero_add, Nat.zero_add]
      omega
    · rw [key 2 L, z 1 (by omega), z 3 (by omega), z 4 (by omega), Nat.add_mul _ a2, Nat.zero_add, Nat.zero_add, Nat.zero_add]
      omega
    · rw [key 3 L, z 1 (by omega), z 2 (by omega), z 4 (by omega), Nat.add_mul _ a3, Nat.zero_add, Nat.zero_add, Nat.zero_add]
      omega
    · rw [key 4 L, z 1 (by omega), z 2 (by omega), z 3 (by omega), Nat.add_mul _ a4, Nat.zero_add, Nat.zero_add, Nat.zero_add]
      omega
theorem rS_eq {A : aH} (W : hWF A) {kn n j : Nat} {row : Nat → Nat} (h : j < n) : rS A kn row n j = dKn A kn row j 1 * rS A kn row n (j + 1) + dKn A kn row j 2 * rS A kn row n (j + 2) + dKn A kn row j 3 * rS A kn row n (j + 3) + dKn A kn row j 4 * rS A kn row n (j + 4) := by
  rw [rS_in (by omega), rc_eq W h, rW_sum W (hs A 2) 0 0 (by omega), Nat.zero_add]
  rfl
/-! from the other end -/
def bW (A : aH) (kn : Nat) (row : Nat → Nat) (g : Nat → Nat) (m w acc : Nat) : Nat := if kn.testBit w = true ∧ ht A 3 w ≤ m ∧ agr A row w (m - ht A 3 w) (ht A 3 w) 0 = true then acc + g (m - ht A 3 w) else acc
def bfN (A : aH) (kn : Nat) (row : Nat → Nat) : Nat → Nat → Nat
  | 0 => fun j => if j = 0 then 1 else 0
  | m + 1 => dtUp (bfN A kn row m) (m + 1) (fo (bW A kn row (bfN A kn row m) (m + 1)) (hs A 2) 0 0)
def bf (A : aH) (kn : Nat) (row : Nat → Nat) (j : Nat) : Nat := bfN A kn row j j
theorem bfN_le {A : aH} {kn : Nat} {row : Nat → Nat} : ∀ (m j : Nat), j ≤ m → bfN A kn row m j = bf A kn row j
  | 0, j, h => by
    have : j = 0 := by omega
    subst this; rfl
  | m + 1, j, h => by
    by_cases e : j = m + 1
    · subst e; rfl
    · have := bfN_le (A := A) (kn := kn) (row := row) m j (by omega)
      rw [← this]
      exact if_neg e
theorem bW_cg {A : aH} (W : hWF A) {kn m : Nat} {row g g' : Nat → Nat} (h : ∀ j, j < m → g j = g' j) (n i acc : Nat) (e : i + n ≤ hs A 2) : fo (bW A kn row g m) n i acc = fo (bW A kn row g' m) n i acc := by
  refine fo_cg n i acc (fun w b h1 h2 => ?_)
  unfold bW
  have := (W.2.2.1 w (by omega)).1
  by_cases q : kn.testBit w = true ∧ ht A 3 w ≤ m ∧ agr A row w (m - ht A 3 w) (ht A 3 w) 0 = true
  · rw [if_pos q, if_pos q, h _ (by omega)]
  · rw [if_neg q, if_neg q]
theorem bf_0 {A : aH} {kn : Nat} {row : Nat → Nat} : bf A kn row 0 = 1 := rfl
theorem bf_s {A : aH} (W : hWF A) {kn m : Nat} {row : Nat → Nat} : bf A kn row (m + 1) = fo (bW A kn row (bf A kn row) (m + 1)) (hs A 2) 0 0 := by
  have e : bf A kn row (m + 1) = fo (bW A kn row (bfN A kn row m) (m + 1)) (hs A 2) 0 0 := if_pos rfl
  rw [e]
  exact bW_cg W (fun j hj => bfN_le m j (by omega)) _ _ _ (by omega)
/-- shifted by three, with naught ahead of the row -/
def bS (A : aH) (kn : Nat) (row : Nat → Nat) (i : Nat) : Nat := if i < 3 then 0 else bf A kn row (i - 3)
def aS (A : aH) (kn : Nat) (row : Nat → Nat) (i k : Nat) : Nat := if i < 3 then 0 else dKn A kn row (i - 3) k
theorem bS_in {A : aH} {kn : Nat} {row : Nat → Nat} {j : Nat} : bS A kn row (j + 3) = bf A kn row j := by
  unfold bS
  rw [if_neg (by omega), Nat.add_sub_cancel]
theorem aS_in {A : aH} {kn : Nat} {row : Nat → Nat} {j k : Nat} : aS A kn row (j + 3) k = dKn A kn row j k := by
  unfold aS
  rw [if_neg (by omega), Nat.add_sub_cancel]
def tK (A : aH) (kn : Nat) (row : Nat → Nat) (m k n i : Nat) : Nat := if k ≤ m then cK A kn row (m - k) k n i * bf A kn row (m - k) else 0
theorem bW_sum {A : aH} (W : hWF A) {kn m : Nat} {row : Nat → Nat} : ∀ (n i acc : Nat), i + n ≤ hs A 2 → fo (bW A kn row (bf A kn row) m) n i acc = acc + (tK A kn row m 1 n i + tK A kn row m 2 n i + tK A kn row m 3 n i + tK A kn row m 4 n i)
  | 0, _, acc, _ => by
    have z : ∀ k, tK A kn row m k 0 0 = 0 := fun k => by
      unfold tK
      by_cases q : k ≤ m
      · rw [if_pos q, cK, Nat.zero_mul]
      · rw [if_neg q]
    have z' : ∀ k i, tK A kn row m k 0 i = 0 := fun k i => z k
    rw [fo, z', z', z', z']; omega
  | n + 1, i, acc, e => by
    rw [fo, bW_sum W n (i + 1) _ (by omega)]
    have hw := W.2.2.1 i (by omega)
    have st : ∀ k, tK A kn row m k (n + 1) i = (if kn.testBit i = true ∧ ht A 3 i = k ∧ k ≤ m ∧ agr A row i (m - k) k 0 = true then bf A kn row (m - k) else 0) + tK A kn row m k n (i + 1) := fun k => by
      unfold tK
      by_cases q : k ≤ m
      · rw [if_pos q, if_pos q, cK_step, Nat.add_mul]
        by_cases c : kn.testBit i = true ∧ ht A 3 i = k ∧ agr A row i (m - k) k 0 = true
        · rw [if_pos c, if_pos ⟨c.1, c.2.1, q, c.2.2⟩, Nat.one_mul]
        · rw [if_neg c, if_neg (fun x => c ⟨x.1, x.2.1, x.2.2.2⟩), Nat.zero_mul]
      · rw [if_neg q, if_neg q, if_neg (fun x => q x.2.2.1)]
    rw [st 1, st 2, st 3, st 4]
    have z : ∀ k, ¬ ht A 3 i = k → (if kn.testBit i = true ∧ ht A 3 i = k ∧ k ≤ m ∧ agr A row i (m - k) k 0 = true then bf A kn row (m - k) else 0) = 0 := fun k hk => if_neg (fun x => hk x.2.1)
    have key : ∀ l, ht A 3 i = l → bW A kn row (bf A kn row) m i acc = acc + (if kn.testBit i = true ∧ ht A 3 i = l ∧ l ≤ m ∧ agr A row i (m - l) l 0 = true then bf A kn row (m - l) else 0) := fun l hl => by
      unfold bW
      rw [hl]
      by_cases c : kn.testBit i = true ∧ l ≤ m ∧ agr A row i (m - l) l 0 = true
      · rw [if_pos c, if_pos ⟨c.1, rfl, c.2.1, c.2.2⟩]
      · rw [if_neg c, if_neg (fun x => c ⟨x.1, x.2.2.1, x.2.2.2⟩)]; rfl
    have L : ht A 3 i = 1 ∨ ht A 3 i = 2 ∨ ht A 3 i = 3 ∨ ht A 3 i = 4 := by omega
    rcases L with L | L | L | L
    · rw [key 1 L, z 2 (by omega), z 3 (by omega), z 4 (by omega)]; omega
    · rw [key 2 L, z 1 (by omega), z 3 (by omega), z 4 (by omega)]; omega
    · rw [key 3 L, z 1 (by omega), z 2 (by omega), z 4 (by omega)]; omega
    · rw [key 4 L, z 1 (by omega), z 2 (by omega), z 3 (by omega)]; omega
theorem bS_eq {A : aH} (W : hWF A) {kn m : Nat} {row : Nat → Nat} : bS A kn row (m + 4) = aS A kn row (m + 3) 1 * bS A kn row (m + 3) + aS A kn row (m + 2) 2 * bS A kn row (m + 2) + aS A kn row (m + 1) 3 * bS A kn row (m + 1) + aS A kn row m 4 * bS A kn row m := by
  rw [show m + 4 = (m + 1) + 3 by omega, bS_in, bf_s W, bW_sum W (hs A 2) 0 0 (by omega), Nat.zero_add]
  have t : ∀ k, 1 ≤ k → k ≤ 4 → tK A kn row (m + 1) k (hs A 2) 0 = aS A kn row (m + 4 - k) k * bS A kn row (m + 4 - k) := fun k h1 h4 => by
    unfold tK aS bS
    by_cases q : k ≤ m + 1
    · rw [if_pos q, if_neg (by omega), if_neg (by omega), show m + 4 - k - 3 = m + 1 - k by omega]; rfl
    · rw [if_neg q, if_pos (by omega), Nat.zero_mul]
  rw [t 1 (by decide) (by decide), t 2 (by decide) (by decide), t 3 (by decide) (by decide), t 4 (by decide) (by decide)]
  rfl
/-- what goes over the place m -/
def tt (A : aH) (kn : Nat) (row : Nat → Nat) (n m : Nat) : Nat :=
  bS A kn row (m + 3) * rS A kn row n m + bS A kn row (m + 2) * (aS A kn row (m + 2) 2 * rS A kn row n (m + 1) + aS A kn row (m + 2) 3 * rS A kn row n (m + 2) + aS A kn row (m + 2) 4 * rS A kn row n (m + 3)) + bS A kn row (m + 1) * (aS A kn row (m + 1) 3 * rS A kn row n (m + 1) + aS A kn row (m + 1) 4 * rS A kn row n (m + 2)) + bS A kn row m * (aS A kn row m 4 * rS A kn row n (m + 1))
theorem tt_alg (b0 b1 b2 b3 b4 s0 s1 s2 s3 s4 p1 p2 p3 p4 q2 q3 q4 r3 r4 u4 : Nat) (hs0 : s0 = p1 * s1 + p2 * s2 + p3 * s3 + p4 * s4) (hb : b4 = p1 * b3 + q2 * b2 + r3 * b1 + u4 * b0) : b4 * s1 + b3 * (p2 * s2 + p3 * s3 + p4 * s4) + b2 * (q3 * s2 + q4 * s3) + b1 * (r4 * s2) = b3 * s0 + b2 * (q2 * s1 + q3 * s2 + q4 * s3) + b1 * (r3 * s1 + r4 * s2) + b0 * (u4 * s1) := by
  rw [hs0, hb]
  simp only [Nat.mul_add, Nat.add_mul, Nat.mul_assoc]
  have e1 : p1 * (b3 * s1) = b3 * (p1 * s1) := Nat.mul_left_comm _ _ _
  have e2 : q2 * (b2 * s1) = b2 * (q2 * s1) := Nat.mul_left_comm _ _ _
  have e3 : r3 * (b1 * s1) = b1 * (r3 * s1) := Nat.mul_left_comm _ _ _
  have e4 : u4 * (b0 * s1) = b0 * (u4 * s1) := Nat.mul_left_comm _ _ _
  omega
theorem tt_s {A : aH} (W : hWF A) {kn n m : Nat} {row : Nat → Nat} (h : m < n) : tt A kn row n (m + 1) = tt A kn row n m := by
  have e1 := rS_eq W (kn := kn) (row := row) h
  have e2 := bS_eq W (kn := kn) (m := m) (row := row)
  rw [← aS_in, ← aS_in, ← aS_in, ← aS_in] at e1
  exact tt_alg _ _ _ _ _ _ _ _ _ _ _ _ _ _ _ _ _ _ _ _ e1 e2
theorem tt_0 {A : aH} {kn n : Nat} {row : Nat → Nat} : tt A kn row n 0 = rc A kn row n 0 := by
  have z2 : bS A kn row (0 + 2) = 0 := if_pos (by decide)
  have z1 : bS A kn row (0 + 1) = 0 := if_pos (by decide)
  have z0 : bS A kn row 0 = 0 := if_pos (by decide)
  unfold tt
  rw [z2, z1, z0, bS_in, bf_0, rS_in (Nat.zero_le _), Nat.zero_mul, Nat.zero_mul, Nat.zero_mul, Nat.one_mul]; omega
theorem tt_m {A : aH} (W : hWF A) {kn n : Nat} {row : Nat → Nat} : ∀ m, m ≤ n → tt A kn row n m = rc A kn row n 0
  | 0, _ => tt_0
  | m + 1, h => by rw [tt_s W (by omega), tt_m W m (by omega)]
theorem bf_rc {A : aH} (W : hWF A) {kn n : Nat} {row : Nat → Nat} : bf A kn row n = rc A kn row n 0 := by
  have e := tt_m W (kn := kn) (row := row) n (Nat.le_refl _)
  have z1 : rS A kn row n (n + 1) = 0 := rS_out (by omega)
  have z2 : rS A kn row n (n + 2) = 0 := rS_out (by omega)
  have z3 : rS A kn row n (n + 3) = 0 := rS_out (by omega)
  unfold tt at e
  rw [z1, z2, z3, rS_in (Nat.le_refl _), rc_m, bS_in, Nat.mul_one] at e
  simp only [Nat.mul_zero, Nat.add_zero] at e
  exact e
/-! what can be begun -/
theorem agr_le {A : aH} {row : Nat → Nat} {w j : Nat} : ∀ (d k x : Nat), agr A row w j (d + x) k = true → agr A row w j d k = true
  | 0, _, _, _ => rfl
  | d + 1, k, x, h => by
    rw [show d + 1 + x = (d + x) + 1 by omega, agr] at h
    rw [agr]
    by_cases q : row (j + k) = ht A (4 + k) w
    · rw [if_pos q] at h ⊢
      exact agr_le d (k + 1) x h
    · rw [if_neg q] at h; cases h
def inK (A : aH) (kn : Nat) (row : Nat → Nat) (j k i : Nat) : Nat := if kn.testBit i = true ∧ ht A 3 i = k ∧ agr A row i j k 0 = true then 1 else 0
theorem inK_le {A : aH} {kn : Nat} {row : Nat → Nat} {j d i acc : Nat} (hd : 1 ≤ d ∧ d ≤ 3) : acc + ((if 2 > d then inK A kn row j 2 i else 0) + (if 3 > d then inK A kn row j 3 i else 0) + (if 4 > d then inK A kn row j 4 i else 0)) ≤ cB A kn row j d i acc := by
  unfold inK cB
  by_cases t : kn.testBit i = true ∧ d < ht A 3 i ∧ agr A row i j d 0 = true
  · rw [if_pos t]
    have le : ∀ k, (if k > d then (if kn.testBit i = true ∧ ht A 3 i = k ∧ agr A row i j k 0 = true then 1 else 0) else 0) ≤ (if ht A 3 i = k then 1 else 0) := fun k => by
      by_cases a : k > d
      · rw [if_pos a]
        by_cases b : ht A 3 i = k
        · rw [if_pos b]
          by_cases c : kn.testBit i = true ∧ ht A 3 i = k ∧ agr A row i j k 0 = true
          · rw [if_pos c]; exact Nat.le_refl _
          · rw [if_neg c]; exact Nat.zero_le _
        · rw [if_neg b, if_neg (fun x => b x.2.1)]; exact Nat.le_refl _
      · rw [if_neg a]; exact Nat.zero_le _
    have l2 := le 2
    have l3 := le 3
    have l4 := le 4
    have s : (if ht A 3 i = 2 then 1 else 0) + (if ht A 3 i = 3 then 1 else 0) + (if ht A 3 i = 4 then 1 else 0) ≤ 1 := by
      by_cases b2 : ht A 3 i = 2
      · rw [if_pos b2, if_neg (by omega), if_neg (by omega)]; omega
      · rw [if_neg b2]
        by_cases b3 : ht A 3 i = 3
        · rw [if_pos b3, if_neg (by omega)]; omega
        · rw [if_neg b3]
          by_cases b4 : ht A 3 i = 4
          · rw [if_pos b4]; omega
          · rw [if_neg b4]; omega
    omega
  · rw [if_neg t]
    have z : ∀ k, (if k > d then (if kn.testBit i = true ∧ ht A 3 i = k ∧ agr A row i j k 0 = true then 1 else 0) else 0) = 0 := fun k => by
      by_cases a : k > d
      · rw [if_pos a]
        refine if_neg (fun x => t ⟨x.1, by omega, ?_⟩)
        have := x.2.2
        rw [show k = d + (k - d) by omega] at this
        exact agr_le d 0 (k - d) this
      · rw [if_neg a]
    rw [z 2, z 3, z 4]; omega
theorem cB_le {A : aH} {kn : Nat} {row : Nat → Nat} {j d : Nat} (hd : 1 ≤ d ∧ d ≤ 3) : ∀ (n i acc : Nat), acc + ((if 2 > d then cK A kn row j 2 n i else 0) + (if 3 > d then cK A kn row j 3 n i else 0) + (if 4 > d then cK A kn row j 4 n i else 0)) ≤ fo (cB A kn row j d) n i acc
  | 0, i, acc => by
    rw [fo, cK, cK, cK]
    have z : ∀ k : Nat, (if k > d then 0 else 0) = 0 := fun k => by
      by_cases a : k > d
      · rw [if_pos a]
      · rw [if_neg a]
    rw [z, z, z]; exact Nat.le_refl _
  | n + 1, i, acc => by
    rw [fo]
    have a := cB_le (A := A) (kn := kn) (row := row) (j := j) hd n (i + 1) (cB A kn row j d i acc)
    have b := inK_le (A := A) (kn := kn) (row := row) (j := j) (i := i) (acc := acc) hd
    have st : ∀ k, (if k > d then cK A kn row j k (n + 1) i else 0) = (if k > d then inK A kn row j k i else 0) + (if k > d then cK A kn row j k n (i + 1) else 0) := fun k => by
      by_cases q : k > d
      · rw [if_pos q, if_pos q, if_pos q]; rfl
      · rw [if_neg q, if_neg q, if_neg q]
    rw [st 2, st 3, st 4]
    omega
def bgF (A : aH) (kn : Nat) (row : Nat → Nat) (m j acc : Nat) : Nat := acc + bf A kn row j * bK A kn row j (m - j)
def bg (A : aH) (kn : Nat) (row : Nat → Nat) (m : Nat) : Nat := fo (bgF A kn row m) (m - (m - 3)) (m - 3) (bf A kn row m)
theorem bg_sum {A : aH} {kn m : Nat} {row : Nat → Nat} (h : 1 ≤ m) : bg A kn row m = bf A kn row m + ((if 1 ≤ m then bf A kn row (m - 1) * bK A kn row (m - 1) 1 else 0) + (if 2 ≤ m then bf A kn row (m - 2) * bK A kn row (m - 2) 2 else 0) + (if 3 ≤ m then bf A kn row (m - 3) * bK A kn row (m - 3) 3 else 0)) := by
  have c : m = 1 ∨ m = 2 ∨ 3 ≤ m := by omega
  unfold bg
  rcases c with rfl | rfl | c
  · rw [show 1 - (1 - 3) = 1 by decide, show 1 - 3 = 0 by decide, fo, fo, if_pos (by decide), if_neg (by decide), if_neg (by decide)]; rfl
  · rw [show 2 - (2 - 3) = 2 by decide, show 2 - 3 = 0 by decide, fo, fo, fo, if_pos (by decide), if_pos (by decide), if_neg (by decide)]
    unfold bgF
    simp only [Nat.sub_zero, Nat.zero_add, Nat.reduceSub]
    omega
  · rw [show m - (m - 3) = 3 by omega, fo, fo, fo, fo, if_pos h, if_pos (by omega), if_pos c]
    unfold bgF
    rw [show m - (m - 3) = 3 by omega, show m - (m - 3 + 1) = 2 by omega, show m - (m - 3 + 1 + 1) = 1 by omega, show m - 3 + 1 = m - 2 by omega, show m - 2 + 1 = m - 1 by omega]
    omega
theorem le1 {a s : Nat} (h : s ≤ 1) : a * s ≤ a := by
  have := Nat.mul_le_mul_left a h
  rw [Nat.mul_one] at this
  exact this
theorem rc_bg {A : aH} (W : hWF A) {kn n m : Nat} {row : Nat → Nat} (h1 : 1 ≤ m) (hm : m ≤ n) (hS : ∀ j, 1 ≤ j → j ≤ n → rc A kn row n j ≤ 1) : rc A kn row n 0 ≤ bg A kn row m := by
  have hS' : ∀ j, 1 ≤ j → rS A kn row n j ≤ 1 := fun j hj => by
    by_cases q : j ≤ n
    · rw [rS_in q]; exact hS j hj q
    · rw [rS_out q]; exact Nat.zero_le _
  rw [← tt_m W (kn := kn) (row := row) m hm, bg_sum h1]
  unfold tt
  have s0 := hS' m h1
  have s1 := hS' (m + 1) (by omega)
  have s2 := hS' (m + 2) (by omega)
  have s3 := hS' (m + 3) (by omega)
  have a0 : bS A kn row (m + 3) * rS A kn row n m ≤ bf A kn row m := by
    rw [bS_in]; exact le1 s0
  have a1 : bS A kn row (m + 2) * (aS A kn row (m + 2) 2 * rS A kn row n (m + 1) + aS A kn row (m + 2) 3 * rS A kn row n (m + 2) + aS A kn row (m + 2) 4 * rS A kn row n (m + 3)) ≤ (if 1 ≤ m then bf A kn row (m - 1) * bK A kn row (m - 1) 1 else 0) := by
    rw [if_pos h1, show m + 2 = (m - 1) + 3 by omega, bS_in, aS_in, aS_in, aS_in]
    refine Nat.mul_le_mul_left _ ?_
    have c := cB_le (A := A) (kn := kn) (row := row) (j := m - 1) (d := 1) (by decide) (hs A 2) 0 0
    rw [if_pos (by decide), if_pos (by decide), if_pos (by decide)] at c
    have l2 := le1 (a := dKn A kn row (m - 1) 2) s1
    have l3 := le1 (a := dKn A kn row (m - 1) 3) (show rS A kn row n (m - 1 + 3) ≤ 1 from hS' _ (by omega))
    have l4 := le1 (a := dKn A kn row (m - 1) 4) s3
    unfold dKn at l2 l3 l4 ⊢
    unfold bK
    omega
  have a2 : bS A kn row (m + 1) * (aS A kn row (m + 1) 3 * rS A kn row n (m + 1) + aS A kn row (m + 1) 4 * rS A kn row n (m + 2)) ≤ (if 2 ≤ m then bf A kn row (m - 2) * bK A kn row (m - 2) 2 else 0) := by
    by_cases q : 2 ≤ m
    · rw [if_pos q]
      have e : m + 1 = (m - 2) + 3 := by omega
      have l3 := le1 (a := dKn A kn row (m - 2) 3) s1
      have l4 := le1 (a := dKn A kn row (m - 2) 4) s2
      have c := cB_le (A := A) (kn := kn) (row := row) (j := m - 2) (d := 2) (by decide) (hs A 2) 0 0
      rw [if_neg (by decide), if_pos (by decide), if_pos (by decide)] at c
      have b1 : bS A kn row (m + 1) = bf A kn row (m - 2) := by rw [e, bS_in]
      have b3 : aS A kn row (m + 1) 3 = dKn A kn row (m - 2) 3 := by rw [e, aS_in]
      have b4 : aS A kn row (m + 1) 4 = dKn A kn row (m - 2) 4 := by rw [e, aS_in]
      rw [b1, b3, b4]
      refine Nat.mul_le_mul_left _ ?_
      unfold dKn at l3 l4 ⊢
      unfold bK
      omega
    · have z : bS A kn row (m + 1) = 0 := if_pos (by omega)
      rw [z, Nat.zero_mul]; exact Nat.zero_le _
  have a3 : bS A kn row m * (aS A kn row m 4 * rS A kn row n (m + 1)) ≤ (if 3 ≤ m then bf A kn row (m - 3) * bK A kn row (m - 3) 3 else 0) := by
    by_cases q : 3 ≤ m
    · rw [if_pos q]
      have e : m = (m - 3) + 3 := by omega
      have l4 := le1 (a := dKn A kn row (m - 3) 4) s1
      have c := cB_le (A := A) (kn := kn) (row := row) (j := m - 3) (d := 3) (by decide) (hs A 2) 0 0
      rw [if_neg (by decide), if_neg (by decide), if_pos (by decide)] at c
      have b1 : bS A kn row m = bf A kn row (m - 3) := by
        have : bS A kn row m = bS A kn row ((m - 3) + 3) := congrArg _ e
        rw [this, bS_in]
      have b4 : aS A kn row m 4 = dKn A kn row (m - 3) 4 := by
        have : aS A kn row m 4 = aS A kn row ((m - 3) + 3) 4 := congrArg (fun x => aS A kn row x 4) e
        rw [this, aS_in]
      rw [b1, b4]
      refine Nat.mul_le_mul_left _ ?_
      unfold dKn at l4 ⊢
      unfold bK
      omega
    · have z : bS A kn row m = 0 := if_pos (by omega)
      rw [z, Nat.zero_mul]; exact Nat.zero_le _
  omega
/-! the end of a row is a row -/
theorem agr_sh {A : aH} {row : Nat → Nat} {w j i : Nat} : ∀ (L k : Nat), agr A row w (j + i) L k = agr A (fun x => row (j + x)) w i L k
  | 0, _ => rfl
  | L + 1, k => by
    rw [agr, agr, agr_sh L (k + 1), show j + i + k = j + (i + k) by omega]
theorem rc_sh {A : aH} (W : hWF A) {kn n j : Nat} {row : Nat → Nat} : ∀ (D d i : Nat), d ≤ D → j + i + d = n → rc A kn row n (j + i) = rc A kn (fun x => row (j + x)) (n - j) i
  | 0, d, i, h, e => by
    have e1 : j + i = n := by omega
    have e2 : n - j = i := by omega
    rw [e1, e2, rc_m, rc_m]
  | D + 1, d, i, h, e => by
    by_cases d0 : d = 0
    · have e1 : j + i = n := by omega
      have e2 : n - j = i := by omega
      rw [e1, e2, rc_m, rc_m]
    · rw [rc_eq W (show j + i < n by omega), rc_eq W (show i < n - j by omega)]
      refine fo_cg _ _ _ (fun w b h1 h2 => ?_)
      have hw := (W.2.2.1 w (by omega)).1
      unfold rcW fit
      rw [agr_sh]
      have dd' : decide (j + i + ht A 3 w ≤ n) = decide (i + ht A 3 w ≤ n - j) := by
        by_cases q : j + i + ht A 3 w ≤ n
        · rw [decide_eq_true q, decide_eq_true (by omega)]
        · rw [decide_eq_false q, decide_eq_false (by omega)]
      rw [dd']
      by_cases q : kn.testBit w = true ∧ (decide (i + ht A 3 w ≤ n - j) && agr A (fun x => row (j + x)) w i (ht A 3 w) 0) = true
      · have q2 := q.2
        rw [Bool.and_eq_true, decide_eq_true_iff] at q2
        rw [if_pos q, if_pos q, show j + i + ht A 3 w = j + (i + ht A 3 w) by omega, rc_sh W D (d - ht A 3 w) (i + ht A 3 w) (by omega) (by omega)]
      · rw [if_neg q, if_neg q]
theorem bf_cg {A : aH} (W : hWF A) {kn : Nat} {row row' : Nat → Nat} {m : Nat} (h : ∀ j, j < m → row j = row' j) : bf A kn row m = bf A kn row' m := by
  rw [bf_rc W, bf_rc W, rc_cg h]
theorem agr_cg {A : aH} {row row' : Nat → Nat} {w j m : Nat} (h : ∀ x, x < m → row x = row' x) : ∀ (L k : Nat), j + k + L ≤ m → agr A row w j L k = agr A row' w j L k
  | 0, _, _ => rfl
  | L + 1, k, e => by
    rw [agr, agr, h (j + k) (by omega), agr_cg h L (k + 1) (by omega)]
theorem bg_cg {A : aH} (W : hWF A) {kn : Nat} {row row' : Nat → Nat} {m : Nat} (h : ∀ j, j < m → row j = row' j) : bg A kn row m = bg A kn row' m := by
  unfold bg
  rw [bf_cg W h]
  refine fo_cg _ _ _ (fun j b h1 h2 => ?_)
  unfold bgF bK
  rw [bf_cg W (row := row) (row' := row') (m := j) (fun x hx => h x (by omega))]
  have e : fo (cB A kn row j (m - j)) (hs A 2) 0 0 = fo (cB A kn row' j (m - j)) (hs A 2) 0 0 := by
    refine fo_cg _ _ _ (fun w c h3 h4 => ?_)
    unfold cB
    rw [agr_cg h (m - j) 0 (by omega)]
  rw [e]
/-! the first row that means two things -/
def fsL {α : Type} (F : Nat → Option α) : Nat → Nat → Option α
  | 0, _ => none
  | m + 1, s => match F s with
    | some x => some x
    | none => fsL F m (s + 1)
def fsR (A : aH) (kn n : Nat) : Nat → Nat → (Nat → Nat) → Option (Nat → Nat)
  | 0, _, row => if 1 < rc A kn row n 0 then some row else none
  | r + 1, a, row => fsL (fun s => fsR A kn n r (a + 1) (dtUp row a s)) 4 0
theorem fsL_some {α : Type} {F : Nat → Option α} {x : α} : ∀ (m s : Nat), fsL F m s = some x → ∃ t, s ≤ t ∧ t < s + m ∧ F t = some x
  | 0, _, h => by cases h
  | m + 1, s, h => by
    rw [fsL] at h
    cases e : F s with
    | some y =>
      rw [e] at h
      exact ⟨s, Nat.le_refl _, by omega, e.trans h⟩
    | none =>
      rw [e] at h
      obtain ⟨t, h1, h2, h3⟩ := fsL_some m (s + 1) h
      exact ⟨t, by omega, by omega, h3⟩
theorem fsL_none {α : Type} {F : Nat → Option α} : ∀ (m s : Nat), fsL F m s = none → ∀ t, s ≤ t → t < s + m → F t = none
  | 0, _, _, t, h1, h2 => by omega
  | m + 1, s, h, t, h1, h2 => by
    rw [fsL] at h
    cases e : F s with
    | some y => rw [e] at h; cases h
    | none =>
      rw [e] at h
      by_cases q : t = s
      · rw [q]; exact e
      · exact fsL_none m (s + 1) h t (by omega) (by omega)
theorem fsR_some {A : aH} {kn n : Nat} : ∀ (r a : Nat) (row x : Nat → Nat), fsR A kn n r a row = some x → (∀ j, j < a → x j = row j) ∧ (∀ j, a ≤ j → j < a + r → x j < 4) ∧ 1 < rc A kn x n 0
  | 0, a, row, x, h => by
    rw [fsR] at h
    by_cases q : 1 < rc A kn row n 0
    · rw [if_pos q] at h
      have e : row = x := Option.some.inj h
      subst e
      exact ⟨fun _ _ => rfl, fun j h1 h2 => by omega, q⟩
    · rw [if_neg q] at h; cases h
  | r + 1, a, row, x, h => by
    rw [fsR] at h
    obtain ⟨s, _, hs4, e⟩ := fsL_some 4 0 h
    obtain ⟨p1, p2, p3⟩ := fsR_some r (a + 1) _ x e
    refine ⟨fun j hj => ?_, fun j h1 h2 => ?_, p3⟩
    · rw [p1 j (by omega)]; exact if_neg (by omega)
    · by_cases q : j = a
      · subst q
        have y : x j = s := (p1 j (by omega)).trans (if_pos rfl)
        omega
      · exact p2 j (by omega) (by omega)
theorem fsR_none {A : aH} {kn n : Nat} : ∀ (r a : Nat) (row : Nat → Nat), a + r = n → fsR A kn n r a row = none → ∀ x : Nat → Nat, (∀ j, j < a → x j = row j) → (∀ j, a ≤ j → j < n → x j < 4) → rc A kn x n 0 ≤ 1
  | 0, a, row, e, h, x, h1, h2 => by
    rw [fsR] at h
    have ex : rc A kn x n = rc A kn row n := rc_cg (fun j hj => h1 j (by omega))
    rw [ex]
    by_cases q : 1 < rc A kn row n 0
    · rw [if_pos q] at h; cases h
    · omega
  | r + 1, a, row, e, h, x, h1, h2 => by
    rw [fsR] at h
    have y := fsL_none 4 0 h (x a) (Nat.zero_le _) (by have := h2 a (Nat.le_refl _) (by omega); omega)
    refine fsR_none r (a + 1) _ (by omega) y x (fun j hj => ?_) (fun j h3 h4 => h2 j (by omega) h4)
    by_cases q : j = a
    · subst q; exact (if_pos rfl).symm
    · rw [h1 j (by omega)]; exact (if_neg q).symm
/-- where no shorter row means two things, what cannot be begun twice leads to none -/
theorem fsR_cut {A : aH} (W : hWF A) {kn n r a : Nat} {row : Nat → Nat} (e : a + r = n) (h1 : 1 ≤ a) (hb : ∀ j, j < a → row j < 4) (sh : ∀ n', 1 ≤ n' → n' < n → fsR A kn n' n' 0 (fun _ => 0) = none) (hg : bg A kn row a ≤ 1) : fsR A kn n r a row = none := by
  cases h : fsR A kn n r a row with
  | none => rfl
  | some x =>
    obtain ⟨p1, p2, p3⟩ := fsR_some r a row x h
    have x4 : ∀ j, j < n → x j < 4 := fun j hj => by
      by_cases q : j < a
      · rw [p1 j q]; exact hb j q
      · exact p2 j (by omega) (by omega)
    have hS : ∀ j, 1 ≤ j → j ≤ n → rc A kn x n j ≤ 1 := fun j hj hn => by
      by_cases q : j = n
      · rw [q, rc_m]; exact Nat.le_refl _
      · have s := rc_sh W (kn := kn) (n := n) (j := j) (row := x) (n - j) (n - j) 0 (Nat.le_refl _) (by omega)
        rw [Nat.add_zero] at s
        rw [s]
        exact fsR_none (n - j) 0 _ (by omega) (sh (n - j) (by omega) (by omega)) _ (fun i hi => absurd hi (Nat.not_lt_zero _)) (fun i _ hi => x4 (j + i) (by omega))
    have := rc_bg W (kn := kn) (m := a) h1 (by omega) hS
    rw [bg_cg W p1] at this
    omega
def fdR (A : aH) (kn : Nat) : Nat → Nat → Option (Nat × (Nat → Nat))
  | 0, _ => none
  | m + 1, n => match fsR A kn n n 0 (fun _ => 0) with
    | some x => some (n, x)
    | none => fdR A kn m (n + 1)
