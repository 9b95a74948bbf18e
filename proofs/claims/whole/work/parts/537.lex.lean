/-! PURE 77: texts as natural numbers, and their tokens -/
def isB (v : Int32) : Prop := ∃ x, v = vp_nar .byte x
def bU (v : Int32) : Nat := v.toInt8.toBitVec.toNat
theorem nar_b (x : Int32) : vp_nar .byte x = x.toInt8.toInt32 := rfl
theorem by8 : ∀ n, n < 256 → ((Int8.ofNat n).toInt32 &&& 255) = Int32.ofNat n ∧ (n < 128 → (Int8.ofNat n).toInt32 = Int32.ofNat n) ∧ (128 ≤ n → (Int8.ofNat n).toInt32 < 0) := by decide +kernel
theorem bU_lt (v : Int32) : bU v < 256 := v.toInt8.toBitVec.isLt
theorem isB_of {v : Int32} (h : isB v) : v = (Int8.ofNat (bU v)).toInt32 := by
  obtain ⟨x, rfl⟩ := h
  rw [nar_b]
  unfold bU
  rw [Int8.toInt8_toInt32, Int8.ofNat_bitVecToNat, Int8.ofBitVec_toBitVec]
theorem isB_and {v : Int32} (h : isB v) : (v &&& 255) = Int32.ofNat (bU v) := by
  have e := isB_of h
  have b := (by8 (bU v) (bU_lt v)).1
  rw [← e] at b; exact b
theorem isB_lo {v : Int32} (h : isB v) (q : bU v < 128) : v = Int32.ofNat (bU v) := by
  have e := isB_of h
  have b := (by8 (bU v) (bU_lt v)).2.1 q
  rw [← e] at b; exact b
theorem isB_hi {v : Int32} (h : isB v) (q : ¬ bU v < 128) : v < 0 := by
  have e := isB_of h
  have b := (by8 (bU v) (bU_lt v)).2.2 (by omega)
  rw [← e] at b; exact b
theorem isB_nar {v : Int32} (h : isB v) : vp_nar .byte v = v := by
  obtain ⟨x, rfl⟩ := h
  rw [nar_b, nar_b, Int8.toInt8_toInt32]
theorem isB_eq {v : Int32} (h : isB v) {c : Nat} (hc : c < 128) : (v = Int32.ofNat c) = (bU v = c) := by
  have := bU_lt v
  apply propext
  by_cases q : bU v < 128
  · have e := isB_lo h q
    have y : (v = Int32.ofNat c) = (bU v = c) := by
      conv => lhs; rw [e]
      exact z_eq (by omega) (by omega)
    rw [y]
  · have e := isB_hi h q
    refine ⟨fun x => ?_, fun x => by omega⟩
    rw [x, show (0 : Int32) = Int32.ofNat 0 from rfl, z_lt0 (by omega)] at e
    exact e.elim
theorem isB_lt {v : Int32} (h : isB v) {c : Nat} (hc : c ≤ 128) (q : bU v < 128) : (v < Int32.ofNat c) = (bU v < c) := by
  have e := isB_lo h q
  conv => lhs; rw [e]
  exact z_lt (by omega) (by omega)
theorem isB_gt {v : Int32} (h : isB v) {c : Nat} (hc : c < 128) (q : bU v < 128) : (Int32.ofNat c < v) = (c < bU v) := by
  have e := isB_lo h q
  conv => lhs; rw [e]
  exact z_lt (by omega) (by omega)
theorem neg_lt {v : Int32} (h : v < 0) {c : Nat} (hc : c < 128) : v < Int32.ofNat c :=
  Int32.lt_of_lt_of_le h (by rw [show (0 : Int32) = Int32.ofNat 0 from rfl, z_le (by decide) (by omega)]; exact Nat.zero_le _)
/-! runs -/
def isWs (u : Nat) : Bool := decide (u = 10) || decide (u = 32)
def isLo (u : Nat) : Bool := decide (97 ≤ u) && decide (u ≤ 122)
def isDi (u : Nat) : Bool := decide (48 ≤ u) && decide (u ≤ 57)
def isSg (u : Nat) : Bool := decide (u = 59) || decide (u = 60) || decide (u = 62) || decide (u = 61)
def skp (P : Nat → Bool) (tx : Nat → Nat) (n : Nat) : Nat → Nat → Nat
  | 0, i => i
  | m + 1, i => if i < n ∧ P (tx i) = true then skp P tx n m (i + 1) else i
def rnn (P : Nat → Bool) (tx : Nat → Nat) (n i : Nat) : Nat := skp P tx n (n - i) i
theorem rnn_in {P : Nat → Bool} {tx : Nat → Nat} {n i : Nat} (h : i < n) (p : P (tx i) = true) : rnn P tx n i = rnn P tx n (i + 1) := by
  unfold rnn
  rw [show n - i = (n - (i + 1)) + 1 by omega, skp, if_pos ⟨h, p⟩]
theorem rnn_out {P : Nat → Bool} {tx : Nat → Nat} {n i : Nat} (h : ¬ (i < n ∧ P (tx i) = true)) : rnn P tx n i = i := by
  unfold rnn
  cases n - i with
  | zero => rfl
  | succ m => rw [skp, if_neg h]
theorem skp_b {P : Nat → Bool} {tx : Nat → Nat} {n : Nat} : ∀ (m i : Nat), i ≤ skp P tx n m i ∧ (i ≤ n → skp P tx n m i ≤ n)
  | 0, i => ⟨Nat.le_refl _, fun h => h⟩
  | m + 1, i => by
    rw [skp]
    by_cases q : i < n ∧ P (tx i) = true
    · rw [if_pos q]
      have := skp_b (P := P) (tx := tx) (n := n) m (i + 1)
      exact ⟨by omega, fun _ => this.2 (by omega)⟩
    · rw [if_neg q]
      exact ⟨Nat.le_refl _, fun h => h⟩
theorem rnn_ge {P : Nat → Bool} {tx : Nat → Nat} {n i : Nat} : i ≤ rnn P tx n i := (skp_b _ _).1
theorem rnn_le {P : Nat → Bool} {tx : Nat → Nat} {n i : Nat} (h : i ≤ n) : rnn P tx n i ≤ n := (skp_b _ _).2 h
theorem skp_all {P : Nat → Bool} {tx : Nat → Nat} {n : Nat} : ∀ (m i j : Nat), i ≤ j → j < skp P tx n m i → P (tx j) = true
  | 0, i, j, h1, h2 => by rw [skp] at h2; omega
  | m + 1, i, j, h1, h2 => by
    rw [skp] at h2
    by_cases q : i < n ∧ P (tx i) = true
    · rw [if_pos q] at h2
      by_cases e : j = i
      · rw [e]; exact q.2
      · exact skp_all m (i + 1) j (by omega) h2
    · rw [if_neg q] at h2; omega
theorem rnn_all {P : Nat → Bool} {tx : Nat → Nat} {n i j : Nat} (h1 : i ≤ j) (h2 : j < rnn P tx n i) : P (tx j) = true := skp_all _ _ _ h1 h2
def lxF (tx : Nat → Nat) (n e : Nat) : Nat := rnn isWs tx n e
def lxE (tx : Nat → Nat) (n e : Nat) : Nat := if n ≤ lxF tx n e then lxF tx n e else if isLo (tx (lxF tx n e)) = true then rnn isLo tx n (lxF tx n e) else if isDi (tx (lxF tx n e)) = true then rnn isDi tx n (lxF tx n e) else lxF tx n e + 1
def lxT (tx : Nat → Nat) (n e : Nat) : Nat := if n ≤ lxF tx n e then 0 else if isLo (tx (lxF tx n e)) = true then 1 else if isDi (tx (lxF tx n e)) = true then (if rnn isDi tx n (lxF tx n e) - lxF tx n e ≤ 4 then 2 else 4) else if isSg (tx (lxF tx n e)) = true then 3 else 4
def wdL (tx : Nat → Nat) : Nat → Nat → List Nat
  | 0, _ => []
  | m + 1, i => (tx i - 96) :: wdL tx m (i + 1)
def lxW (tx : Nat → Nat) (n e : Nat) : List Nat := wdL tx (lxE tx n e - lxF tx n e) (lxF tx n e)
def nvL (tx : Nat → Nat) : Nat → Nat → Nat → Nat
  | 0, _, v => v
  | m + 1, i, v => nvL tx m (i + 1) (v * 10 + (tx i - 48))
def lxV (tx : Nat → Nat) (n e : Nat) : Nat := nvL tx (lxE tx n e - lxF tx n e) (lxF tx n e) 0
/-! the words of both texts, in the program's order: letters from 1 on -/
def kwS : List (List Nat) := [[15, 4, 4, 19], [18, 15, 15, 13], [4, 15, 15, 18], [2, 1, 9, 26, 5], [15, 16, 5, 14], [23, 15, 18, 4], [19, 1, 25, 19], [19, 12, 1, 13], [19, 8, 21, 20], [12, 1, 20, 3, 8], [1, 10, 1, 18], [16, 5, 18, 19, 15, 14], [9, 14], [4, 5, 1, 6], [11, 14, 15, 23, 19], [3, 12, 15, 19, 5], [7, 15], [6, 15, 18, 7, 5, 20], [1, 14, 25], [23, 8, 5, 14], [8, 5, 1, 18, 4], [12, 15, 15, 16], [5, 14, 4], [19, 20, 15, 16]]
/-- the model's number of the program's word -/
def kwM : List Nat := [0, 1, 2, 5, 6, 3, 7, 8, 9, 10, 11, 4, 12, 13, 14, 15, 16, 17, 18, 19, 23, 20, 21, 22]
def kwSM : List (List Nat) := [[15, 4, 4, 19], [18, 15, 15, 13], [4, 15, 15, 18], [23, 15, 18, 4], [16, 5, 18, 19, 15, 14], [2, 1, 9, 26, 5], [15, 16, 5, 14], [19, 1, 25, 19], [19, 12, 1, 13], [19, 8, 21, 20], [12, 1, 20, 3, 8], [1, 10, 1, 18], [9, 14], [4, 5, 1, 6], [11, 14, 15, 23, 19], [3, 12, 15, 19, 5], [7, 15], [6, 15, 18, 7, 5, 20], [1, 14, 25], [23, 8, 5, 14], [12, 15, 15, 16], [5, 14, 4], [19, 20, 15, 16], [8, 5, 1, 18, 4]]
def kwGo : List (List Nat) → Nat → List Nat → Option Nat
  | [], _, _ => none
  | k :: ks, i, l => if k = l then some i else kwGo ks (i + 1) l
theorem kwGo_none : ∀ (ks : List (List Nat)) (i : Nat) (l : List Nat), ¬ l ∈ ks → kwGo ks i l = none
  | [], _, _, _ => rfl
  | k :: ks, i, l, h => by
    rw [kwGo, if_neg (fun e => h (by rw [e]; exact List.mem_cons_self)), kwGo_none ks (i + 1) l (fun m => h (List.mem_cons_of_mem _ m))]
theorem kw_mem : ∀ l, l ∈ kwS → kwGo kwSM 0 l = (kwGo kwS 0 l).map (fun k => kwM.getD k 99) ∧ (∃ k, kwGo kwS 0 l = some k ∧ k < 24) := by decide +kernel
theorem kw_sub : ∀ l, l ∈ kwSM → l ∈ kwS := by decide +kernel
/-- the model finds the same word, by its own number -/
theorem kw_both (l : List Nat) : kwGo kwSM 0 l = (kwGo kwS 0 l).map (fun k => kwM.getD k 99) := by
  by_cases h : l ∈ kwS
  · exact (kw_mem l h).1
  · rw [kwGo_none kwS 0 l h, kwGo_none kwSM 0 l (fun m => h (kw_sub l m))]; rfl
theorem kw_lt {l : List Nat} {k : Nat} (h : kwGo kwS 0 l = some k) : k < 24 := by
  by_cases m : l ∈ kwS
  · obtain ⟨j, e, hj⟩ := (kw_mem l m).2
    rw [e] at h
    have : j = k := Option.some.inj h
    omega
  · rw [kwGo_none kwS 0 l m] at h; cases h
def lxK (tx : Nat → Nat) (n e : Nat) : Option Nat := if lxT tx n e = 1 then kwGo kwS 0 (lxW tx n e) else none
def lxN (tx : Nat → Nat) (n e : Nat) : Option (List Nat) := if lxT tx n e = 1 ∧ lxK tx n e = none ∧ lxE tx n e - lxF tx n e ≤ 8 then some (lxW tx n e) else none
theorem lxF_ge {tx : Nat → Nat} {n e : Nat} : e ≤ lxF tx n e := rnn_ge
theorem lxF_le {tx : Nat → Nat} {n e : Nat} (h : e ≤ n) : lxF tx n e ≤ n := rnn_le h
theorem lxE_ge {tx : Nat → Nat} {n e : Nat} : lxF tx n e ≤ lxE tx n e := by
  unfold lxE
  by_cases q : n ≤ lxF tx n e
  · rw [if_pos q]; exact Nat.le_refl _
  · rw [if_neg q]
    by_cases a : isLo (tx (lxF tx n e)) = true
    · rw [if_pos a]; exact rnn_ge
    · rw [if_neg a]
      by_cases b : isDi (tx (lxF tx n e)) = true
      · rw [if_pos b]; exact rnn_ge
      · rw [if_neg b]; omega
theorem lxE_le {tx : Nat → Nat} {n e : Nat} (h : e ≤ n) : lxE tx n e ≤ n := by
  have f := lxF_le (tx := tx) h
  unfold lxE
  by_cases q : n ≤ lxF tx n e
  · rw [if_pos q]; exact f
  · rw [if_neg q]
    by_cases a : isLo (tx (lxF tx n e)) = true
    · rw [if_pos a]; exact rnn_le f
    · rw [if_neg a]
      by_cases b : isDi (tx (lxF tx n e)) = true
      · rw [if_pos b]; exact rnn_le f
      · rw [if_neg b]; omega
/-- a token that is no end is at least one byte long -/
theorem lxE_gt {tx : Nat → Nat} {n e : Nat} (h : ¬ n ≤ lxF tx n e) : lxF tx n e < lxE tx n e := by
  unfold lxE
  rw [if_neg h]
  by_cases a : isLo (tx (lxF tx n e)) = true
  · rw [if_pos a, rnn_in (by omega) a]
    have := rnn_ge (P := isLo) (tx := tx) (n := n) (i := lxF tx n e + 1)
    omega
  · rw [if_neg a]
    by_cases b : isDi (tx (lxF tx n e)) = true
    · rw [if_pos b, rnn_in (by omega) b]
      have := rnn_ge (P := isDi) (tx := tx) (n := n) (i := lxF tx n e + 1)
      omega
    · rw [if_neg b]; omega
theorem lxT_0 {tx : Nat → Nat} {n e : Nat} : (lxT tx n e = 0) = (n ≤ lxF tx n e) := by
  apply propext
  unfold lxT
  by_cases q : n ≤ lxF tx n e
  · rw [if_pos q]; exact ⟨fun _ => q, fun _ => rfl⟩
  · rw [if_neg q]
    refine ⟨fun h => ?_, fun h => absurd h q⟩
    exfalso
    by_cases a : isLo (tx (lxF tx n e)) = true
    · rw [if_pos a] at h; omega
    · rw [if_neg a] at h
      by_cases b : isDi (tx (lxF tx n e)) = true
      · rw [if_pos b] at h
        by_cases c : rnn isDi tx n (lxF tx n e) - lxF tx n e ≤ 4
        · rw [if_pos c] at h; omega
        · rw [if_neg c] at h; omega
      · rw [if_neg b] at h
        by_cases c : isSg (tx (lxF tx n e)) = true
        · rw [if_pos c] at h; omega
        · rw [if_neg c] at h; omega
theorem lxT_4 {tx : Nat → Nat} {n e : Nat} : lxT tx n e ≤ 4 := by
  unfold lxT
  by_cases q : n ≤ lxF tx n e
  · rw [if_pos q]; omega
  · rw [if_neg q]
    by_cases a : isLo (tx (lxF tx n e)) = true
    · rw [if_pos a]; omega
    · rw [if_neg a]
      by_cases b : isDi (tx (lxF tx n e)) = true
      · rw [if_pos b]
        by_cases c : rnn isDi tx n (lxF tx n e) - lxF tx n e ≤ 4
        · rw [if_pos c]; omega
        · rw [if_neg c]; omega
      · rw [if_neg b]
        by_cases c : isSg (tx (lxF tx n e)) = true
        · rw [if_pos c]; omega
        · rw [if_neg c]; omega
theorem lxK_lt {tx : Nat → Nat} {n e k : Nat} (h : lxK tx n e = some k) : k < 24 := by
  unfold lxK at h
  by_cases q : lxT tx n e = 1
  · rw [if_pos q] at h; exact kw_lt h
  · rw [if_neg q] at h; cases h
theorem isLo_t {u : Nat} (h : isLo u = true) : 97 ≤ u ∧ u ≤ 122 := by
  unfold isLo at h
  rw [Bool.and_eq_true, decide_eq_true_iff, decide_eq_true_iff] at h
  exact h
theorem isDi_t {u : Nat} (h : isDi u = true) : 48 ≤ u ∧ u ≤ 57 := by
  unfold isDi at h
  rw [Bool.and_eq_true, decide_eq_true_iff, decide_eq_true_iff] at h
  exact h
theorem isLo_n {u : Nat} (h : ¬ isLo u = true) : u < 97 ∨ 122 < u := by
  by_cases a : 97 ≤ u ∧ u ≤ 122
  · exact absurd (by unfold isLo; rw [decide_eq_true a.1, decide_eq_true a.2]; rfl) h
  · omega
theorem isDi_n {u : Nat} (h : ¬ isDi u = true) : u < 48 ∨ 57 < u := by
  by_cases a : 48 ≤ u ∧ u ≤ 57
  · exact absurd (by unfold isDi; rw [decide_eq_true a.1, decide_eq_true a.2]; rfl) h
  · omega
/-- the letters of a word token -/
theorem wdL_len {tx : Nat → Nat} : ∀ (m i : Nat), (wdL tx m i).length = m
  | 0, _ => rfl
  | m + 1, i => by rw [wdL, List.length_cons, wdL_len m (i + 1)]
theorem wdL_ok {tx : Nat → Nat} : ∀ (m i : Nat), (∀ j, i ≤ j → j < i + m → isLo (tx j) = true) → ∀ c, c ∈ wdL tx m i → 1 ≤ c ∧ c ≤ 26
  | 0, _, _, c, hc => by cases hc
  | m + 1, i, h, c, hc => by
    rw [wdL] at hc
    rcases List.mem_cons.mp hc with rfl | hc
    · have := isLo_t (h i (Nat.le_refl _) (by omega))
      omega
    · exact wdL_ok m (i + 1) (fun j a b => h j (by omega) (by omega)) c hc
theorem lxT_1 {tx : Nat → Nat} {n e : Nat} (h : lxT tx n e = 1) : ¬ n ≤ lxF tx n e ∧ isLo (tx (lxF tx n e)) = true ∧ lxE tx n e = rnn isLo tx n (lxF tx n e) := by
  unfold lxT at h
  unfold lxE
  by_cases q : n ≤ lxF tx n e
  · rw [if_pos q] at h; omega
  · rw [if_neg q] at h ⊢
    by_cases a : isLo (tx (lxF tx n e)) = true
    · rw [if_pos a]; exact ⟨q, a, rfl⟩
    · rw [if_neg a] at h
      exfalso
      by_cases b : isDi (tx (lxF tx n e)) = true
      · rw [if_pos b] at h
        by_cases c : rnn isDi tx n (lxF tx n e) - lxF tx n e ≤ 4
        · rw [if_pos c] at h; omega
        · rw [if_neg c] at h; omega
      · rw [if_neg b] at h
        by_cases c : isSg (tx (lxF tx n e)) = true
        · rw [if_pos c] at h; omega
        · rw [if_neg c] at h; omega
theorem lxN_ok {tx : Nat → Nat} {n e : Nat} {l : List Nat} (h : lxN tx n e = some l) : nOk l ∧ 1 ≤ l.length ∧ l = lxW tx n e ∧ lxT tx n e = 1 ∧ lxK tx n e = none ∧ lxE tx n e - lxF tx n e ≤ 8 := by
  unfold lxN at h
  by_cases q : lxT tx n e = 1 ∧ lxK tx n e = none ∧ lxE tx n e - lxF tx n e ≤ 8
  · rw [if_pos q] at h
    have el : lxW tx n e = l := Option.some.inj h
    obtain ⟨k1, k2, k3⟩ := lxT_1 q.1
    have g := lxE_gt k1
    subst el
    have le : (lxW tx n e).length = lxE tx n e - lxF tx n e := wdL_len _ _
    refine ⟨⟨by omega, ?_⟩, by omega, rfl, q.1, q.2.1, q.2.2⟩
    refine wdL_ok _ _ (fun j a b => ?_)
    rw [k3] at b
    have := rnn_ge (P := isLo) (tx := tx) (n := n) (i := lxF tx n e)
    exact rnn_all (n := n) a (by omega)
  · rw [if_neg q] at h; cases h
