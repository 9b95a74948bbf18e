/-! PURE 43: together -/
def allD (A : aH) : Nat := 2 ^ hs A 1 - 1
def djF (A : aH) (o : Nat) : Nat → Nat → Nat → Option Nat
  | 0, _, _ => none
  | n + 1, i, S => if S.testBit o = true then some i else djF A o n (i + 1) (hReach A (hs A 5) (hStep A (allD A) S))
theorem PH.dj25 {μ : dtM} {h : Nat} {A : aH} (H : PH μ h A) {o : Nat} (ho : o < hs A 0) : ∀ (n f i S : Nat), i + n = hs A 1 + 1 → n < f → S < 128 → f_X10_doorsToJoin_25 f h (Int32.ofNat o) (Int32.ofNat (allD A)) (Int32.ofNat S) (Int32.ofNat i) μ = some (oN (djF A o n i S), μ) := by
  have hop := H.op1
  have hnr := H.nr
  have hnd := H.nd
  have h2 : 2 ^ hs A 1 ≤ 1024 := Nat.pow_le_pow_right (n := 2) (by decide) hnd
  have ha : allD A < 2147483648 := by unfold allD; omega
  intro n
  induction n with
  | zero =>
    intro f i S e hf hS
    cases f with
    | zero => omega
    | succ f =>
      simp (disch := omega) only [f_X10_doorsToJoin_25, H.g1, o_bind, z_lt, z_lit]
      rw [if_pos (by omega)]; rfl
  | succ n ih =>
    intro f i S e hf hS
    cases f with
    | zero => omega
    | succ f =>
      have h1 := hStep_lt (op := allD A) H.2.2 hS
      have h3 := hReach_lt H.2.2 (op := hs A 5) h1
      simp (disch := omega) only [f_X10_doorsToJoin_25, H.g1, H.g5, o_bind, o_call, z_lt, z_lit, f_contains, b0, H.stepOnce ha hS, H.reach (show hs A 5 < 2147483648 by omega) h1, z_add]
      rw [if_neg (by omega), djF]
      cases q : S.testBit o
      · rw [if_pos rfl, if_neg (by decide)]
        exact ih f (i + 1) _ (by omega) (by omega) h3
      · rw [if_neg (by decide), if_pos rfl]; rfl
def toO (A : aH) (r o : Nat) : Option Nat := djF A o (hs A 1 + 1) 0 (hReach A (hs A 5) (2 ^ r))
theorem PH.doorsToJoin {μ : dtM} {h : Nat} {A : aH} (H : PH μ h A) {r o : Nat} (hr : r < hs A 0) (ho : o < hs A 0) : f_X10_doorsToJoin h (Int32.ofNat r) (Int32.ofNat o) μ = some (oN (toO A r o), μ) := by
  have hop := H.op1
  have hnr := H.nr
  have hnd := H.nd
  have h7 := p128 (show r < 7 by omega)
  have hp : 1 ≤ 2 ^ hs A 1 := Nat.one_le_two_pow
  simp (disch := omega) only [f_X10_doorsToJoin, H.g1, H.g5, o_bind, o_call, z_lit, z_bit, z_sub, H.reach (show hs A 5 < 2147483648 by omega) h7]
  exact H.dj25 ho (hs A 1 + 1) dtFuel 0 _ (by omega) (dtFuel_gt (by omega)) (hReach_lt H.2.2 h7)
/-! the model's search -/
def gB (A : aH) (r o s : Nat) : Bool := decide (s &&& hs A 5 = 0) && (hReach A (hs A 5 ||| s) (2 ^ r)).testBit o
theorem z_nn (x : Int32) : (x ^^^ (-Int32.ofNat 1)) ^^^ (-Int32.ofNat 1) = x := by
  rw [Int32.xor_assoc, Int32.xor_self, Int32.xor_zero]
theorem MH.dc29 {μ : dtM} {A : aH} (H : MH μ 0 0 A) (C : CX μ) {p q : Nat} (hp : p < hs A 3) (hq : q < hs A 3) : ∀ (n f i : Nat) (best : Option Nat), i + n = 2 ^ hs A 1 → n < f → (∀ b, best = some b → b < 1024) → f_X12_doorsBetween_29 f 133 (Int32.ofNat p) (Int32.ofNat q) (Int32.ofNat 0) (Int32.ofNat (hs A 5) ^^^ (-Int32.ofNat 1)) (oN best) (Int32.ofNat i) μ = some (oN (fo (bst (gB A (ht A 8 p) (ht A 8 q))) n i best), μ) := by
  have hop := H.op1
  have hnr := H.nr
  have hnd := H.nd
  have hr := (H.pers hp).1
  have ho := (H.pers hq).1
  have g1 := H.gj (j := 1) (by decide)
  have g5 := H.gj (j := 5) (by decide)
  have p0 := H.personOf (k := 0) (by decide) hp
  have q0 := H.personOf (k := 0) (by decide) hq
  have h2 : 2 ^ hs A 1 ≤ 1024 := Nat.pow_le_pow_right (n := 2) (by decide) hnd
  have h7 := p128 (show ht A 8 p < 7 by omega)
  intro n
  induction n with
  | zero =>
    intro f i best e hf hb
    cases f with
    | zero => omega
    | succ f =>
      simp (disch := omega) only [f_X12_doorsBetween_29, C.g133_0, g1, o_bind, z_lit, z_bit, z_le]
      rw [if_pos (by omega)]; rfl
  | succ n ih =>
    intro f i best e hf hb
    cases f with
    | zero => omega
    | succ f =>
      have hx := or1024 hop (show i < 1024 by omega)
      have hxa : i &&& hs A 5 < 1024 := and1024 hop
      have hl := hReach_lt H.2.2 (op := hs A 5 ||| i) h7
      have p1 := pc_le (s := i)
      have hoN := oN_none (o := best) (fun d hd => by have := hb d hd; omega)
      rw [fo]
      have ihi := ih f (i + 1) (some i) (by omega) (by omega) (fun b x => by cases x; omega)
      have ihb := ih f (i + 1) best (by omega) (by omega) hb
      have tail : ∀ k29 can, f_X12_doorsBetween_74 k29 133 (Int32.ofNat p) (Int32.ofNat q) (Int32.ofNat 0) can (oN best) (Int32.ofNat i) μ = if (hReach A (hs A 5 ||| i) (2 ^ ht A 8 p)).testBit (ht A 8 q) = false then k29 133 (Int32.ofNat p) (Int32.ofNat q) (Int32.ofNat 0) can (oN best) (Int32.ofNat (i + 1)) μ else k29 133 (Int32.ofNat p) (Int32.ofNat q) (Int32.ofNat 0) can (Int32.ofNat i) (Int32.ofNat (i + 1)) μ := by
        intro k29 can
        simp (disch := omega) only [f_X12_doorsBetween_74, f_X12_doorsBetween_110, f_X12_doorsBetween_135, C.v133, C.g133_0, p0, q0, g5, o_bind, o_call, z_lit, z_bit, z_or, Nat.add_zero, H.reaches (show hs A 5 ||| i < 2147483648 by omega) h7, hReachM_eq H.2.2 h7, f_isIn, z_add, b0, eq_self, if_true]
      simp (disch := omega) only [f_X12_doorsBetween_29, f_X12_doorsBetween_135, C.g133_0, g1, o_bind, z_lit, z_bit, z_le, z_nn, z_and i (hs A 5), z_eq, hoN, tail, z_add]
      rw [if_neg (show ¬ 2 ^ hs A 1 ≤ i by omega)]
      by_cases q2 : i &&& hs A 5 = 0
      · rw [if_pos q2]
        have eg : gB A (ht A 8 p) (ht A 8 q) i = (hReach A (hs A 5 ||| i) (2 ^ ht A 8 p)).testBit (ht A 8 q) := by simp [gB, q2]
        by_cases hn : best = none
        · subst hn
          rw [if_pos rfl]
          cases q3 : (hReach A (hs A 5 ||| i) (2 ^ ht A 8 p)).testBit (ht A 8 q)
          · rw [if_pos rfl, bst_no (by rw [eg, q3])]
            exact ihb
          · rw [if_neg (by decide), show bst (gB A (ht A 8 p) (ht A 8 q)) i none = some i from if_pos ⟨by rw [eg, q3], rfl⟩]
            exact ihi
        · obtain ⟨b, rfl⟩ : ∃ b, best = some b := by
            cases best with
            | none => exact absurd rfl hn
            | some b => exact ⟨b, rfl⟩
          have hb' := hb b rfl
          have p2 := pc_le (s := b)
          have fb : f_X12_bits (oN (some b)) μ = some (Int32.ofNat (pc b), μ) := f_bits hb'
          rw [if_neg hn]
          simp (disch := omega) only [f_bits, fb, o_call, z_lt, tail]
          by_cases q4 : pc i < pc b
          · rw [if_pos q4]
            cases q3 : (hReach A (hs A 5 ||| i) (2 ^ ht A 8 p)).testBit (ht A 8 q)
            · rw [if_pos rfl, bst_no (by rw [eg, q3])]
              exact ihb
            · rw [if_neg (by decide), show bst (gB A (ht A 8 p) (ht A 8 q)) i (some b) = some i from if_pos ⟨by rw [eg, q3], decide_eq_true q4⟩]
              exact ihi
          · rw [if_neg q4, show bst (gB A (ht A 8 p) (ht A 8 q)) i (some b) = some b from if_neg (fun x => q4 (of_decide_eq_true x.2))]
            exact ihb
      · rw [if_neg q2, bst_no (by simp [gB, q2])]
        exact ihb
/-- what the search finds is of the least size -/
theorem bst_all {g : Nat → Bool} : ∀ (n i : Nat) (b : Option Nat), (fo (bst g) n i b = none → b = none ∧ ∀ s, i ≤ s → s < i + n → g s = false) ∧ (∀ v, fo (bst g) n i b = some v → (b = some v ∨ (i ≤ v ∧ v < i + n ∧ g v = true)) ∧ (∀ u, b = some u → pc v ≤ pc u) ∧ ∀ s, i ≤ s → s < i + n → g s = true → pc v ≤ pc s)
  | 0, i, b => ⟨fun h => ⟨h, fun s a c => by omega⟩, fun v h => ⟨Or.inl h, fun u hu => by have h' : b = some v := h; rw [h'] at hu; cases hu; exact Nat.le_refl _, fun s a c => by omega⟩⟩
  | n + 1, i, b => by
    obtain ⟨h1, h2⟩ := bst_all (g := g) n (i + 1) (bst g i b)
    rw [fo]
    by_cases q : g i = true ∧ btr b i = true
    · have e : bst g i b = some i := if_pos q
      rw [e] at h1 h2 ⊢
      refine ⟨fun h => (by have := (h1 h).1; cases this), fun v h => ?_⟩
      obtain ⟨a, c, d⟩ := h2 v h
      have ci := c i rfl
      refine ⟨?_, fun u hu => ?_, fun s s1 s2 s3 => ?_⟩
      · rcases a with a | a
        · cases a; exact Or.inr ⟨by omega, by omega, q.1⟩
        · exact Or.inr ⟨by omega, by omega, a.2.2⟩
      · have q2 := q.2
        rw [hu] at q2
        have := of_decide_eq_true q2
        omega
      · by_cases x : s = i
        · rw [x]; exact ci
        · exact d s (by omega) (by omega) s3
    · have e : bst g i b = b := if_neg q
      rw [e] at h1 h2 ⊢
      refine ⟨fun h => ⟨(h1 h).1, fun s s1 s2 => ?_⟩, fun v h => ?_⟩
      · by_cases x : s = i
        · cases y : g i
          · rw [x]; exact y
          · exfalso
            apply q
            rw [(h1 h).1]
            exact ⟨y, rfl⟩
        · exact (h1 h).2 s (by omega) (by omega)
      · obtain ⟨a, c, d⟩ := h2 v h
        refine ⟨?_, c, fun s s1 s2 s3 => ?_⟩
        · rcases a with a | a
          · exact Or.inl a
          · exact Or.inr ⟨by omega, by omega, a.2.2⟩
        · by_cases x : s = i
          · subst x
            cases hb : b with
            | none => exfalso; apply q; rw [hb]; exact ⟨s3, rfl⟩
            | some u =>
              have := c u hb
              by_cases y : pc s < pc u
              · exfalso; apply q; rw [hb]; exact ⟨s3, decide_eq_true y⟩
              · omega
          · exact d s (by omega) (by omega) s3
/-! levels -/
def Lv (A : aH) (r : Nat) : Nat → Nat
  | 0 => hReach A (hs A 5) (2 ^ r)
  | k + 1 => hReach A (hs A 5) (hStep A (allD A) (Lv A r k))
theorem djF_some {A : aH} {r o : Nat} : ∀ (n i k : Nat), djF A o n i (Lv A r i) = some k → k < i + n ∧ (Lv A r k).testBit o = true ∧ ∀ j, i ≤ j → j < k → ¬ (Lv A r j).testBit o = true
  | 0, _, _, h => by cases h
  | n + 1, i, k, h => by
    rw [djF] at h
    by_cases q : (Lv A r i).testBit o = true
    · rw [if_pos q] at h
      cases h
      exact ⟨by omega, q, fun j a b => by omega⟩
    · rw [if_neg q] at h
      obtain ⟨a, b, c⟩ := djF_some n (i + 1) k h
      refine ⟨by omega, b, fun j j1 j2 => ?_⟩
      by_cases x : j = i
      · rw [x]; exact q
      · exact c j (by omega) j2
theorem djF_none {A : aH} {r o : Nat} : ∀ (n i : Nat), djF A o n i (Lv A r i) = none → ∀ j, i ≤ j → j < i + n → ¬ (Lv A r j).testBit o = true
  | 0, _, _, j, a, b => by omega
  | n + 1, i, h, j, a, b => by
    rw [djF] at h
    by_cases q : (Lv A r i).testBit o = true
    · rw [if_pos q] at h; cases h
    · rw [if_neg q] at h
      by_cases x : j = i
      · rw [x]; exact q
      · exact djF_none n (i + 1) h j (by omega) (by omega)
theorem Lv_lt {A : aH} (W : hWF A) {r : Nat} (hr : r < 7) : ∀ k, Lv A r k < 128
  | 0 => hReach_lt W (p128 hr)
  | k + 1 => hReach_lt W (hStep_lt W (Lv_lt W hr k))
theorem Lv_cl {A : aH} (W : hWF A) {r : Nat} (hr : r < 7) : ∀ k, hCl A (hs A 5) (Lv A r k)
  | 0 => hReach_cl W (p128 hr)
  | k + 1 => hReach_cl W (hStep_lt W (Lv_lt W hr k))
theorem Lv_step {A : aH} {r k : Nat} : sub (hStep A (allD A) (Lv A r k)) (Lv A r (k + 1)) := hReach_up
theorem Lv_up {A : aH} {r : Nat} : ∀ (m k : Nat), sub (Lv A r k) (Lv A r (k + m))
  | 0, _ => sub.rf
  | m + 1, k => (Lv_up m k).tr (hStep_all.1.tr Lv_step)
theorem Lv_r {A : aH} {r : Nat} (k : Nat) : (Lv A r k).testBit r = true := by
  have := Lv_up (A := A) (r := r) k 0 r hReach_in
  rw [Nat.zero_add] at this
  exact this
theorem allD_bit {A : aH} {d : Nat} (h : d < hs A 1) : (allD A).testBit d = true := by
  unfold allD
  rw [Nat.testBit_two_pow_sub_one, decide_eq_true h]
theorem hReach_op {A : aH} (W : hWF A) {op op' X : Nat} (hX : X < 128) (h : sub op op') : sub (hReach A op X) (hReach A op' X) :=
  hReach_least (fun d hd ho hx => hReach_cl W hX d hd (h d ho) hx) hReach_up
theorem pc_or1 : ∀ s, s < 1024 → ∀ d, d < 10 → pc (s ||| 2 ^ d) ≤ pc s + 1 := by decide +kernel
theorem pc_n : ∀ n, n < 11 → ∀ s, s < 1024 → s < 2 ^ n → pc s ≤ n := by decide +kernel
theorem Lv_set {A : aH} (W : hWF A) {r : Nat} (hr : r < 7) : ∀ (k v : Nat), (Lv A r k).testBit v = true → ∃ s, s < 2 ^ hs A 1 ∧ s &&& hs A 5 = 0 ∧ pc s ≤ k ∧ (hReach A (hs A 5 ||| s) (2 ^ r)).testBit v = true
  | 0, v, h => ⟨0, Nat.two_pow_pos _, Nat.zero_and _, by decide, by rw [Nat.or_zero]; exact h⟩
  | k + 1, v, h => by
    have hnd := W.1.2.1
    have h2 : 2 ^ hs A 1 ≤ 1024 := Nat.pow_le_pow_right (n := 2) (by decide) hnd
    have h7 := p128 hr
    obtain ⟨u, h1, h3⟩ := it_add 7 _ h
    have fin : ∀ s, s < 2 ^ hs A 1 → s &&& hs A 5 = 0 → pc s ≤ k + 1 → (hReach A (hs A 5 ||| s) (2 ^ r)).testBit u = true → ∃ s, s < 2 ^ hs A 1 ∧ s &&& hs A 5 = 0 ∧ pc s ≤ k + 1 ∧ (hReach A (hs A 5 ||| s) (2 ^ r)).testBit v = true := by
      intro s a b c d
      refine ⟨s, a, b, c, ?_⟩
      refine hReach_least (A := A) (op := hs A 5) (X := 2 ^ u) (T := hReach A (hs A 5 ||| s) (2 ^ r)) (fun e he ho hx => hReach_cl W h7 e he ?_ hx) (sub_two d) v h3
      rw [Nat.testBit_or, ho]; rfl
    rw [hStep_bit] at h1
    rcases h1 with h1 | ⟨d, hd, _, h4, h5⟩
    · obtain ⟨s, a, b, c, e⟩ := Lv_set W hr k u h1
      exact fin s a b (by omega) e
    · have hx : ∃ x, (Lv A r k).testBit x = true ∧ (x = ht A 0 d ∨ x = ht A 1 d) := by
        rcases h4 with h4 | h4
        · exact ⟨_, h4, Or.inl rfl⟩
        · exact ⟨_, h4, Or.inr rfl⟩
      obtain ⟨x, x1, x2⟩ := hx
      obtain ⟨s, a, b, c, e⟩ := Lv_set W hr k x x1
      have go : ∀ op', op'.testBit d = true → (hReach A op' (2 ^ r)).testBit x = true → (hReach A op' (2 ^ r)).testBit u = true := by
        intro op' ho hx'
        have := hReach_cl W h7 (op := op') d hd ho (by rcases x2 with x2 | x2 <;> rw [x2] at hx' <;> simp [hx'])
        rcases h5 with h5 | h5 <;> rw [← h5]
        · exact this.1
        · exact this.2
      by_cases q : (hs A 5).testBit d = true
      · exact fin s a b (by omega) (go _ (by rw [Nat.testBit_or, q]; rfl) e)
      · have hlt : s ||| 2 ^ d < 2 ^ hs A 1 := Nat.or_lt_two_pow a (Nat.pow_lt_pow_right (by decide) hd)
        refine fin (s ||| 2 ^ d) hlt ?_ ?_ ?_
        · apply Nat.eq_of_testBit_eq
          intro i
          have b' := congrArg (fun y => Nat.testBit y i) b
          simp only [Nat.testBit_and, Nat.zero_testBit] at b'
          rw [Nat.testBit_and, Nat.testBit_or, Nat.testBit_two_pow, Nat.zero_testBit]
          by_cases y : d = i
          · rw [← y]
            have : (hs A 5).testBit d = false := by simpa using q
            rw [this, Bool.and_false]
          · rw [decide_eq_false y, Bool.or_false]; exact b'
        · have := pc_or1 s (by omega) d (by omega)
          omega
        · refine go _ ?_ ?_
          · rw [Nat.testBit_or, Nat.testBit_or, Nat.testBit_two_pow, decide_eq_true rfl]; simp
          · refine hReach_op W h7 (fun i hi => ?_) x e
            rw [Nat.testBit_or] at hi
            rw [Nat.testBit_or, Nat.testBit_or, ← Bool.or_assoc, hi]; rfl
def crs (A : aH) (r j d : Nat) : Prop := (((Lv A r j).testBit (ht A 0 d) = true ∧ ¬ (Lv A r j).testBit (ht A 1 d) = true) ∨ ((Lv A r j).testBit (ht A 1 d) = true ∧ ¬ (Lv A r j).testBit (ht A 0 d) = true))
theorem crs_one {A : aH} {r i j d : Nat} (hd : d < hs A 1) (h : i < j) (h1 : crs A r i d) (h2 : crs A r j d) : False := by
  have hx : (Lv A r i).testBit (ht A 0 d) = true ∨ (Lv A r i).testBit (ht A 1 d) = true := by
    rcases h1 with h1 | h1
    · exact Or.inl h1.1
    · exact Or.inr h1.1
  have a := (hStep_all (A := A) (op := allD A) (X := Lv A r i)).2 d hd (allD_bit hd) hx
  have e : i + 1 + (j - (i + 1)) = j := by omega
  have up := Lv_up (A := A) (r := r) (j - (i + 1)) (i + 1)
  rw [e] at up
  have b0' := up _ (Lv_step _ a.1)
  have b1' := up _ (Lv_step _ a.2)
  rcases h2 with h2 | h2
  · exact h2.2 b1'
  · exact h2.2 b0'
theorem crs_count {A : aH} {r : Nat} (hnd : hs A 1 ≤ 10) : ∀ (K s : Nat), s < 1024 → (∀ j, j < K → ∃ d, d < hs A 1 ∧ s.testBit d = true ∧ crs A r j d) → K ≤ pc s
  | 0, _, _, _ => Nat.zero_le _
  | K + 1, s, hs', h => by
    obtain ⟨d, d1, d2, d3⟩ := h K (by omega)
    obtain ⟨r1, r2⟩ := pc_rem s hs' d (by omega) d2
    have := crs_count (A := A) (r := r) hnd K (s ^^^ 2 ^ d) r1 (fun j hj => by
      obtain ⟨e, e1, e2, e3⟩ := h j (by omega)
      refine ⟨e, e1, ?_, e3⟩
      have hne : ¬ d = e := fun x => by rw [x] at d3; exact crs_one e1 hj e3 d3
      rw [Nat.testBit_xor, Nat.testBit_two_pow, decide_eq_false hne, e2]; rfl)
    omega
theorem Lv_of {A : aH} (W : hWF A) {r o s : Nat} (hr : r < 7) (hs' : s < 1024) (h : (hReach A (hs A 5 ||| s) (2 ^ r)).testBit o = true) : (Lv A r (pc s)).testBit o = true := by
  have hnd := W.1.2.1
  cases q : (Lv A r (pc s)).testBit o
  · exfalso
    have key : ∀ j, j < pc s + 1 → ∃ d, d < hs A 1 ∧ s.testBit d = true ∧ crs A r j d := by
      intro j hj
      refine Classical.byContradiction (fun hno => ?_)
      have cl : hCl A (hs A 5 ||| s) (Lv A r j) := by
        intro d hd ho hx
        rw [Nat.testBit_or, Bool.or_eq_true] at ho
        rcases ho with ho | ho
        · exact Lv_cl W hr j d hd ho hx
        · cases x0 : (Lv A r j).testBit (ht A 0 d) <;> cases x1 : (Lv A r j).testBit (ht A 1 d)
          · rw [x0, x1] at hx; rcases hx with hx | hx <;> cases hx
          · exact absurd ⟨d, hd, ho, Or.inr ⟨x1, by rw [x0]; decide⟩⟩ hno
          · exact absurd ⟨d, hd, ho, Or.inl ⟨x0, by rw [x1]; decide⟩⟩ hno
          · exact ⟨rfl, rfl⟩
      have a := hReach_least cl (sub_two (Lv_r j)) o h
      have up := Lv_up (A := A) (r := r) (pc s - j) j o a
      rw [show j + (pc s - j) = pc s by omega, q] at up
      cases up
    have := crs_count hnd (pc s + 1) s hs' key
    omega
  · rfl
theorem to_eq {A : aH} (W : hWF A) {r o : Nat} (hr : r < 7) : (fo (bst (gB A r o)) (2 ^ hs A 1) 0 none).map pc = toO A r o := by
  have hnd := W.1.2.1
  have h2 : 2 ^ hs A 1 ≤ 1024 := Nat.pow_le_pow_right (n := 2) (by decide) hnd
  obtain ⟨n1, n2⟩ := bst_all (g := gB A r o) (2 ^ hs A 1) 0 none
  cases hb : fo (bst (gB A r o)) (2 ^ hs A 1) 0 none with
  | none =>
    have no := (n1 hb).2
    cases ht' : toO A r o with
    | none => rfl
    | some k =>
      exfalso
      obtain ⟨a, b, c⟩ := djF_some (hs A 1 + 1) 0 k ht'
      obtain ⟨s, s1, s2, s3, s4⟩ := Lv_set W hr k o b
      have := no s (by omega) (by omega)
      simp [gB, s2, s4] at this
  | some v =>
    obtain ⟨a, _, c⟩ := n2 v hb
    rcases a with a | ⟨_, a2, a3⟩
    · cases a
    · unfold gB at a3
      rw [Bool.and_eq_true, decide_eq_true_iff] at a3
      have hin := Lv_of W hr (show v < 1024 by omega) a3.2
      have hpn := pc_n (hs A 1) (by omega) v (by omega) (by omega)
      cases ht' : toO A r o with
      | none => exact absurd hin (djF_none (hs A 1 + 1) 0 ht' _ (by omega) (by omega))
      | some k =>
        obtain ⟨a, b, d⟩ := djF_some (hs A 1 + 1) 0 k ht'
        obtain ⟨s, s1, s2, s3, s4⟩ := Lv_set W hr k o b
        have le1 := c s (by omega) (by omega) (by simp [gB, s2, s4])
        have ge1 : k ≤ pc v := Classical.byContradiction (fun hlt => d (pc v) (by omega) (by omega) hin)
        show some (pc v) = some k
        rw [show pc v = k by omega]
theorem bst_lt {g : Nat → Bool} {n v : Nat} (h : fo (bst g) n 0 none = some v) : v < n := by
  rcases ((bst_all (g := g) n 0 none).2 v h).1 with a | a
  · cases a
  · omega
theorem MH.together {μ : dtM} {A : aH} (H : MH μ 0 0 A) (C : CX μ) {p q : Nat} (hp : p < hs A 3) (hq : q < hs A 3) : f_X12_doorsBetween 133 (Int32.ofNat p) (Int32.ofNat q) (Int32.ofNat 0) μ = some (oN (fo (bst (gB A (ht A 8 p) (ht A 8 q))) (2 ^ hs A 1) 0 none), μ) := by
  have hnd := H.nd
  have h2 : 2 ^ hs A 1 ≤ 1024 := Nat.pow_le_pow_right (n := 2) (by decide) hnd
  have g5 := H.gj (j := 5) (by decide)
  have key := H.dc29 C hp hq (2 ^ hs A 1) dtFuel 0 none (by omega) (dtFuel_gt (by omega)) (fun b x => by cases x)
  simp only [f_X12_doorsBetween, f_X12_doorsBetween_21, C.g133_0, g5, o_bind, z_lit]
  rw [if_pos trivial]
  exact key
theorem cs45 {μ : dtM} {w : aW} {f : aF} {A : aH} {z : aZ} (HP : RP μ w f A z) (HM : RM μ f A z) (W : dWF A (zD z)) (x y : Int32) : both (f_X11_together 0 x y) (f_X12_together 133 x y) μ := by
  have C := HP.c
  have HH := HP.ph
  have g5 := HP.g5
  have hnr := HH.nr
  have hnd := HH.nd
  have hnw := HH.nw
  have hnp := HH.np
  cases hq : (inR x (hs A 3) && inR y (hs A 3) && !decide (x = y))
  · refine both.no HP HM W (-Int32.ofNat 1) (Int32.ofNat 1) ?_ (fun μ1 R1 => ?_)
    · simp only [f_X11_together, p_areTwo HP, hq, p_fail C, C.v0, o_bind, o_call, z_lit, b0, o_ret0', o_ret1', o_bI, Bool.true_eq_false, Bool.false_eq_true, eq_self, if_true, if_false]
    · simp only [f_X12_together, f_X12_together_45, n_areTwo R1, hq, n_refuse R1.c, R1.c.v133, o_bind, o_call, z_lit, b0, o_ret0', o_ret1', o_bI, Bool.true_eq_false, Bool.false_eq_true, eq_self, if_true, if_false]
  · have hq' := hq
    simp only [Bool.and_eq_true, Bool.not_eq_true', decide_eq_false_iff_not] at hq'
    obtain ⟨p, hp, rfl⟩ := inR_t (by omega) hq'.1.1
    obtain ⟨s, hs', rfl⟩ := inR_t (by omega) hq'.1.2
    have pr := (HH.pers hp).1
    have ps := (HH.pers hs').1
    have hv : ∀ v, toO A (ht A 8 p) (ht A 8 s) = some v → v < 2147483648 := fun v e => by
      obtain ⟨a, _, _⟩ := djF_some (hs A 1 + 1) 0 v e
      omega
    refine both.no HP HM W (oN (toO A (ht A 8 p) (ht A 8 s))) (oS (toO A (ht A 8 p) (ht A 8 s))) ?_ (fun μ1 R1 => ?_)
    · simp only [f_X11_together, p_areTwo HP, hq, g5, HH.r14, HH.l8 hp, HH.l8 hs', HH.doorsToJoin pr ps, C.v0, p_found C hv, o_bind, o_call, z_lit, b0, o_ret0', o_ret1', o_bI, Bool.true_eq_false, Bool.false_eq_true, eq_self, if_true, if_false]
    · have h2 : 2 ^ hs A 1 ≤ 1024 := Nat.pow_le_pow_right (n := 2) (by decide) hnd
      simp only [f_X12_together, f_X12_together_45, n_areTwo R1, hq, R1.mh.together R1.c hp hs', R1.c.v133, ← to_eq HH.2.2 (show ht A 8 p < 7 by omega), o_bind, o_call, z_lit, b0, o_ret0', o_ret1', o_bI, Bool.true_eq_false, Bool.false_eq_true, eq_self, if_true, if_false]
      cases e : fo (bst (gB A (ht A 8 p) (ht A 8 s))) (2 ^ hs A 1) 0 none with
      | none => simp only [oN, oS, eq_self, if_true, Option.map_none, n_refuse R1.c, R1.c.v133, o_call, o_bind]
      | some v =>
        have := bst_lt e
        have p1 := pc_le (s := v)
        simp (disch := omega) only [oN, oS, z_neg, if_false, f_bits, Option.map_some, n_gives R1.c, R1.c.v133, o_call, o_bind]
