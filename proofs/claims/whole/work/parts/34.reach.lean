/-! PURE 5: what is reached is the least closed set, on both sides -/
def sub (X Y : Nat) : Prop := ∀ i, X.testBit i = true → Y.testBit i = true
theorem sub.rf {X : Nat} : sub X X := fun _ h => h
theorem sub.tr {X Y Z : Nat} (h : sub X Y) (g : sub Y Z) : sub X Z := fun i q => g i (h i q)
theorem sub.anti {X Y : Nat} (h : sub X Y) (g : sub Y X) : X = Y := by
  apply Nat.eq_of_testBit_eq
  intro i
  cases hx : X.testBit i <;> cases hy : Y.testBit i <;> try rfl
  · rw [g i hy] at hx; cases hx
  · rw [h i hx] at hy; cases hy
theorem hBo_bit {A : aH} {d i : Nat} : (hBo A d).testBit i = (decide (ht A 0 d = i) || decide (ht A 1 d = i)) := by
  rw [hBo, Nat.testBit_or, Nat.testBit_two_pow, Nat.testBit_two_pow]
theorem hGo_eq {A : aH} {op d X : Nat} : hGo A op d X = (op.testBit d && (X.testBit (ht A 0 d) || X.testBit (ht A 1 d))) := by
  unfold hGo
  congr 1
  by_cases h : X &&& hBo A d = 0
  · have q : ∀ i, (X.testBit i && (hBo A d).testBit i) = false := fun i => by rw [← Nat.testBit_and, h, Nat.zero_testBit]
    have q0 := q (ht A 0 d)
    have q1 := q (ht A 1 d)
    rw [hBo_bit] at q0 q1
    simp at q0 q1
    simp [h, q0, q1]
  · have hne : (X &&& hBo A d == 0) = false := by simpa using h
    rw [hne]
    cases h0 : X.testBit (ht A 0 d)
    · cases h1 : X.testBit (ht A 1 d)
      · exfalso
        apply h
        apply Nat.eq_of_testBit_eq
        intro i
        rw [Nat.testBit_and, hBo_bit, Nat.zero_testBit]
        by_cases e0 : ht A 0 d = i
        · rw [← e0, h0]; rfl
        · by_cases e1 : ht A 1 d = i
          · rw [← e1, h1]; rfl
          · simp [e0, e1]
      · rfl
    · rfl
theorem hS1_bit {A : aH} {op X d acc i : Nat} : (hS1 A op X d acc).testBit i = (acc.testBit i || (op.testBit d && (X.testBit (ht A 0 d) || X.testBit (ht A 1 d)) && (decide (ht A 0 d = i) || decide (ht A 1 d = i)))) := by
  rw [hS1, hGo_eq]
  by_cases h : (op.testBit d && (X.testBit (ht A 0 d) || X.testBit (ht A 1 d))) = true
  · rw [if_pos h, Nat.testBit_or, hBo_bit, h, Bool.true_and]
  · rw [if_neg h]
    have : (op.testBit d && (X.testBit (ht A 0 d) || X.testBit (ht A 1 d))) = false := by simpa using h
    rw [this, Bool.false_and, Bool.or_false]
theorem hS1_up {A : aH} {op X d acc : Nat} : sub acc (hS1 A op X d acc) := fun i h => by rw [hS1_bit, h]; rfl
theorem hS1_in {A : aH} {op X d acc : Nat} (ho : op.testBit d = true) (ht' : X.testBit (ht A 0 d) = true ∨ X.testBit (ht A 1 d) = true) : (hS1 A op X d acc).testBit (ht A 0 d) = true ∧ (hS1 A op X d acc).testBit (ht A 1 d) = true := by
  have : (X.testBit (ht A 0 d) || X.testBit (ht A 1 d)) = true := by rcases ht' with h | h <;> simp [h]
  constructor <;> rw [hS1_bit, ho, this] <;> simp
def hCl (A : aH) (op T : Nat) : Prop := ∀ d, d < hs A 1 → op.testBit d = true → T.testBit (ht A 0 d) = true ∨ T.testBit (ht A 1 d) = true → T.testBit (ht A 0 d) = true ∧ T.testBit (ht A 1 d) = true
theorem hS1_le {A : aH} {op X d acc T : Nat} (hT : hCl A op T) (hd : d < hs A 1) (hX : sub X T) (ha : sub acc T) : sub (hS1 A op X d acc) T := by
  intro i h
  rw [hS1_bit] at h
  cases hacc : acc.testBit i
  · rw [hacc, Bool.false_or] at h
    simp only [Bool.and_eq_true, Bool.or_eq_true, decide_eq_true_eq] at h
    have c := hT d hd h.1.1 (h.1.2.imp (hX _) (hX _))
    rcases h.2 with e | e
    · rw [← e]; exact c.1
    · rw [← e]; exact c.2
  · exact ha i hacc
theorem hStep_le {A : aH} {op X T : Nat} (hT : hCl A op T) (hX : sub X T) : sub (hStep A op X) T := fo_ind (P := fun _ a => sub a T) (fun i a hi ha => hS1_le hT hi hX ha) (hs A 1) 0 X (by omega) hX
theorem hStepM_le {A : aH} {op X T : Nat} (hT : hCl A op T) (hX : sub X T) : sub (hStepM A op X) T := fo_ind (P := fun _ a => sub a T) (fun i a hi ha => hS1_le hT hi ha ha) (hs A 1) 0 X (by omega) hX
theorem hStep_all {A : aH} {op X : Nat} : sub X (hStep A op X) ∧ ∀ d, d < hs A 1 → op.testBit d = true → X.testBit (ht A 0 d) = true ∨ X.testBit (ht A 1 d) = true → (hStep A op X).testBit (ht A 0 d) = true ∧ (hStep A op X).testBit (ht A 1 d) = true := by
  refine fo_ind (N := hs A 1) (P := fun n a => sub X a ∧ ∀ d, d < n → op.testBit d = true → X.testBit (ht A 0 d) = true ∨ X.testBit (ht A 1 d) = true → a.testBit (ht A 0 d) = true ∧ a.testBit (ht A 1 d) = true) (fun i a hi ha => ?_) (hs A 1) 0 X (by omega) ⟨sub.rf, fun d hd => absurd hd (Nat.not_lt_zero d)⟩
  refine ⟨ha.1.tr hS1_up, fun d hd ho hx => ?_⟩
  by_cases e : d = i
  · subst e; exact hS1_in ho hx
  · have := ha.2 d (by omega) ho hx
    exact ⟨hS1_up _ this.1, hS1_up _ this.2⟩
theorem hStepM_all {A : aH} {op X : Nat} : sub X (hStepM A op X) ∧ ∀ d, d < hs A 1 → op.testBit d = true → X.testBit (ht A 0 d) = true ∨ X.testBit (ht A 1 d) = true → (hStepM A op X).testBit (ht A 0 d) = true ∧ (hStepM A op X).testBit (ht A 1 d) = true := by
  refine fo_ind (N := hs A 1) (P := fun n a => sub X a ∧ ∀ d, d < n → op.testBit d = true → X.testBit (ht A 0 d) = true ∨ X.testBit (ht A 1 d) = true → a.testBit (ht A 0 d) = true ∧ a.testBit (ht A 1 d) = true) (fun i a hi ha => ?_) (hs A 1) 0 X (by omega) ⟨sub.rf, fun d hd => absurd hd (Nat.not_lt_zero d)⟩
  refine ⟨ha.1.tr hS1_up, fun d hd ho hx => ?_⟩
  by_cases e : d = i
  · subst e; exact hS1_in ho (hx.imp (ha.1 _) (ha.1 _))
  · have := ha.2 d (by omega) ho hx
    exact ⟨hS1_up _ this.1, hS1_up _ this.2⟩
def c7 (x : Nat) : Nat := x % 2 + x / 2 % 2 + x / 4 % 2 + x / 8 % 2 + x / 16 % 2 + x / 32 % 2 + x / 64 % 2
theorem c7_le (x : Nat) : c7 x ≤ 7 := by unfold c7; omega
theorem c7_lt : ∀ X, X < 128 → ∀ Y, Y < 128 → X ||| Y = Y → ¬ X = Y → c7 X < c7 Y := by decide +kernel
theorem sub.or {X Y : Nat} (h : sub X Y) : X ||| Y = Y := by
  apply Nat.eq_of_testBit_eq
  intro i
  rw [Nat.testBit_or]
  cases hx : X.testBit i
  · rfl
  · rw [h i hx]; rfl
theorem it_grow {f : Nat → Nat} (hf : ∀ x, x < 128 → f x < 128) (hi : ∀ x, sub x (f x)) : ∀ (n x : Nat), x < 128 → f (it f n x) = it f n x ∨ c7 x + n ≤ c7 (it f n x)
  | 0, _, _ => Or.inr (Nat.le_refl _)
  | n + 1, x, hx => by
    by_cases e : f x = x
    · left
      rw [it_fix e]; exact e
    · have := c7_lt x hx (f x) (hf x hx) (hi x).or (fun q => e q.symm)
      rcases it_grow hf hi n (f x) (hf x hx) with q | q
      · exact Or.inl q
      · right
        rw [it]; omega
theorem it_conv {f : Nat → Nat} (hf : ∀ x, x < 128 → f x < 128) (hi : ∀ x, sub x (f x)) {x : Nat} (hx : x < 128) : f (it f 7 x) = it f 7 x := by
  by_cases e : f (it f 7 x) = it f 7 x
  · exact e
  · exfalso
    have hl := it_lt hf 7 x hx
    have := c7_lt _ hl _ (hf _ hl) (hi _).or (fun q => e q.symm)
    have := c7_le (f (it f 7 x))
    rcases it_grow hf hi 7 x hx with q | q
    · exact e q
    · omega
theorem it_up {f : Nat → Nat} (hi : ∀ x, sub x (f x)) : ∀ (n x : Nat), sub x (it f n x)
  | 0, _ => sub.rf
  | n + 1, x => (hi x).tr (it_up hi n (f x))
theorem it_below {f : Nat → Nat} {T : Nat} (hf : ∀ x, sub x T → sub (f x) T) : ∀ (n x : Nat), sub x T → sub (it f n x) T
  | 0, _, h => h
  | n + 1, x, h => it_below hf n (f x) (hf x h)
theorem hReach_up {A : aH} {op X : Nat} : sub X (hReach A op X) := it_up (fun _ => hStep_all.1) 7 X
theorem hReachM_up {A : aH} {op X : Nat} : sub X (hReachM A op X) := it_up (fun _ => hStepM_all.1) 7 X
theorem hReach_lt {A : aH} (W : hWF A) {op X : Nat} (hX : X < 128) : hReach A op X < 128 := it_lt (fun _ h => hStep_lt W h) 7 X hX
theorem hReach_fix {A : aH} (W : hWF A) {op X : Nat} (hX : X < 128) : hStep A op (hReach A op X) = hReach A op X := it_conv (fun _ h => hStep_lt W h) (fun _ => hStep_all.1) hX
theorem hReach_cl {A : aH} (W : hWF A) {op X : Nat} (hX : X < 128) : hCl A op (hReach A op X) := by
  intro d hd ho hx
  have := hStep_all.2 d hd ho hx
  rw [hReach_fix W hX] at this
  exact this
theorem hReachM_cl {A : aH} (W : hWF A) {op X : Nat} (hX : X < 128) : hCl A op (hReachM A op X) := by
  intro d hd ho hx
  have e : hStepM A op (hReachM A op X) = hReachM A op X := it_conv (fun _ h => hStepM_lt W h) (fun _ => hStepM_all.1) hX
  have := hStepM_all.2 d hd ho hx
  rw [e] at this
  exact this
theorem hReach_least {A : aH} {op X T : Nat} (hT : hCl A op T) (hX : sub X T) : sub (hReach A op X) T := it_below (fun _ h => hStep_le hT h) 7 X hX
theorem hReachM_least {A : aH} {op X T : Nat} (hT : hCl A op T) (hX : sub X T) : sub (hReachM A op X) T := it_below (fun _ h => hStepM_le hT h) 7 X hX
theorem hReachM_eq {A : aH} (W : hWF A) {op X : Nat} (hX : X < 128) : hReachM A op X = hReach A op X :=
  sub.anti (hReachM_least (hReach_cl W hX) hReach_up) (hReach_least (hReachM_cl W hX) hReachM_up)
