/-! PURE 42: apart, together -/
theorem p_areTwo {μ : dtM} {w : aW} {f : aF} {A : aH} {z : aZ} (H : RP μ w f A z) (x y : Int32) : f_X11_areTwo 0 x y μ = some (bI (inR x (hs A 3) && inR y (hs A 3) && !decide (x = y)), μ) := by
  simp only [f_X11_areTwo, f_X11_areTwo_31, f_X11_areTwo_32, H.g5, H.ph.rv, o_bind, o_call, H.ph.hasPerson, z_lit, b0, o_ret0', o_ret1']
  cases inR x (hs A 3)
  · rw [if_pos rfl]; rfl
  · rw [if_neg (by decide)]
    cases inR y (hs A 3)
    · rw [if_pos rfl]; rfl
    · rw [if_neg (by decide)]
      by_cases q : x = y
      · rw [if_pos q, decide_eq_true q]; rfl
      · rw [if_neg q, decide_eq_false q]; rfl
theorem n_areTwo {μ : dtM} {f : aF} {A : aH} {z : aZ} (H : RM μ f A z) (x y : Int32) : f_X12_areTwo 133 x y μ = some (bI (inR x (hs A 3) && inR y (hs A 3) && !decide (x = y)), μ) := by
  simp only [f_X12_areTwo, f_X12_areTwo_25, f_X12_areTwo_26, H.c.v133, o_bind, o_call, H.mh.isPerson, z_lit, b0, o_ret0', o_ret1']
  cases inR x (hs A 3)
  · rw [if_pos rfl]; rfl
  · rw [if_neg (by decide)]
    cases inR y (hs A 3)
    · rw [if_pos rfl]; rfl
    · rw [if_neg (by decide)]
      by_cases q : x = y
      · rw [if_pos q, decide_eq_true q]; rfl
      · rw [if_neg q, decide_eq_false q]; rfl
theorem fo_add {α : Type} {f : Nat → α → α} : ∀ (n m i : Nat) (a : α), fo f (n + m) i a = fo f m (i + n) (fo f n i a)
  | 0, m, i, a => by rw [Nat.zero_add]; rfl
  | n + 1, m, i, a => by
    rw [show n + 1 + m = (n + m) + 1 by omega, fo, fo_add n m (i + 1), fo, show i + 1 + n = i + (n + 1) by omega]
theorem xor1024 {a b : Nat} (ha : a < 1024) (hb : b < 1024) : a ^^^ b < 1024 := Nat.xor_lt_two_pow (n := 10) ha hb
theorem or1024 {a b : Nat} (ha : a < 1024) (hb : b < 1024) : a ||| b < 1024 := Nat.or_lt_two_pow (n := 10) ha hb
theorem and1024 {a b : Nat} (hb : b < 1024) : a &&& b < 1024 := Nat.lt_of_le_of_lt Nat.and_le_right hb
theorem xor_sub {s op : Nat} : (s ^^^ (s &&& op) = 0) = (s &&& op = s) := by
  apply propext
  constructor
  · intro h
    apply Nat.eq_of_testBit_eq
    intro i
    have q := congrArg (fun x => Nat.testBit x i) h
    simp only [Nat.testBit_xor, Nat.testBit_and, Nat.zero_testBit] at q
    rw [Nat.testBit_and]
    cases a : s.testBit i <;> cases b : op.testBit i <;> rw [a, b] at q <;> first | rfl | exact absurd q (by decide)
  · intro h
    rw [h, Nat.xor_self]
theorem subset_le {s op : Nat} (h : s &&& op = s) : s ≤ op := by rw [← h]; exact Nat.and_le_right
theorem bit_le {s op k : Nat} (h : s &&& op = s) : s / 2 ^ k % 2 ≤ op / 2 ^ k % 2 := by
  have a : s.testBit k = (s.testBit k && op.testBit k) := by
    have := congrArg (fun x => Nat.testBit x k) h
    simp only [Nat.testBit_and] at this
    exact this.symm
  rw [Nat.testBit_eq_decide_div_mod_eq, Nat.testBit_eq_decide_div_mod_eq] at a
  by_cases x : s / 2 ^ k % 2 = 1
  · by_cases y : op / 2 ^ k % 2 = 1
    · omega
    · simp [x, y] at a
  · omega
theorem pc_mono {s op : Nat} (h : s &&& op = s) : pc s ≤ pc op := by
  have b0' := bit_le (k := 0) h
  have b1' := bit_le (k := 1) h
  have b2' := bit_le (k := 2) h
  have b3' := bit_le (k := 3) h
  have b4' := bit_le (k := 4) h
  have b5' := bit_le (k := 5) h
  have b6' := bit_le (k := 6) h
  have b7' := bit_le (k := 7) h
  have b8' := bit_le (k := 8) h
  have b9' := bit_le (k := 9) h
  rw [Nat.pow_zero, Nat.div_one, Nat.div_one] at b0'
  unfold pc
  exact Nat.add_le_add (Nat.add_le_add (Nat.add_le_add (Nat.add_le_add (Nat.add_le_add (Nat.add_le_add (Nat.add_le_add (Nat.add_le_add (Nat.add_le_add b0' b1') b2') b3') b4') b5') b6') b7') b8') b9'
theorem pc_rem : ∀ s, s < 1024 → ∀ d, d < 10 → s.testBit d = true → s ^^^ 2 ^ d < 1024 ∧ pc (s ^^^ 2 ^ d) + 1 = pc s := by decide +kernel
theorem bit_sub {s op : Nat} (h : s &&& op = s) (i : Nat) : s.testBit i = (s.testBit i && op.testBit i) := by
  have := congrArg (fun x => Nat.testBit x i) h
  simp only [Nat.testBit_and] at this
  exact this.symm
theorem pc_sub {s op : Nat} (hs' : s < 1024) (ho : op < 1024) (h : s &&& op = s) (hne : ¬ s = op) : pc s < pc op := by
  have ex : ∃ i, op.testBit i = true ∧ s.testBit i = false := by
    refine Classical.byContradiction (fun no => hne ?_)
    apply Nat.eq_of_testBit_eq
    intro i
    have q := bit_sub h i
    cases a : s.testBit i
    · cases b : op.testBit i
      · rfl
      · exact absurd ⟨i, b, a⟩ no
    · rw [a, Bool.true_and] at q
      exact q
  obtain ⟨i, hi, hsi⟩ := ex
  have i10 : i < 10 := by
    refine Classical.byContradiction (fun no => ?_)
    rw [Nat.testBit_lt_two_pow (Nat.lt_of_lt_of_le ho (Nat.pow_le_pow_right (n := 2) (by decide) (show 10 ≤ i by omega)))] at hi
    cases hi
  obtain ⟨r1, r2⟩ := pc_rem op ho i i10 hi
  have s' : s &&& (op ^^^ 2 ^ i) = s := by
    apply Nat.eq_of_testBit_eq
    intro j
    have q := bit_sub h j
    rw [Nat.testBit_and, Nat.testBit_xor, Nat.testBit_two_pow]
    by_cases e : i = j
    · rw [← e, hsi]; rfl
    · rw [decide_eq_false e, Bool.xor_false]; exact q.symm
  have := pc_mono s'
  omega
/-! the program's search -/
def gA (A : aH) (r o s : Nat) : Bool := decide (s &&& hs A 5 = s) && !(hReach A (hs A 5 ^^^ s) (2 ^ r)).testBit o
def sP (g : Nat → Bool) (s best : Nat) : Nat := if pc s < pc best ∧ g s = true then s else best
theorem PH.dp15 {μ : dtM} {h : Nat} {A : aH} (H : PH μ h A) {r o : Nat} (hr : r < hs A 0) (ho : o < hs A 0) : ∀ (n f i best : Nat), i + n = hs A 5 → n < f → best < 1024 → f_X10_doorsThatPart_15 f h (Int32.ofNat r) (Int32.ofNat o) (Int32.ofNat best) (Int32.ofNat i) μ = some (Int32.ofNat (fo (sP (gA A r o)) n i best), μ) := by
  have hop := H.op1
  have hnr := H.nr
  intro n
  induction n with
  | zero =>
    intro f i best e hf hb
    cases f with
    | zero => omega
    | succ f =>
      simp (disch := omega) only [f_X10_doorsThatPart_15, H.g5, o_bind, z_le]
      rw [if_pos (by omega)]; rfl
  | succ n ih =>
    intro f i best e hf hb
    cases f with
    | zero => omega
    | succ f =>
      have h7 := p128 (show r < 7 by omega)
      have hx := xor1024 hop (show i < 1024 by omega)
      have hl := hReach_lt H.2.2 (op := hs A 5 ^^^ i) h7
      have hxa : i ^^^ (i &&& hs A 5) < 1024 := xor1024 (by omega) (and1024 hop)
      have p1 := pc_le (s := i)
      have p2 := pc_le (s := best)
      simp (disch := omega) only [f_X10_doorsThatPart_15, f_X10_doorsThatPart_41, f_X10_doorsThatPart_84, H.g5, o_bind, o_call, z_le, z_lit, f_bitCount, eq_self, if_true, z_andnot, z_xor, z_bit, H.reach (show hs A 5 ^^^ i < 2147483648 by omega) h7, f_contains, b0, z_add, z_eq]
      rw [if_neg (by omega), fo]
      by_cases q1 : pc best ≤ pc i
      · rw [if_pos q1, show sP (gA A r o) i best = best from if_neg (fun x => by omega)]
        exact ih f (i + 1) best (by omega) (by omega) hb
      · rw [if_neg q1, if_neg (by decide)]
        by_cases q2 : i &&& hs A 5 = i
        · rw [if_pos (by rw [xor_sub]; exact q2)]
          cases q3 : (hReach A (hs A 5 ^^^ i) (2 ^ r)).testBit o
          · rw [if_pos rfl, show sP (gA A r o) i best = i from if_pos ⟨by omega, by simp [gA, q2, q3]⟩]
            exact ih f (i + 1) i (by omega) (by omega) (by omega)
          · rw [if_neg (by decide), show sP (gA A r o) i best = best from if_neg (fun x => by simp [gA, q3] at x)]
            exact ih f (i + 1) best (by omega) (by omega) hb
        · rw [if_neg (by rw [xor_sub]; exact q2), show sP (gA A r o) i best = best from if_neg (fun x => by simp [gA, q2] at x)]
          exact ih f (i + 1) best (by omega) (by omega) hb
def apO (A : aH) (r o : Nat) : Option Nat := if r = o then none else some (fo (sP (gA A r o)) (hs A 5) 0 (hs A 5))
theorem PH.doorsThatPart {μ : dtM} {h : Nat} {A : aH} (H : PH μ h A) {r o : Nat} (hr : r < hs A 0) (ho : o < hs A 0) : f_X10_doorsThatPart h (Int32.ofNat r) (Int32.ofNat o) μ = some (oN (apO A r o), μ) := by
  have hop := H.op1
  have hnr := H.nr
  simp (disch := omega) only [f_X10_doorsThatPart, z_eq, H.g5, o_bind, z_lit]
  unfold apO
  by_cases q : r = o
  · rw [if_pos q, if_pos q]; rfl
  · rw [if_neg q, if_neg q]
    exact H.dp15 hr ho (hs A 5) dtFuel 0 _ (by omega) (dtFuel_gt (by omega)) hop
theorem oN_none {o : Option Nat} (h : ∀ d, o = some d → d < 2147483648) : (oN o = -Int32.ofNat 1) = (o = none) := by
  cases q : o with
  | none => exact propext ⟨fun _ => rfl, fun _ => rfl⟩
  | some d =>
    have := h d q
    show (Int32.ofNat d = -Int32.ofNat 1) = _
    rw [z_neg this]
    exact propext ⟨False.elim, fun y => (by cases y)⟩
/-! the model's search -/
def btr (best : Option Nat) (s : Nat) : Bool := match best with
  | none => true
  | some b => decide (pc s < pc b)
def bst (g : Nat → Bool) (s : Nat) (best : Option Nat) : Option Nat := if g s = true ∧ btr best s = true then some s else best
theorem n_orNone {μ : dtM} {o : Option Nat} (C : CX μ) (h : ∀ v, o = some v → v < 2147483648) : f_X12_orNone 133 (oN o) μ = some (oN o, dtSI μ 133 2 (oS o)) := by
  cases o with
  | none => simp only [f_X12_orNone, oN, oS, z_lit, eq_self, if_true, n_refuse C, C.v133, o_bind, o_call]
  | some v =>
    have := h v rfl
    simp only [f_X12_orNone, oN, oS, z_lit, z_neg this, if_false, n_gives C, C.v133, o_bind, o_call]
theorem z_not1 {x : Int32} : ¬ bI true = Int32.ofNat 0 := by decide
theorem MH.db29 {μ : dtM} {A : aH} (H : MH μ 0 0 A) (C : CX μ) {p q : Nat} (hp : p < hs A 3) (hq : q < hs A 3) : ∀ (n f i : Nat) (best : Option Nat), i + n = 2 ^ hs A 1 → n < f → (∀ b, best = some b → b < 1024) → f_X12_doorsBetween_29 f 133 (Int32.ofNat p) (Int32.ofNat q) (Int32.ofNat 1) (Int32.ofNat (hs A 5)) (oN best) (Int32.ofNat i) μ = some (oN (fo (bst (gA A (ht A 8 p) (ht A 8 q))) n i best), μ) := by
  have hop := H.op1
  have hnr := H.nr
  have hnd := H.nd
  have hr := (H.pers hp).1
  have ho := (H.pers hq).1
  have g1 := H.gj (j := 1) (by decide)
  have g5 := H.gj (j := 5) (by decide)
  have p0 := H.personOf (k := 0) (by decide) hp
  have q0 := H.personOf (k := 0) (by decide) hq
  have h2 : 2 ^ hs A 1 ≤ 1024 := Nat.pow_le_pow_right (n := 2) (by decide) hnd
  have h7 := p128 (show ht A 8 p < 7 by omega)
  intro n
  induction n with
  | zero =>
    intro f i best e hf hb
    cases f with
    | zero => omega
    | succ f =>
      simp (disch := omega) only [f_X12_doorsBetween_29, C.g133_0, g1, o_bind, z_lit, z_bit, z_le]
      rw [if_pos (by omega)]; rfl
  | succ n ih =>
    intro f i best e hf hb
    cases f with
    | zero => omega
    | succ f =>
      have hx := xor1024 hop (show i < 1024 by omega)
      have hxo : hs A 5 ^^^ (hs A 5 &&& i) < 1024 := xor1024 hop (and1024 (by omega))
      have hxa : i ^^^ (i &&& hs A 5) < 1024 := xor1024 (by omega) (and1024 hop)
      have hl := hReach_lt H.2.2 (op := hs A 5 ^^^ (hs A 5 &&& i)) h7
      have p1 := pc_le (s := i)
      have hoN := oN_none (o := best) (fun d hd => by have := hb d hd; omega)
      rw [fo]
      have ihi := ih f (i + 1) (some i) (by omega) (by omega) (fun b x => by cases x; omega)
      have ihb := ih f (i + 1) best (by omega) (by omega) hb
      have tail : ∀ k29, f_X12_doorsBetween_74 k29 133 (Int32.ofNat p) (Int32.ofNat q) (Int32.ofNat 1) (Int32.ofNat (hs A 5)) (oN best) (Int32.ofNat i) μ = if (hReach A (hs A 5 ^^^ (hs A 5 &&& i)) (2 ^ ht A 8 p)).testBit (ht A 8 q) = true then k29 133 (Int32.ofNat p) (Int32.ofNat q) (Int32.ofNat 1) (Int32.ofNat (hs A 5)) (oN best) (Int32.ofNat (i + 1)) μ else k29 133 (Int32.ofNat p) (Int32.ofNat q) (Int32.ofNat 1) (Int32.ofNat (hs A 5)) (Int32.ofNat i) (Int32.ofNat (i + 1)) μ := by
        intro k29
        simp (disch := omega) only [f_X12_doorsBetween_74, f_X12_doorsBetween_110, f_X12_doorsBetween_135, C.v133, C.g133_0, p0, q0, g5, o_bind, o_call, z_lit, z_bit, z_andnot, Nat.add_zero, H.reaches (show hs A 5 ^^^ (hs A 5 &&& i) < 2147483648 by omega) h7, hReachM_eq H.2.2 h7, f_isIn, z_add, b1, z_eq]
        rw [if_neg (by decide)]
      simp (disch := omega) only [f_X12_doorsBetween_29, f_X12_doorsBetween_135, C.g133_0, g1, o_bind, z_lit, z_bit, z_le, z_andnot, z_eq, hoN, tail, z_add]
      rw [if_neg (by omega)]
      by_cases q2 : i &&& hs A 5 = i
      · rw [if_pos (by rw [xor_sub]; exact q2)]
        have hand : hs A 5 &&& i = i := by rw [Nat.and_comm]; exact q2
        rw [hand]
        have eg : gA A (ht A 8 p) (ht A 8 q) i = !(hReach A (hs A 5 ^^^ i) (2 ^ ht A 8 p)).testBit (ht A 8 q) := by simp [gA, q2]
        by_cases hn : best = none
        · subst hn
          rw [if_pos rfl]
          cases q3 : (hReach A (hs A 5 ^^^ i) (2 ^ ht A 8 p)).testBit (ht A 8 q)
          · rw [if_neg (by decide), show bst (gA A (ht A 8 p) (ht A 8 q)) i none = some i from if_pos ⟨by rw [eg, q3]; rfl, rfl⟩]
            exact ihi
          · rw [if_pos rfl, show bst (gA A (ht A 8 p) (ht A 8 q)) i none = none from if_neg (fun x => by rw [eg, q3] at x; exact absurd x.1 (by decide))]
            exact ihb
        · obtain ⟨b, rfl⟩ : ∃ b, best = some b := by
            cases best with
            | none => exact absurd rfl hn
            | some b => exact ⟨b, rfl⟩
          have hb' := hb b rfl
          have p2 := pc_le (s := b)
          have fb : f_X12_bits (oN (some b)) μ = some (Int32.ofNat (pc b), μ) := f_bits hb'
          rw [if_neg hn]
          simp (disch := omega) only [f_bits, fb, o_call, z_lt, tail, hand]
          by_cases q4 : pc i < pc b
          · rw [if_pos q4]
            cases q3 : (hReach A (hs A 5 ^^^ i) (2 ^ ht A 8 p)).testBit (ht A 8 q)
            · rw [if_neg (by decide), show bst (gA A (ht A 8 p) (ht A 8 q)) i (some b) = some i from if_pos ⟨by rw [eg, q3]; rfl, decide_eq_true q4⟩]
              exact ihi
            · rw [if_pos rfl, show bst (gA A (ht A 8 p) (ht A 8 q)) i (some b) = some b from if_neg (fun x => by rw [eg, q3] at x; exact absurd x.1 (by decide))]
              exact ihb
          · rw [if_neg q4, show bst (gA A (ht A 8 p) (ht A 8 q)) i (some b) = some b from if_neg (fun x => q4 (of_decide_eq_true x.2))]
            exact ihb
      · rw [if_neg (by rw [xor_sub]; exact q2), show bst (gA A (ht A 8 p) (ht A 8 q)) i best = best from if_neg (fun x => by simp [gA, q2] at x)]
        exact ihb
theorem gA_no {A : aH} {r o s : Nat} (h : hs A 5 < s) : gA A r o s = false := by
  have : ¬ (s &&& hs A 5 = s) := fun e => by have := subset_le e; omega
  simp [gA, this]
theorem hReach_in {A : aH} {op r : Nat} : (hReach A op (2 ^ r)).testBit r = true := hReach_up r (two_bit.mpr rfl)
theorem bst_no {g : Nat → Bool} {s : Nat} {b : Option Nat} (h : g s = false) : bst g s b = b := if_neg (fun x => by rw [h] at x; exact absurd x.1 (by decide))
theorem fo_no {g : Nat → Bool} : ∀ (n i : Nat) (b : Option Nat), (∀ s, i ≤ s → s < i + n → g s = false) → fo (bst g) n i b = b
  | 0, _, _, _ => rfl
  | n + 1, i, b, h => by
    rw [fo, bst_no (h i (by omega) (by omega))]
    exact fo_no n (i + 1) b (fun s a c => h s (by omega) (by omega))
def apJ (A : aH) (b : Option Nat) (p : Nat) : Prop := (b = none ∧ p = hs A 5) ∨ (b = some p ∧ p &&& hs A 5 = p ∧ p < hs A 5)
theorem apJ_step {A : aH} (W : hWF A) {r o : Nat} {i : Nat} {b : Option Nat} {p : Nat} (hi : i < hs A 5) (h : apJ A b p) : apJ A (bst (gA A r o) i b) (sP (gA A r o) i p) := by
  have hop : hs A 5 < 1024 := Nat.lt_of_lt_of_le W.1.2.2.2.2.2 (Nat.pow_le_pow_right (by decide) W.1.2.1)
  cases hg : gA A r o i
  · rw [bst_no hg, show sP (gA A r o) i p = p from if_neg (fun x => by rw [hg] at x; exact absurd x.2 (by decide))]
    exact h
  · have hsb : i &&& hs A 5 = i := by
      unfold gA at hg
      simp at hg
      exact hg.1
    rcases h with ⟨h1, h2⟩ | ⟨h1, h2, h3⟩
    · subst h1
      have hp := pc_sub (by omega) hop hsb (by omega)
      rw [show bst (gA A r o) i none = some i from if_pos ⟨hg, rfl⟩, show sP (gA A r o) i p = i from if_pos ⟨by rw [h2]; exact hp, hg⟩]
      exact Or.inr ⟨rfl, hsb, hi⟩
    · subst h1
      by_cases q : pc i < pc p
      · rw [show bst (gA A r o) i (some p) = some i from if_pos ⟨hg, decide_eq_true q⟩, show sP (gA A r o) i p = i from if_pos ⟨q, hg⟩]
        exact Or.inr ⟨rfl, hsb, hi⟩
      · rw [show bst (gA A r o) i (some p) = some p from if_neg (fun x => q (of_decide_eq_true x.2)), show sP (gA A r o) i p = p from if_neg (fun x => q x.1)]
        exact Or.inr ⟨rfl, h2, h3⟩
theorem apJ_all {A : aH} (W : hWF A) {r o : Nat} : ∀ (n i : Nat) (b : Option Nat) (p : Nat), i + n = hs A 5 → apJ A b p → apJ A (fo (bst (gA A r o)) n i b) (fo (sP (gA A r o)) n i p)
  | 0, _, _, _, _, h => h
  | n + 1, i, b, p, e, h => apJ_all W n (i + 1) _ _ (by omega) (apJ_step W (by omega) h)
theorem hReach_0 {A : aH} {r o : Nat} (h : (hReach A 0 (2 ^ r)).testBit o = true) : r = o := by
  have := hReach_least (A := A) (op := 0) (X := 2 ^ r) (T := 2 ^ r) (fun d _ ho _ => by rw [Nat.zero_testBit] at ho; cases ho) sub.rf o h
  exact two_bit.mp this
theorem ap_eq {A : aH} (W : hWF A) {r o : Nat} : fo (bst (gA A r o)) (2 ^ hs A 1) 0 none = apO A r o := by
  have hlt := W.1.2.2.2.2.2
  unfold apO
  by_cases q : r = o
  · rw [if_pos q]
    refine fo_no _ _ _ (fun s _ _ => ?_)
    unfold gA
    rw [← q, hReach_in]
    simp
  · rw [if_neg q]
    have e : 2 ^ hs A 1 = hs A 5 + (1 + (2 ^ hs A 1 - hs A 5 - 1)) := by omega
    rw [e, fo_add, Nat.zero_add]
    have J := apJ_all W (r := r) (o := o) (hs A 5) 0 none (hs A 5) (by omega) (Or.inl ⟨rfl, rfl⟩)
    have gop : gA A r o (hs A 5) = true := by
      unfold gA
      rw [Nat.and_self, Nat.xor_self]
      cases x : (hReach A 0 (2 ^ r)).testBit o
      · simp
      · exact absurd (hReach_0 x) q
    have hop : hs A 5 < 1024 := Nat.lt_of_lt_of_le W.1.2.2.2.2.2 (Nat.pow_le_pow_right (by decide) W.1.2.1)
    rw [fo_add, fo, fo, fo_no _ _ _ (fun s a _ => gA_no (by omega))]
    rcases J with ⟨h1, h2⟩ | ⟨h1, h2, h3⟩
    · rw [h1, h2]
      exact if_pos ⟨gop, rfl⟩
    · rw [h1]
      have := pc_sub (by omega) hop h2 (by omega)
      exact if_neg (fun x => by have := of_decide_eq_true x.2; omega)
theorem apO_lt {A : aH} (W : hWF A) {r o v : Nat} (h : apO A r o = some v) : v < 1024 := by
  have hop : hs A 5 < 1024 := Nat.lt_of_lt_of_le W.1.2.2.2.2.2 (Nat.pow_le_pow_right (by decide) W.1.2.1)
  unfold apO at h
  by_cases q : r = o
  · rw [if_pos q] at h; cases h
  · rw [if_neg q] at h
    have J := apJ_all W (r := r) (o := o) (hs A 5) 0 none (hs A 5) (by omega) (Or.inl ⟨rfl, rfl⟩)
    cases h
    rcases J with ⟨h1, h2⟩ | ⟨h1, h2, h3⟩
    · rw [h2]; exact hop
    · omega
theorem MH.apart {μ : dtM} {A : aH} (H : MH μ 0 0 A) (C : CX μ) {p q : Nat} (hp : p < hs A 3) (hq : q < hs A 3) : f_X12_doorsBetween 133 (Int32.ofNat p) (Int32.ofNat q) (Int32.ofNat 1) μ = some (oN (apO A (ht A 8 p) (ht A 8 q)), μ) := by
  have hnd := H.nd
  have h2 : 2 ^ hs A 1 ≤ 1024 := Nat.pow_le_pow_right (n := 2) (by decide) hnd
  have g5 := H.gj (j := 5) (by decide)
  have key := H.db29 C hp hq (2 ^ hs A 1) dtFuel 0 none (by omega) (dtFuel_gt (by omega)) (fun b x => by cases x)
  simp only [f_X12_doorsBetween, f_X12_doorsBetween_21, C.g133_0, g5, o_bind, z_lit]
  rw [if_neg (by decide)]
  rw [show oN none = -Int32.ofNat 1 from rfl] at key
  rw [key, ap_eq H.2.2]
theorem cs43 {μ : dtM} {w : aW} {f : aF} {A : aH} {z : aZ} (HP : RP μ w f A z) (HM : RM μ f A z) (W : dWF A (zD z)) (x y : Int32) : both (f_X11_apart 0 x y) (f_X12_apart 133 x y) μ := by
  have C := HP.c
  have HH := HP.ph
  have g5 := HP.g5
  have hnr := HH.nr
  have hnd := HH.nd
  have hnw := HH.nw
  have hnp := HH.np
  cases hq : (inR x (hs A 3) && inR y (hs A 3) && !decide (x = y))
  · refine both.no HP HM W (-Int32.ofNat 1) (Int32.ofNat 1) ?_ (fun μ1 R1 => ?_)
    · simp only [f_X11_apart, p_areTwo HP, hq, p_fail C, C.v0, o_bind, o_call, z_lit, b0, o_ret0', o_ret1', o_bI, Bool.true_eq_false, Bool.false_eq_true, eq_self, if_true, if_false]
    · simp only [f_X12_apart, f_X12_apart_45, n_areTwo R1, hq, n_refuse R1.c, R1.c.v133, o_bind, o_call, z_lit, b0, o_ret0', o_ret1', o_bI, Bool.true_eq_false, Bool.false_eq_true, eq_self, if_true, if_false]
  · have hq' := hq
    simp only [Bool.and_eq_true, Bool.not_eq_true', decide_eq_false_iff_not] at hq'
    obtain ⟨p, hp, rfl⟩ := inR_t (by omega) hq'.1.1
    obtain ⟨s, hs', rfl⟩ := inR_t (by omega) hq'.1.2
    have pr := (HH.pers hp).1
    have ps := (HH.pers hs').1
    have hv : ∀ v, apO A (ht A 8 p) (ht A 8 s) = some v → v < 1024 := fun v e => apO_lt HH.2.2 e
    refine both.no HP HM W (oN ((apO A (ht A 8 p) (ht A 8 s)).map pc)) (oS ((apO A (ht A 8 p) (ht A 8 s)).map pc)) ?_ (fun μ1 R1 => ?_)
    · simp only [f_X11_apart, f_X11_apart_55, p_areTwo HP, hq, g5, HH.r14, HH.l8 hp, HH.l8 hs', HH.doorsThatPart pr ps, C.v0, o_bind, o_call, z_lit, b0, o_ret0', o_ret1', o_bI, Bool.true_eq_false, Bool.false_eq_true, eq_self, if_true, if_false]
      cases e : apO A (ht A 8 p) (ht A 8 s) with
      | none =>
        have pf := p_found C (o := none) (fun v x => by cases x)
        simp only [oN] at pf
        simp only [oN, eq_self, if_true, Option.map_none, pf, C.v0, o_call, o_bind]
      | some v =>
        have := hv v e
        have p1 := pc_le (s := v)
        have pf := p_found C (o := some (pc v)) (fun v x => by cases x; omega)
        simp only [oN] at pf
        simp (disch := omega) only [oN, z_neg, if_false, f_bitCount, Option.map_some, pf, C.v0, o_call, o_bind]
    · simp only [f_X12_apart, f_X12_apart_45, n_areTwo R1, hq, R1.mh.apart R1.c hp hs', R1.c.v133, o_bind, o_call, z_lit, b0, o_ret0', o_ret1', o_bI, Bool.true_eq_false, Bool.false_eq_true, eq_self, if_true, if_false]
      cases e : apO A (ht A 8 p) (ht A 8 s) with
      | none => simp only [oN, oS, eq_self, if_true, Option.map_none, n_refuse R1.c, R1.c.v133, o_call, o_bind]
      | some v =>
        have := hv v e
        have p1 := pc_le (s := v)
        simp (disch := omega) only [oN, oS, z_neg, if_false, f_bits, Option.map_some, n_gives R1.c, R1.c.v133, o_call, o_bind]
theorem cs44 {μ : dtM} {w : aW} {f : aF} {A : aH} {z : aZ} (HP : RP μ w f A z) (HM : RM μ f A z) (W : dWF A (zD z)) (x y : Int32) : both (f_X11_apartSet 0 x y) (f_X12_apartSet 133 x y) μ := by
  have C := HP.c
  have HH := HP.ph
  have g5 := HP.g5
  have hnr := HH.nr
  have hnd := HH.nd
  have hnw := HH.nw
  have hnp := HH.np
  cases hq : (inR x (hs A 3) && inR y (hs A 3) && !decide (x = y))
  · refine both.no HP HM W (-Int32.ofNat 1) (Int32.ofNat 1) ?_ (fun μ1 R1 => ?_)
    · simp only [f_X11_apartSet, p_areTwo HP, hq, p_fail C, C.v0, o_bind, o_call, z_lit, b0, o_ret0', o_ret1', o_bI, Bool.true_eq_false, Bool.false_eq_true, eq_self, if_true, if_false]
    · simp only [f_X12_apartSet, f_X12_apartSet_28, n_areTwo R1, hq, n_refuse R1.c, R1.c.v133, o_bind, o_call, z_lit, b0, o_ret0', o_ret1', o_bI, Bool.true_eq_false, Bool.false_eq_true, eq_self, if_true, if_false]
  · have hq' := hq
    simp only [Bool.and_eq_true, Bool.not_eq_true', decide_eq_false_iff_not] at hq'
    obtain ⟨p, hp, rfl⟩ := inR_t (by omega) hq'.1.1
    obtain ⟨s, hs', rfl⟩ := inR_t (by omega) hq'.1.2
    have pr := (HH.pers hp).1
    have ps := (HH.pers hs').1
    have hv : ∀ v, apO A (ht A 8 p) (ht A 8 s) = some v → v < 2147483648 := fun v e => by have := apO_lt HH.2.2 e; omega
    refine both.no HP HM W (oN (apO A (ht A 8 p) (ht A 8 s))) (oS (apO A (ht A 8 p) (ht A 8 s))) ?_ (fun μ1 R1 => ?_)
    · simp only [f_X11_apartSet, p_areTwo HP, hq, g5, HH.r14, HH.l8 hp, HH.l8 hs', HH.doorsThatPart pr ps, C.v0, p_found C hv, o_bind, o_call, z_lit, b0, o_ret0', o_ret1', o_bI, Bool.true_eq_false, Bool.false_eq_true, eq_self, if_true, if_false]
    · simp only [f_X12_apartSet, f_X12_apartSet_28, n_areTwo R1, hq, R1.mh.apart R1.c hp hs', R1.c.v133, n_orNone R1.c hv, o_bind, o_call, z_lit, b0, o_ret0', o_ret1', o_bI, Bool.true_eq_false, Bool.false_eq_true, eq_self, if_true, if_false]
