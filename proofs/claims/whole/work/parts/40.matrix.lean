/-! PURE 11: the matrix holds the distances -/
def nsk (wo : Int32) (d : Nat) : Prop := ¬ Int32.ofNat d = wo
/-- behind the doors, the first i of them -/
def E2 (A : aH) (more : Nat) (wo : Int32) (i : Nat) (G : Nat → Nat) : Prop :=
  hB9 G ∧ (∀ a, a < 7 → G (7 * a + a) = 0) ∧ (∀ a b, a < 7 → b < 7 → G (7 * a + b) = G (7 * b + a)) ∧
  (∀ d, d < i → nsk wo d → G (7 * ht A 0 d + ht A 1 d) ≤ hC A more d) ∧
  (∀ a b, a < 7 → b < 7 → ¬ a = b → G (7 * a + b) < 1000000 → ∃ d, d < hs A 1 ∧ nsk wo d ∧ ((ht A 1 d = b ∧ ht A 0 d = a ∧ hC A more d ≤ G (7 * a + b)) ∨ (ht A 0 d = b ∧ ht A 1 d = a ∧ hC A more d ≤ G (7 * a + b))))
theorem md_E {A : aH} (W : hWF A) {more : Nat} {wo : Int32} {d : Nat} (hd : d < hs A 1) {G : Nat → Nat} (h : E2 A more wo d G) : E2 A more wo (d + 1) (md A more wo d G) := by
  have hr := W.1.1
  have a7 := (W.2.1 d hd).1
  have b7 := (W.2.1 d hd).2.1
  have hne := (W.2.1 d hd).2.2.1
  obtain ⟨h1, h2, h3, h4, h5⟩ := h
  have hB' := md_B (more := more) (wo := wo) W hd h1
  by_cases q : Int32.ofNat d = wo
  · have em : md A more wo d G = G := if_pos q
    rw [em]
    refine ⟨h1, h2, h3, fun d' hd' hs' => ?_, h5⟩
    by_cases e : d' = d
    · subst e; exact absurd q hs'
    · exact h4 d' (by omega) hs'
  · have em : ∀ k, md A more wo d G k = if k = 7 * ht A 1 d + ht A 0 d ∨ k = 7 * ht A 0 d + ht A 1 d then min (hC A more d) (G (7 * ht A 0 d + ht A 1 d)) else G k := by
      intro k
      rw [md, if_neg q, dtUp, dtUp]
      by_cases e1 : k = 7 * ht A 1 d + ht A 0 d
      · rw [if_pos e1, if_pos (Or.inl e1)]
      · rw [if_neg e1]
        by_cases e2 : k = 7 * ht A 0 d + ht A 1 d
        · rw [if_pos e2, if_pos (Or.inr e2)]
        · rw [if_neg e2, if_neg (by omega)]
    have hsym := h3 (ht A 0 d) (ht A 1 d) (by omega) (by omega)
    generalize md A more wo d G = X at em hB'
    refine ⟨hB', fun a ha => ?_, fun a b ha hb => ?_, fun d' hd' hs' => ?_, fun a b ha hb hab hf => ?_⟩
    · rw [em, if_neg (by omega)]; exact h2 a ha
    · rw [em, em]
      by_cases e : (7 * a + b = 7 * ht A 1 d + ht A 0 d ∨ 7 * a + b = 7 * ht A 0 d + ht A 1 d)
      · rw [if_pos e, if_pos (by omega)]
      · rw [if_neg e, if_neg (by omega)]; exact h3 a b ha hb
    · rw [em]
      by_cases e : (7 * ht A 0 d' + ht A 1 d' = 7 * ht A 1 d + ht A 0 d ∨ 7 * ht A 0 d' + ht A 1 d' = 7 * ht A 0 d + ht A 1 d)
      · rw [if_pos e]
        by_cases e2 : d' = d
        · subst e2; omega
        · have x := h4 d' (by omega) hs'
          have := (W.2.1 d' (by omega)).1
          have := (W.2.1 d' (by omega)).2.1
          rcases e with e | e
          · rw [e, ← hsym] at x; omega
          · rw [e] at x; omega
      · rw [if_neg e]
        by_cases e2 : d' = d
        · subst e2; omega
        · exact h4 d' (by omega) hs'
    · rw [em] at hf ⊢
      by_cases e : (7 * a + b = 7 * ht A 1 d + ht A 0 d ∨ 7 * a + b = 7 * ht A 0 d + ht A 1 d)
      · rw [if_pos e] at hf ⊢
        by_cases ec : hC A more d ≤ G (7 * ht A 0 d + ht A 1 d)
        · refine ⟨d, hd, q, ?_⟩
          rcases e with e | e
          · right; exact ⟨by omega, by omega, by omega⟩
          · left; exact ⟨by omega, by omega, by omega⟩
        · obtain ⟨d2, x1, x2, x3⟩ := h5 (ht A 0 d) (ht A 1 d) (by omega) (by omega) hne (by omega)
          refine ⟨d2, x1, x2, ?_⟩
          rcases e with e | e
          · have ea : a = ht A 1 d := by omega
            have eb : b = ht A 0 d := by omega
            rcases x3 with ⟨y1, y2, y3⟩ | ⟨y1, y2, y3⟩
            · right; exact ⟨by omega, by omega, by omega⟩
            · left; exact ⟨by omega, by omega, by omega⟩
          · have ea : a = ht A 0 d := by omega
            have eb : b = ht A 1 d := by omega
            rcases x3 with ⟨y1, y2, y3⟩ | ⟨y1, y2, y3⟩
            · left; exact ⟨by omega, by omega, by omega⟩
            · right; exact ⟨by omega, by omega, by omega⟩
      · rw [if_neg e] at hf ⊢
        exact h5 a b ha hb hab hf
theorem G0_E {A : aH} {more : Nat} {wo : Int32} : E2 A more wo 0 G0 := by
  have hz : ∀ a, a < 7 → ∀ b, b < 7 → G0 (7 * a + b) = if a = b then 0 else 1000000 := by decide
  refine ⟨G0_B, fun a ha => by rw [hz a ha a ha, if_pos rfl], fun a b ha hb => ?_, fun d hd => absurd hd (Nat.not_lt_zero d), fun a b ha hb hab hf => ?_⟩
  · rw [hz a ha b hb, hz b hb a ha]
    by_cases e : a = b
    · rw [if_pos e, if_pos e.symm]
    · rw [if_neg e, if_neg (fun q => e q.symm)]
  · rw [hz a ha b hb, if_neg hab] at hf
    omega
def M1 (c : Nat) (G : Nat → Nat) (a b : Nat) : Nat := min (G (7 * a + c) + G (7 * c + b)) (G (7 * a + b))
def Qf (N c : Nat) (G : Nat → Nat) (a b : Nat) (X : Nat → Nat) : Prop := ∀ a' b', a' < N → b' < N → X (7 * a' + b') = if a' < a ∨ (a' = a ∧ b' < b) then M1 c G a' b' else G (7 * a' + b')
theorem flb_Q {N c a b : Nat} {G X : Nat → Nat} (hN : N ≤ 7) (hc : c < N) (h0 : G (7 * c + c) = 0) (ha : a < N) (hb : b < N) (h : Qf N c G a b X) : Qf N c G a (b + 1) (flb c a b X) := by
  have e1 : X (7 * a + c) = G (7 * a + c) := by
    rw [h a c ha hc]
    by_cases q : a < a ∨ a = a ∧ c < b
    · rw [if_pos q, M1, h0]; omega
    · rw [if_neg q]
  have e2 : X (7 * c + b) = G (7 * c + b) := by
    rw [h c b hc hb]
    by_cases q : c < a ∨ c = a ∧ b < b
    · rw [if_pos q, M1, h0]; omega
    · rw [if_neg q]
  have e3 : X (7 * a + b) = G (7 * a + b) := by rw [h a b ha hb, if_neg (by omega)]
  intro a' b' ha' hb'
  rw [flb, e1, e2, e3, dtUp]
  by_cases q : 7 * a' + b' = 7 * a + b
  · have : a' = a := by omega
    have : b' = b := by omega
    subst a' b'
    rw [if_pos q, if_pos (by omega), M1]
  · rw [if_neg q, h a' b' ha' hb']
    by_cases q2 : a' < a ∨ a' = a ∧ b' < b
    · rw [if_pos q2, if_pos (by omega)]
    · rw [if_neg q2, if_neg (by omega)]
theorem fla_Q {N c a : Nat} {G X : Nat → Nat} (hN : N ≤ 7) (hc : c < N) (h0 : G (7 * c + c) = 0) (ha : a < N) (h : Qf N c G a 0 X) : Qf N c G (a + 1) 0 (fla N c a X) := by
  have := fo_ind (N := N) (P := fun b X => Qf N c G a b X) (fun b X hb q => flb_Q hN hc h0 ha hb q) N 0 X (by omega) h
  intro a' b' ha' hb'
  rw [show fla N c a X = fo (flb c a) N 0 X from rfl, this a' b' ha' hb']
  by_cases q : a' < a ∨ a' = a ∧ b' < N
  · rw [if_pos q, if_pos (by omega)]
  · rw [if_neg q, if_neg (by omega)]
theorem flc_eq {N c : Nat} {G : Nat → Nat} (hN : N ≤ 7) (hc : c < N) (h0 : G (7 * c + c) = 0) {a b : Nat} (ha : a < N) (hb : b < N) : flc N c G (7 * a + b) = M1 c G a b := by
  have := fo_ind (N := N) (P := fun a X => Qf N c G a 0 X) (fun a X ha q => fla_Q hN hc h0 ha q) N 0 G (by omega) (fun a' b' _ _ => by rw [if_neg (by omega)])
  rw [show flc N c G = fo (fla N c) N 0 G from rfl, this a b ha hb, if_pos (Or.inl ha)]
def E3 (A : aH) (more : Nat) (wo : Int32) (k : Nat) (G : Nat → Nat) : Prop :=
  hB9 G ∧ (∀ a, a < hs A 0 → G (7 * a + a) = 0) ∧
  (∀ d, d < hs A 1 → nsk wo d → G (7 * ht A 0 d + ht A 1 d) ≤ hC A more d ∧ G (7 * ht A 1 d + ht A 0 d) ≤ hC A more d) ∧
  (∀ a b, a < hs A 0 → b < hs A 0 → ¬ a = b → G (7 * a + b) < 1000000 → ∃ d, d < hs A 1 ∧ nsk wo d ∧ ((ht A 1 d = b ∧ G (7 * a + ht A 0 d) + hC A more d ≤ G (7 * a + b)) ∨ (ht A 0 d = b ∧ G (7 * a + ht A 1 d) + hC A more d ≤ G (7 * a + b)))) ∧
  (∀ c a b, c < k → a < hs A 0 → b < hs A 0 → G (7 * a + b) ≤ G (7 * a + c) + G (7 * c + b))
theorem E23 {A : aH} (W : hWF A) {more : Nat} {wo : Int32} {G : Nat → Nat} (h : E2 A more wo (hs A 1) G) : E3 A more wo 0 G := by
  have hr := W.1.1
  obtain ⟨h1, h2, h3, h4, h5⟩ := h
  refine ⟨h1, fun a ha => h2 a (by omega), fun d hd hs' => ⟨h4 d hd hs', ?_⟩, fun a b ha hb hab hf => ?_, fun c a b hc => absurd hc (Nat.not_lt_zero c)⟩
  · have := (W.2.1 d hd).1
    have := (W.2.1 d hd).2.1
    rw [h3 _ _ (by omega) (by omega)]
    exact h4 d hd hs'
  · obtain ⟨d, x1, x2, x3⟩ := h5 a b (by omega) (by omega) hab hf
    have h0 := h2 a (by omega)
    refine ⟨d, x1, x2, ?_⟩
    rcases x3 with ⟨y1, y2, y3⟩ | ⟨y1, y2, y3⟩
    · left; exact ⟨y1, by rw [y2, h0]; omega⟩
    · right; exact ⟨y1, by rw [y2, h0]; omega⟩
theorem flc_E {A : aH} (W : hWF A) {more : Nat} {wo : Int32} {c : Nat} (hc : c < hs A 0) {G : Nat → Nat} (h : E3 A more wo c G) : E3 A more wo (c + 1) (flc (hs A 0) c G) := by
  have hr := W.1.1
  obtain ⟨h1, h2, h3, h4, h5⟩ := h
  have h0 := h2 c hc
  have hB' := flc_B (c := c) hr h1
  have em : ∀ a b, a < hs A 0 → b < hs A 0 → flc (hs A 0) c G (7 * a + b) = M1 c G a b := fun a b ha hb => flc_eq hr hc h0 ha hb
  generalize flc (hs A 0) c G = X at em hB'
  have le : ∀ a b, a < hs A 0 → b < hs A 0 → X (7 * a + b) ≤ G (7 * a + b) := fun a b ha hb => by rw [em a b ha hb, M1]; omega
  refine ⟨hB', fun a ha => ?_, fun d hd hs' => ?_, fun a b ha hb hab hf => ?_, fun c' a b hc' ha hb => ?_⟩
  · have := h2 a ha
    have := le a a ha ha
    omega
  · have x := h3 d hd hs'
    have ra := (W.2.1 d hd).1
    have rb := (W.2.1 d hd).2.1
    have y1 := le _ _ ra rb
    have y2 := le _ _ rb ra
    omega
  · have ex := em a b ha hb
    rw [M1] at ex
    by_cases q : G (7 * a + b) ≤ G (7 * a + c) + G (7 * c + b)
    · obtain ⟨d, x1, x2, x3⟩ := h4 a b ha hb hab (by omega)
      have ra := (W.2.1 d x1).1
      have rb := (W.2.1 d x1).2.1
      have y1 := le a _ ha ra
      have y2 := le a _ ha rb
      refine ⟨d, x1, x2, ?_⟩
      rcases x3 with ⟨z1, z2⟩ | ⟨z1, z2⟩
      · left; exact ⟨z1, by omega⟩
      · right; exact ⟨z1, by omega⟩
    · have hcb : ¬ c = b := by
        intro e
        subst e
        omega
      obtain ⟨d, x1, x2, x3⟩ := h4 c b hc hb hcb (by omega)
      have ra := (W.2.1 d x1).1
      have rb := (W.2.1 d x1).2.1
      have y1 := em a _ ha ra
      have y2 := em a _ ha rb
      rw [M1] at y1 y2
      refine ⟨d, x1, x2, ?_⟩
      rcases x3 with ⟨z1, z2⟩ | ⟨z1, z2⟩
      · left; exact ⟨z1, by omega⟩
      · right; exact ⟨z1, by omega⟩
  · rw [em a b ha hb]
    by_cases e : c' = c
    · subst e
      rw [em a c' ha hc, em c' b hc hb, M1, M1, M1, h0]
      omega
    · have hlt : c' < c := by omega
      rw [em a c' ha (by omega), em c' b (by omega) hb, M1, M1, M1]
      have t1 := h5 c' a b hlt ha hb
      have t2 := h5 c' c b hlt hc hb
      have t3 := h5 c' a c hlt ha hc
      have t4 := h5 c' c c hlt hc hc
      omega
theorem mG_E {A : aH} (W : hWF A) {more : Nat} {wo : Int32} : E3 A more wo (hs A 0) (mG A more wo) :=
  fo_ind (N := hs A 0) (P := fun k G => E3 A more wo k G) (fun _ _ hc q => flc_E W hc q) (hs A 0) 0 _ (by omega)
    (E23 W (fo_ind (N := hs A 1) (P := fun i G => E2 A more wo i G) (fun _ _ hd q => md_E W hd q) (hs A 1) 0 G0 (by omega) G0_E))
def dlt (A : aH) (G : Nat → Nat) (x y v : Nat) : Nat := if v < hs A 0 then min (G (7 * x + v)) (G (7 * y + v)) else 1000000
theorem bit2 {x y v : Nat} : ((2 ^ x ||| 2 ^ y).testBit v = true) = (x = v ∨ y = v) := by
  rw [Nat.testBit_or, Nat.testBit_two_pow, Nat.testBit_two_pow, Bool.or_eq_true, decide_eq_true_eq, decide_eq_true_eq]
theorem dlt_D {A : aH} (W : hWF A) {more : Nat} {wo : Int32} {x y : Nat} (hx : x < hs A 0) (hy : y < hs A 0) : isD A more wo (2 ^ x ||| 2 ^ y) (dlt A (mG A more wo) x y) := by
  have hr := W.1.1
  obtain ⟨h1, h2, h3, h4, h5⟩ := mG_E (more := more) (wo := wo) W
  generalize mG A more wo = G at h1 h2 h3 h4 h5 ⊢
  have hin : ∀ v, v < hs A 0 → dlt A G x y v = min (G (7 * x + v)) (G (7 * y + v)) := fun v hv => if_pos hv
  refine ⟨fun v hv hb => ?_, fun d hd hs' => ?_, fun v hv hb hf => ?_, fun v hv => ?_⟩
  · rw [bit2] at hb
    rcases hb with e | e
    · subst e
      rw [hin x hx, h2 x hx]; omega
    · subst e
      rw [hin y hy, h2 y hy]; omega
  · have ra := (W.2.1 d hd).1
    have rb := (W.2.1 d hd).2.1
    have t := h3 d hd hs'
    rw [hin _ ra, hin _ rb]
    have t1 := h5 (ht A 1 d) x (ht A 0 d) rb hx ra
    have t2 := h5 (ht A 1 d) y (ht A 0 d) rb hy ra
    have t3 := h5 (ht A 0 d) x (ht A 1 d) ra hx rb
    have t4 := h5 (ht A 0 d) y (ht A 1 d) ra hy rb
    omega
  · by_cases hvN : v < hs A 0
    · rw [hin v hvN] at hf ⊢
      have hne : ¬ (x = v ∨ y = v) := by rw [← bit2, hb]; decide
      by_cases q : G (7 * x + v) ≤ G (7 * y + v)
      · obtain ⟨d, x1, x2, x3⟩ := h4 x v hx hvN (by omega) (by omega)
        have ra := (W.2.1 d x1).1
        have rb := (W.2.1 d x1).2.1
        refine ⟨d, x1, x2, ?_⟩
        rw [hin _ ra, hin _ rb]
        rcases x3 with ⟨z1, z2⟩ | ⟨z1, z2⟩
        · left; exact ⟨z1, by omega⟩
        · right; exact ⟨z1, by omega⟩
      · obtain ⟨d, x1, x2, x3⟩ := h4 y v hy hvN (by omega) (by omega)
        have ra := (W.2.1 d x1).1
        have rb := (W.2.1 d x1).2.1
        refine ⟨d, x1, x2, ?_⟩
        rw [hin _ ra, hin _ rb]
        rcases x3 with ⟨z1, z2⟩ | ⟨z1, z2⟩
        · left; exact ⟨z1, by omega⟩
        · right; exact ⟨z1, by omega⟩
    · rw [dlt, if_neg hvN] at hf
      omega
  · unfold dlt
    by_cases q : v < hs A 0
    · rw [if_pos q]
      have := h1 (7 * x + v) (by omega)
      omega
    · rw [if_neg q]; exact Nat.le_refl _
/-- spread by the program and laid by the model are the same -/
theorem loss_eq {A : aH} (W : hWF A) {more : Nat} {wo : Int32} {x y v : Nat} (hx : x < hs A 0) (hy : y < hs A 0) (hv : v < hs A 0) : rds A more wo 7 (ini (2 ^ x ||| 2 ^ y)) v = min (mG A more wo (7 * x + v)) (mG A more wo (7 * y + v)) := by
  have hr := W.1.1
  rw [rds_ini W (dlt_D W hx hy) v (by omega), dlt, if_pos hv]
