/-! PURE 67: a new word behind the others -/
def hCo (A : aH) (n : Nat) (s : Nat → Nat) : aH := (dtUp A.1 2 (hs A 2 + 1), (fun t i => if i = hs A 2 ∧ 3 ≤ t ∧ t < 8 then (if t = 3 then n else s (t - 4)) else ht A t i), hm A, hrn A, hpn A)
theorem hCo_s {A : aH} {n k : Nat} {s : Nat → Nat} (h : ¬ k = 2) : hs (hCo A n s) k = hs A k := if_neg h
theorem hCo_2 {A : aH} {n : Nat} {s : Nat → Nat} : hs (hCo A n s) 2 = hs A 2 + 1 := by
  show dtUp A.1 2 (hs A 2 + 1) 2 = _
  unfold dtUp
  exact if_pos rfl
theorem hCo_o {A : aH} {n t i : Nat} {s : Nat → Nat} (h : ¬ (i = hs A 2 ∧ 3 ≤ t ∧ t < 8)) : ht (hCo A n s) t i = ht A t i := if_neg h
theorem hCo_n {A : aH} {n t : Nat} {s : Nat → Nat} (h : 3 ≤ t ∧ t < 8) : ht (hCo A n s) t (hs A 2) = if t = 3 then n else s (t - 4) := if_pos ⟨rfl, h⟩
theorem hCo_W {A : aH} {n : Nat} {s : Nat → Nat} (W : hWF A) (h7 : hs A 2 < 7) (hn : 1 ≤ n ∧ n ≤ 4) (h4 : ∀ k, k < n → s k < 4) : hWF (hCo A n s) := by
  refine ⟨⟨?_, ?_, ?_, ?_, ?_, ?_⟩, fun d hd => ?_, fun w hw => ?_, fun p hp' => ?_, fun q hq => ?_, fun p hp' => ?_⟩
  · rw [hCo_s (by decide)]; exact W.1.1
  · rw [hCo_s (by decide)]; exact W.1.2.1
  · rw [hCo_2]; omega
  · rw [hCo_s (by decide)]; exact W.1.2.2.2.1
  · rw [hCo_s (by decide)]; exact W.1.2.2.2.2.1
  · rw [hCo_s (by decide), hCo_s (by decide)]; exact W.1.2.2.2.2.2
  · rw [hCo_s (by decide)] at hd
    rw [hCo_s (by decide), hCo_o (by omega), hCo_o (by omega), hCo_o (by omega)]
    exact W.2.1 d hd
  · rw [hCo_2] at hw
    by_cases e : w = hs A 2
    · subst e
      rw [hCo_n (by decide), if_pos rfl]
      refine ⟨hn.1, hn.2, fun k hk => ?_⟩
      rw [hCo_n (by omega), if_neg (by omega), show 4 + k - 4 = k by omega]
      exact h4 k hk
    · rw [hCo_o (fun x => e x.1)]
      have x := W.2.2.1 w (by omega)
      refine ⟨x.1, x.2.1, fun k hk => ?_⟩
      rw [hCo_o (fun y => e y.1)]
      exact x.2.2 k hk
  · rw [hCo_s (by decide)] at hp'
    rw [hCo_s (by decide), hCo_2, hCo_o (by omega), hCo_o (by omega), hCo_o (by omega), hCo_o (by omega)]
    have x := W.2.2.2.1 p hp'
    refine ⟨x.1, x.2.1, Nat.lt_of_lt_of_le x.2.2.1 (Nat.pow_le_pow_right (by decide) (Nat.le_succ _)), x.2.2.2.1, fun k hk => ?_⟩
    rw [hCo_o (by omega)]
    exact x.2.2.2.2 k hk
  · rw [hCo_s (by decide)] at hq
    exact W.2.2.2.2.1 q hq
  · rw [hCo_s (by decide)] at hp'
    exact W.2.2.2.2.2 p hp'
theorem hCo_ok {A : aH} {n t i : Nat} {s : Nat → Nat} (e : ¬ (i = hs A 2 ∧ 3 ≤ t ∧ t < 8)) (q : hok (hCo A n s) t i) : hok A t i := by
  unfold hok at q ⊢
  rw [hCo_s (show ¬ 1 = 2 by decide), hCo_s (show ¬ 3 = 2 by decide), hCo_2, hCo_o (show ¬ (i = hs A 2 ∧ 3 ≤ 11 ∧ 11 < 8) by omega)] at q
  rcases q with q | q | q | q | q
  · omega
  · omega
  · by_cases x : i = hs A 2
    · omega
    · rw [hCo_o (fun y => x y.1)] at q
      omega
  · omega
  · omega
/-! the program's side: the new word is laid at the index behind the others -/
abbrev Pwd (h W : Nat) : Nat → Nat → Prop := fun k j => (k = h + 6 ∧ j = W) ∨ (k = h + 7 ∧ 4 * W ≤ j ∧ j < 4 * W + 4)
def swL (μ : dtM) (h W n : Nat) (s : Nat → Nat) : Prop := dtI μ (h + 6) W = Int32.ofNat n ∧ ∀ k, k < n → dtI μ (h + 7) (4 * W + k) = Int32.ofNat (s k)
theorem PH.kW {μ μ' : dtM} {h : Nat} {A : aH} (H : PH μ h A) (F : Fr (Pwd h (hs A 2)) μ μ') : PH μ' h A := by
  refine ⟨?_, ⟨fun j hj => ?_, ?_, fun t i q => ?_, fun r hr => ?_, fun p hp => ?_⟩, H.2.2⟩
  · unfold pSh
    rw [F.S, F.Ra]
    exact H.1
  · rw [F.i (by omega)]; exact H.2.1.1 j hj
  · rw [F.i (by omega)]; exact H.2.1.2.1
  · have hB := hok_B H.2.2 q
    have y := H.2.1.2.2.1 t i q
    rw [← y]
    refine F.i ?_
    by_cases h3 : t = 3
    · subst h3
      have : i < hs A 2 := by unfold hok at q; omega
      show ¬ ((h + 6 = h + 6 ∧ i = hs A 2) ∨ _)
      have e : pRow h 3 = h + 6 := rfl
      omega
    · by_cases h4 : 4 ≤ t ∧ t < 8
      · have : i < hs A 2 := by unfold hok at q; omega
        have ep : pRow h t = h + 7 := by unfold pRow; rw [if_neg (by omega), if_neg (by omega), if_pos h4.2]
        have ei : pIdx t i = 4 * i + (t - 4) := by unfold pIdx; rw [if_pos (by omega)]
        rw [ep, ei]
        omega
      · have : ¬ pRow h t = h + 6 ∧ ¬ pRow h t = h + 7 := by
          unfold pRow
          by_cases a1 : t < 3
          · rw [if_pos a1]; omega
          · rw [if_neg a1, if_neg h3, if_neg (by omega)]
            by_cases a2 : t < 12
            · rw [if_pos a2]; omega
            · rw [if_neg a2]; omega
        omega
  · rw [F.j (by omega)]; exact H.2.1.2.2.2.1 r hr
  · rw [F.j (by omega)]; exact H.2.1.2.2.2.2 p hp
theorem PH.coined {μ : dtM} {h n : Nat} {s : Nat → Nat} {A : aH} (H : PH μ h A) (h7 : hs A 2 < 7) (hn : 1 ≤ n ∧ n ≤ 4) (h4 : ∀ k, k < n → s k < 4) (L : swL μ h (hs A 2) n s) : PH (dtSI μ h 2 (Int32.ofNat (hs A 2 + 1))) h (hCo A n s) := by
  have F : Fr (fun k j => k = h ∧ j = 2) μ (dtSI μ h 2 (Int32.ofNat (hs A 2 + 1))) := Fr.SI ⟨rfl, rfl⟩
  refine ⟨?_, ⟨fun j hj => ?_, ?_, fun t i q => ?_, fun r hr => ?_, fun p hp => ?_⟩, hCo_W H.2.2 h7 hn h4⟩
  · unfold pSh
    rw [F.S, F.Ra]
    exact H.1
  · by_cases e : j = 2
    · subst e; rw [m_I_SI, if_pos ⟨rfl, rfl⟩, hCo_2]
    · rw [F.i (by omega), hCo_s e]; exact H.2.1.1 j hj
  · rw [F.i (by omega)]; exact H.2.1.2.1
  · have t20 := hok_t q
    have pr := pRow_in (h := h) t20
    rw [F.i (by omega)]
    by_cases e : i = hs A 2 ∧ 3 ≤ t ∧ t < 8
    · obtain ⟨e1, e2, e3⟩ := e
      subst e1
      rw [hCo_n ⟨e2, e3⟩]
      by_cases x : t = 3
      · subst x; rw [if_pos rfl]; exact L.1
      · rw [if_neg x]
        have ep : pRow h t = h + 7 := by unfold pRow; rw [if_neg (by omega), if_neg (by omega), if_pos e3]
        have ei : pIdx t (hs A 2) = 4 * hs A 2 + (t - 4) := by unfold pIdx; rw [if_pos (by omega)]
        rw [ep, ei]
        refine L.2 (t - 4) ?_
        unfold hok at q
        rw [hCo_n (show 3 ≤ 3 ∧ 3 < 8 by decide), if_pos rfl] at q
        omega
    · rw [hCo_o e]
      exact H.2.1.2.2.1 t i (hCo_ok e q)
  · rw [F.j (by omega)]
    exact H.2.1.2.2.2.1 r (by rw [← hCo_s (A := A) (n := n) (s := s) (show ¬ 0 = 2 by decide)]; exact hr)
  · rw [F.j (by omega)]
    exact H.2.1.2.2.2.2 p (by rw [← hCo_s (A := A) (n := n) (s := s) (show ¬ 3 = 2 by decide)]; exact hp)
theorem p_beginWord {μ : dtM} {h : Nat} {A : aH} (H : PH μ h A) (h7 : hs A 2 < 7) (s : Nat → Nat) : ∃ μ', f_X3_beginWord h μ = some μ' ∧ Fr (Pwd h (hs A 2)) μ μ' ∧ swL μ' h (hs A 2) 0 s := by
  refine ⟨dtSI μ (h + 6) (hs A 2) (Int32.ofNat 0), ?_, Fr.SI (Or.inl ⟨rfl, rfl⟩), by rw [m_I_SI, if_pos ⟨rfl, rfl⟩], fun k hk => absurd hk (Nat.not_lt_zero k)⟩
  rw [f_X3_beginWord, H.g2, o_bind, if_neg (show ¬ (7 : Int32) ≤ Int32.ofNat (hs A 2) by rw [show (7 : Int32) = Int32.ofNat 7 from rfl, z_le (by decide) (by omega)]; omega), H.r12, o_bind, o_bind, show (0 : Int32) = Int32.ofNat 0 from rfl, o_SI H.s6 h7 (by decide), o_bind, f_X3_beginWord_19]
theorem p_addSound3 {μ : dtM} {h n v : Nat} {s : Nat → Nat} {A : aH} (H : PH μ h A) (h7 : hs A 2 < 7) (hn : n < 4) (L : swL μ h (hs A 2) n s) : ∃ μ', f_X3_addSound h (Int32.ofNat v) μ = some μ' ∧ Fr (Pwd h (hs A 2)) μ μ' ∧ swL μ' h (hs A 2) (n + 1) (dtUp s n v) := by
  have F1 : Fr (Pwd h (hs A 2)) μ (dtSI μ (h + 7) (4 * hs A 2 + n) (Int32.ofNat v)) := Fr.SI (Or.inr ⟨rfl, by omega, by omega⟩)
  have H1 := H.kW F1
  have l1 : opLI 1 μ (h + 6) (Int32.ofNat (hs A 2)) = some (Int32.ofNat n) := by rw [o_LI H.s6 h7 (by decide), L.1]
  have l2 : opLI 1 (dtSI μ (h + 7) (4 * hs A 2 + n) (Int32.ofNat v)) (h + 6) (Int32.ofNat (hs A 2)) = some (Int32.ofNat n) := by rw [o_LI H1.s6 h7 (by decide), m_I_SI, if_neg (by omega), L.1]
  refine ⟨dtSI (dtSI μ (h + 7) (4 * hs A 2 + n) (Int32.ofNat v)) (h + 6) (hs A 2) (Int32.ofNat (n + 1)), ?_, F1.tr (Fr.SI (Or.inl ⟨rfl, rfl⟩)), by rw [m_I_SI, if_pos ⟨rfl, rfl⟩], fun k hk => ?_⟩
  · rw [f_X3_addSound, H.g2, o_bind, if_neg (show ¬ (7 : Int32) ≤ Int32.ofNat (hs A 2) by rw [show (7 : Int32) = Int32.ofNat 7 from rfl, z_le (by decide) (by omega)]; omega), H.r12, o_bind, o_bind, l1, o_bind, if_neg (show ¬ (4 : Int32) ≤ Int32.ofNat n by rw [show (4 : Int32) = Int32.ofNat 4 from rfl, z_le (by decide) (by omega)]; omega), H.r13, o_bind, o_bind, o_bind, o_bind, l1, o_bind, show (4 : Int32) = Int32.ofNat 4 from rfl, z_mul, z_add, show hs A 2 * 4 + n = 4 * hs A 2 + n by omega, o_SI H.s7 (show 4 * hs A 2 + n < 28 by omega) (by decide), o_bind, H1.r12, o_bind, H1.g2, o_bind, l2, o_bind, show (1 : Int32) = Int32.ofNat 1 from rfl, z_add, o_SI H1.s6 h7 (by decide), o_bind, f_X3_addSound_57]
  · rw [m_I_SI, if_neg (by omega), m_I_SI]
    unfold dtUp
    by_cases e : k = n
    · rw [if_pos ⟨rfl, by omega⟩, if_pos e]
    · rw [if_neg (by omega), if_neg e]; exact L.2 k (by omega)
def swA (A : aH) (s : Nat → Nat) (i : Nat) : Nat → Nat → Bool
  | 0, _ => true
  | m + 1, k => if ht A (4 + k) i = s k then swA A s i m (k + 1) else false
def nwB (A : aH) (n : Nat) (s : Nat → Nat) : Nat → Nat → Bool
  | 0, _ => false
  | m + 1, i => if ht A 3 i = n ∧ swA A s i n 0 = true then true else nwB A n s m (i + 1)
theorem st2 {μ : dtM} {h n i : Nat} {s : Nat → Nat} {A : aH} (H : PH μ h A) (h7 : hs A 2 < 7) (L : swL μ h (hs A 2) n s) (hn : n ≤ 4) (h4 : ∀ k, k < n → s k < 4) (hi : i < hs A 2) (e3 : ht A 3 i = n) : ∀ (m f k : Nat), k + m = n → m < f → f_X3_saysTheNew_2 f h (Int32.ofNat i) (Int32.ofNat k) μ = some (bI (swA A s i m k), μ) := by
  intro m
  induction m with
  | zero =>
    intro f k e hf
    cases f with
    | zero => omega
    | succ f =>
      rw [f_X3_saysTheNew_2, H.r12, o_bind, H.l3 hi, o_bind, e3, if_pos (show Int32.ofNat n ≤ Int32.ofNat k by rw [z_le (by omega) (by omega)]; omega), z_lit, o_ret1']; rfl
  | succ m ih =>
    intro f k e hf
    cases f with
    | zero => omega
    | succ f =>
      have hk := h4 k (by omega)
      have hw := (H.word hi).2.2 k (by omega)
      have ls : f_X3_soundOfWord h (Int32.ofNat (hs A 2)) (Int32.ofNat k) μ = some (Int32.ofNat (s k), μ) := by
        rw [f_X3_soundOfWord, H.r13, o_bind, show (4 : Int32) = Int32.ofNat 4 from rfl, z_mul, z_add, show hs A 2 * 4 + k = 4 * hs A 2 + k by omega, o_LI H.s7 (show 4 * hs A 2 + k < 28 by omega) (by decide), L.2 k (by omega), o_bind]
      rw [f_X3_saysTheNew_2, H.r12, o_bind, H.l3 hi, o_bind, if_neg (show ¬ Int32.ofNat (ht A 3 i) ≤ Int32.ofNat k by rw [z_le (by omega) (by omega)]; omega), H.rv, o_bind, H.soundOfWord hi (by omega), o_call, H.g2, o_bind, H.rv, o_bind, ls, o_call, swA]
      by_cases q : ht A (4 + k) i = s k
      · rw [if_pos q, if_pos (show Int32.ofNat (ht A (4 + k) i) = Int32.ofNat (s k) by rw [q]), show (1 : Int32) = Int32.ofNat 1 from rfl, z_add]
        exact ih f (k + 1) (by omega) (by omega)
      · rw [if_neg q, if_neg (show ¬ Int32.ofNat (ht A (4 + k) i) = Int32.ofNat (s k) by rw [z_eq (by omega) (by omega)]; exact q), z_lit, o_ret0']
theorem nw13 {μ : dtM} {h n : Nat} {s : Nat → Nat} {A : aH} (H : PH μ h A) (h7 : hs A 2 < 7) (L : swL μ h (hs A 2) n s) (hn : n ≤ 4) (h4 : ∀ k, k < n → s k < 4) : ∀ (m f i : Nat), i + m = hs A 2 → m < f → f_X3_isNewWordSaid_13 f h (Int32.ofNat i) μ = some (bI (nwB A n s m i), μ) := by
  intro m
  induction m with
  | zero =>
    intro f i e hf
    cases f with
    | zero => omega
    | succ f =>
      rw [f_X3_isNewWordSaid_13, H.g2, o_bind, if_pos (show Int32.ofNat (hs A 2) ≤ Int32.ofNat i by rw [z_le (by omega) (by omega)]; omega), z_lit, o_ret0']; rfl
  | succ m ih =>
    intro f i e hf
    cases f with
    | zero => omega
    | succ f =>
      have hw := H.word (w := i) (by omega)
      have l1 : opLI 1 μ (h + 6) (Int32.ofNat (hs A 2)) = some (Int32.ofNat n) := by rw [o_LI H.s6 h7 (by decide), L.1]
      have nx : f_X3_isNewWordSaid_49 (f_X3_isNewWordSaid_13 f) h (Int32.ofNat i) μ = some (bI (nwB A n s m (i + 1)), μ) := by
        rw [f_X3_isNewWordSaid_49, show (1 : Int32) = Int32.ofNat 1 from rfl, z_add]
        exact ih f (i + 1) (by omega) (by omega)
      rw [f_X3_isNewWordSaid_13, H.g2, o_bind, if_neg (show ¬ Int32.ofNat (hs A 2) ≤ Int32.ofNat i by rw [z_le (by omega) (by omega)]; omega), H.r12, o_bind, H.l3 (by omega), o_bind, o_bind, o_bind, l1, o_bind, nwB]
      by_cases q : ht A 3 i = n
      · rw [if_pos (show Int32.ofNat (ht A 3 i) = Int32.ofNat n by rw [q]), H.rv, o_bind, f_X3_saysTheNew, show (0 : Int32) = Int32.ofNat 0 from rfl, st2 H h7 L hn h4 (by omega) q n dtFuel 0 (by omega) (dtFuel_gt (by omega)), o_call]
        cases hb : swA A s i n 0
        · rw [if_pos (by decide), nx, if_neg (fun y => Bool.false_ne_true y.2)]
        · rw [if_neg (by decide), if_pos ⟨q, rfl⟩, z_lit, o_ret1']
      · rw [if_neg (show ¬ Int32.ofNat (ht A 3 i) = Int32.ofNat n by rw [z_eq (by omega) (by omega)]; exact q), nx, if_neg (fun y => q y.1)]
theorem p_isNew {μ : dtM} {h n : Nat} {s : Nat → Nat} {A : aH} (H : PH μ h A) (h7 : hs A 2 < 7) (L : swL μ h (hs A 2) n s) (hn : n ≤ 4) (h4 : ∀ k, k < n → s k < 4) : f_X3_isNewWordSaid h μ = some (bI (nwB A n s (hs A 2) 0), μ) := by
  rw [f_X3_isNewWordSaid, H.g2, o_bind, if_pos (show Int32.ofNat (hs A 2) < (7 : Int32) by rw [show (7 : Int32) = Int32.ofNat 7 from rfl, z_lt (by omega) (by decide)]; exact h7)]
  exact nw13 H h7 L hn h4 (hs A 2) dtFuel 0 (by omega) (dtFuel_gt (by omega))
/-! the model's side -/
abbrev Mwd (b W : Nat) : Nat → Nat → Prop := fun k j => k = 134 ∧ b + 40 + 5 * W ≤ j ∧ j < b + 40 + 5 * W + 5
def mwL (μ : dtM) (b W n : Nat) (s : Nat → Nat) : Prop := dtI μ 134 (b + 40 + 5 * W) = Int32.ofNat n ∧ ∀ k, k < 4 → dtI μ 134 (b + 40 + 5 * W + (1 + k)) = Int32.ofNat (if k < n then s k else 0)
theorem MH.kW {μ μ' : dtM} {b nb : Nat} {A : aH} (H : MH μ b nb A) (h7 : hs A 2 < 7) (F : Fr (Mwd b (hs A 2)) μ μ') : MH μ' b nb A := by
  obtain ⟨S, V, W⟩ := H
  refine ⟨?_, ⟨fun j hj => ?_, ?_, fun t i x => ?_, fun wd k hw h1 h2 => ?_, fun r hr => ?_, fun p hp => ?_⟩, W⟩
  · unfold mSh
    rw [F.S, F.Ra]; exact S
  · rw [F.i (by omega)]; exact V.1 j hj
  · rw [F.i (by omega)]; exact V.2.1
  · rw [← V.2.2.1 t i x]
    refine F.i ?_
    have hB := hok_B W x
    by_cases h3 : 3 ≤ t ∧ t < 8
    · have hi : i < hs A 2 := by unfold hok at x; omega
      have y : mIdx t i = 40 + 5 * i + (t - 3) := by
        unfold mIdx
        rw [if_neg (by omega), if_pos (by omega)]
      rw [y]; omega
    · have hd := W.1.2.1
      have y : mIdx t i < 40 ∨ 75 ≤ mIdx t i := by
        unfold mIdx
        by_cases a : t < 3
        · rw [if_pos a]
          have : i < hs A 1 := by unfold hok at x; omega
          omega
        · rw [if_neg a, if_neg (by omega)]; omega
      omega
  · have y : mIdx (4 + k) wd = 40 + 5 * wd + (1 + k) := by
      unfold mIdx
      rw [if_neg (by omega), if_pos (by omega)]; omega
    have e : dtI μ' 134 (b + mIdx (4 + k) wd) = dtI μ 134 (b + mIdx (4 + k) wd) := F.i (by rw [y]; omega)
    rw [e]; exact V.2.2.2.1 wd k hw h1 h2
  · rw [F.j (by omega)]; exact V.2.2.2.2.1 r hr
  · rw [F.j (by omega)]; exact V.2.2.2.2.2 p hp
theorem MH.coined {μ μ' : dtM} {b nb n : Nat} {s : Nat → Nat} {A : aH} (H : MH μ b nb A) (h7 : hs A 2 < 7) (hn : 1 ≤ n ∧ n ≤ 4) (h4 : ∀ k, k < n → s k < 4) (L : mwL μ b (hs A 2) n s) (F : Fr (fun k j => (k = 134 ∧ j = b + 2) ∨ (k = 135 ∧ j = nb + 7 + hs A 2)) μ μ') (e2 : dtI μ' 134 (b + 2) = Int32.ofNat (hs A 2 + 1)) : MH μ' b nb (hCo A n s) := by
  obtain ⟨S, V, W⟩ := H
  have W' := hCo_W W h7 hn h4
  have hr7 := W.1.1
  refine ⟨?_, ⟨fun j hj => ?_, ?_, fun t i x => ?_, fun wd k hw h1 h2 => ?_, fun r hr => ?_, fun p hp => ?_⟩, W'⟩
  · unfold mSh
    rw [F.S, F.Ra]; exact S
  · by_cases e : j = 2
    · subst e; rw [e2, hCo_2]
    · rw [F.i (by omega), hCo_s e]; exact V.1 j hj
  · rw [F.i (by omega)]; exact V.2.1
  · have y10 := mIdx_hok W' x
    rw [F.i (by omega)]
    by_cases e : i = hs A 2 ∧ 3 ≤ t ∧ t < 8
    · obtain ⟨e1, e2, e3⟩ := e
      subst e1
      have y : mIdx t (hs A 2) = 40 + 5 * hs A 2 + (t - 3) := by
        unfold mIdx
        rw [if_neg (by omega), if_pos (by omega)]
      rw [y, hCo_n ⟨e2, e3⟩]
      by_cases x3 : t = 3
      · subst x3; rw [if_pos rfl, show b + (40 + 5 * hs A 2 + (3 - 3)) = b + 40 + 5 * hs A 2 by omega]; exact L.1
      · have hk : t - 4 < n := by
          unfold hok at x
          rw [hCo_n (show 3 ≤ 3 ∧ 3 < 8 by decide), if_pos rfl] at x
          omega
        rw [if_neg x3, show b + (40 + 5 * hs A 2 + (t - 3)) = b + 40 + 5 * hs A 2 + (1 + (t - 4)) by omega, L.2 (t - 4) (by omega), if_pos hk]
    · rw [hCo_o e]
      exact V.2.2.1 t i (hCo_ok e x)
  · have y : mIdx (4 + k) wd = 40 + 5 * wd + (1 + k) := by
      unfold mIdx
      rw [if_neg (by omega), if_pos (by omega)]; omega
    rw [F.i (by rw [y]; omega)]
    rw [hCo_2] at hw
    by_cases e : wd = hs A 2
    · subst e
      rw [hCo_n (by decide), if_pos rfl] at h1
      rw [y, show b + (40 + 5 * hs A 2 + (1 + k)) = b + 40 + 5 * hs A 2 + (1 + k) by omega, L.2 k h2, if_neg (by omega)]
    · rw [hCo_o (fun z => e z.1)] at h1
      exact V.2.2.2.1 wd k (by omega) h1 h2
  · have hr' : r < hs A 0 := by rw [← hCo_s (A := A) (n := n) (s := s) (show ¬ 0 = 2 by decide)]; exact hr
    rw [F.j (by omega)]; exact V.2.2.2.2.1 r hr'
  · have hp' : p < hs A 3 := by rw [← hCo_s (A := A) (n := n) (s := s) (show ¬ 3 = 2 by decide)]; exact hp
    rw [F.j (by omega)]; exact V.2.2.2.2.2 p hp'
theorem is3 {μ : dtM} {b nb n o : Nat} {s : Nat → Nat} {A : aH} (C : CX μ) (hb : b ≤ 2016) (H : MH μ b nb A) (h7 : hs A 2 < 7) (L : mwL μ b (hs A 2) n s) (hn : n ≤ 4) (h4 : ∀ k, k < n → s k < 4) (ho : o < hs A 2) (e3 : ht A 3 o = n) : ∀ (m f k : Nat), k + m = 4 → m < f → f_X12_isSame_3 f 133 (Int32.ofNat b) (Int32.ofNat (hs A 2)) (Int32.ofNat o) (Int32.ofNat (1 + k)) μ = some (bI (swA A s o (n - k) k), μ) := by
  intro m
  induction m with
  | zero =>
    intro f k e hf
    cases f with
    | zero => omega
    | succ f =>
      have : k = 4 := by omega
      subst this
      rw [f_X12_isSame_3, if_pos (by decide), z_lit, o_ret1', show n - 4 = 0 by omega]; rfl
  | succ m ih =>
    intro f k e hf
    cases f with
    | zero => omega
    | succ f =>
      have y : ∀ w, mIdx (4 + k) w = 40 + 5 * w + (1 + k) := fun w => by
        unfold mIdx
        rw [if_neg (by omega), if_pos (by omega)]; omega
      have la : opLI 1 μ 134 (Int32.ofNat (b + (40 + 5 * hs A 2) + (1 + k))) = some (Int32.ofNat (if k < n then s k else 0)) := by
        rw [o_LI C.s134 (by omega) (by decide), show b + (40 + 5 * hs A 2) + (1 + k) = b + 40 + 5 * hs A 2 + (1 + k) by omega, L.2 k (by omega)]
      have lb : opLI 1 μ 134 (Int32.ofNat (b + (40 + 5 * o) + (1 + k))) = some (Int32.ofNat (if k < n then ht A (4 + k) o else 0)) := by
        rw [o_LI C.s134 (by omega) (by decide), show b + (40 + 5 * o) + (1 + k) = b + mIdx (4 + k) o by rw [y]; omega]
        by_cases q : k < n
        · rw [if_pos q]
          exact congrArg some (H.2.1.2.2.1 (4 + k) o (Or.inr (Or.inr (Or.inl ⟨by omega, ho, by omega⟩))))
        · rw [if_neg q]
          exact congrArg some (H.2.1.2.2.2.1 o k ho (by omega) (by omega))
      rw [f_X12_isSame_3, if_neg (show ¬ (5 : Int32) ≤ Int32.ofNat (1 + k) by rw [show (5 : Int32) = Int32.ofNat 5 from rfl, z_le (by decide) (by omega)]; omega), C.g133_0, o_bind, f_wordRow, o_call, z_add, z_add, la, o_bind, C.g133_0, o_bind, f_wordRow, o_call, z_add, z_add, lb, o_bind]
      have nx := ih f (k + 1) (by omega) (by omega)
      by_cases q : k < n
      · have hk := h4 k q
        have hw := (H.2.2.2.2.1 o ho).2.2 k (by omega)
        rw [if_pos q, if_pos q, show n - k = (n - (k + 1)) + 1 by omega, swA]
        by_cases x : ht A (4 + k) o = s k
        · rw [if_pos x, if_pos (show Int32.ofNat (s k) = Int32.ofNat (ht A (4 + k) o) by rw [x]), show (1 : Int32) = Int32.ofNat 1 from rfl, z_add]
          exact nx
        · rw [if_neg x, if_neg (show ¬ Int32.ofNat (s k) = Int32.ofNat (ht A (4 + k) o) by rw [z_eq (by omega) (by omega)]; exact fun y => x y.symm), z_lit, o_ret0']
      · rw [if_neg q, if_neg q, if_pos rfl, show (1 : Int32) = Int32.ofNat 1 from rfl, z_add, show n - k = n - (k + 1) by omega]
        rw [show n - (k + 1) = 0 by omega] at nx ⊢
        exact nx
theorem n_isSame {μ : dtM} {b nb n o : Nat} {s : Nat → Nat} {A : aH} (C : CX μ) (hb : b ≤ 2016) (H : MH μ b nb A) (h7 : hs A 2 < 7) (L : mwL μ b (hs A 2) n s) (hn : n ≤ 4) (h4 : ∀ k, k < n → s k < 4) (ho : o < hs A 2) : f_X12_isSame 133 (Int32.ofNat b) (Int32.ofNat (hs A 2)) (Int32.ofNat o) μ = some (bI (decide (ht A 3 o = n ∧ swA A s o n 0 = true)), μ) := by
  have hw := H.2.2.2.2.1 o ho
  have y : mIdx 3 o = 40 + 5 * o := rfl
  have la : opLI 1 μ 134 (Int32.ofNat (b + (40 + 5 * hs A 2) + 0)) = some (Int32.ofNat n) := by
    rw [o_LI C.s134 (by omega) (by decide), show b + (40 + 5 * hs A 2) + 0 = b + 40 + 5 * hs A 2 by omega, L.1]
  have lb : opLI 1 μ 134 (Int32.ofNat (b + (40 + 5 * o) + 0)) = some (Int32.ofNat (ht A 3 o)) := by
    rw [o_LI C.s134 (by omega) (by decide), show b + (40 + 5 * o) + 0 = b + mIdx 3 o by rw [y]; omega]
    exact congrArg some (H.2.1.2.2.1 3 o (Or.inr (Or.inl ⟨rfl, ho⟩)))
  obtain ⟨f, hf⟩ : ∃ f, dtFuel = f + 1 := ⟨dtFuel - 1, by have := dtFuel_gt (n := 1) (by decide); omega⟩
  have hf4 : 4 < f := by have := dtFuel_gt (n := 10) (by decide); omega
  rw [f_X12_isSame, hf, show (0 : Int32) = Int32.ofNat 0 from rfl, f_X12_isSame_3, if_neg (by decide), C.g133_0, o_bind, f_wordRow, o_call, z_add, z_add, la, o_bind, C.g133_0, o_bind, f_wordRow, o_call, z_add, z_add, lb, o_bind]
  by_cases q : ht A 3 o = n
  · rw [if_pos (show Int32.ofNat n = Int32.ofNat (ht A 3 o) by rw [q]), show (1 : Int32) = Int32.ofNat 1 from rfl, z_add]
    have := is3 C hb H h7 L hn h4 ho q 4 f 0 (by omega) hf4
    rw [show 0 + 1 = 1 + 0 from rfl, this, Nat.sub_zero]
    cases hb : swA A s o n 0
    · rw [decide_eq_false (fun x => Bool.false_ne_true x.2)]
    · rw [decide_eq_true ⟨q, rfl⟩]
  · rw [if_neg (show ¬ Int32.ofNat n = Int32.ofNat (ht A 3 o) by rw [z_eq (by omega) (by omega)]; exact fun y => q y.symm), z_lit, o_ret0', decide_eq_false (fun x => q x.1)]
theorem sa2 {μ : dtM} {b nb n : Nat} {s : Nat → Nat} {A : aH} (C : CX μ) (hb : b ≤ 2016) (H : MH μ b nb A) (h7 : hs A 2 < 7) (L : mwL μ b (hs A 2) n s) (hn : n ≤ 4) (h4 : ∀ k, k < n → s k < 4) : ∀ (m f o : Nat), o + m = hs A 2 → m < f → ∃ v, f_X12_sameAs_2 f 133 (Int32.ofNat b) (Int32.ofNat (hs A 2)) (Int32.ofNat o) μ = some (v, μ) ∧ (v = (-1 : Int32)) = (nwB A n s m o = false) := by
  intro m
  induction m with
  | zero =>
    intro f o e hf
    cases f with
    | zero => omega
    | succ f =>
      refine ⟨-1, ?_, ?_⟩
      · rw [f_X12_sameAs_2, if_pos (show Int32.ofNat (hs A 2) ≤ Int32.ofNat o by rw [z_le (by omega) (by omega)]; omega)]
      · rw [nwB, eq_self, eq_self]
  | succ m ih =>
    intro f o e hf
    cases f with
    | zero => omega
    | succ f =>
      obtain ⟨v, e1, e2⟩ := ih f (o + 1) (by omega) (by omega)
      rw [nwB]
      by_cases q : ht A 3 o = n ∧ swA A s o n 0 = true
      · refine ⟨Int32.ofNat o, ?_, ?_⟩
        · rw [f_X12_sameAs_2, if_neg (show ¬ Int32.ofNat (hs A 2) ≤ Int32.ofNat o by rw [z_le (by omega) (by omega)]; omega), C.v133, o_bind, n_isSame C hb H h7 L hn h4 (by omega), o_call, decide_eq_true q, if_neg (by decide)]
        · rw [if_pos q]
          exact propext ⟨fun x => absurd x (by rw [show (-1 : Int32) = -Int32.ofNat 1 from rfl, z_neg (by omega)]; exact id), fun x => absurd x (by decide)⟩
      · refine ⟨v, ?_, ?_⟩
        · rw [f_X12_sameAs_2, if_neg (show ¬ Int32.ofNat (hs A 2) ≤ Int32.ofNat o by rw [z_le (by omega) (by omega)]; omega), C.v133, o_bind, n_isSame C hb H h7 L hn h4 (by omega), o_call, decide_eq_false q, if_pos (by decide), show (1 : Int32) = Int32.ofNat 1 from rfl, z_add, e1]
        · rw [if_neg q]; exact e2
theorem n_sameAs {μ : dtM} {b nb n : Nat} {s : Nat → Nat} {A : aH} (C : CX μ) (hb : b ≤ 2016) (H : MH μ b nb A) (h7 : hs A 2 < 7) (L : mwL μ b (hs A 2) n s) (hn : n ≤ 4) (h4 : ∀ k, k < n → s k < 4) : ∃ v, f_X12_sameAs 133 (Int32.ofNat b) (Int32.ofNat (hs A 2)) μ = some (v, μ) ∧ (v = (-1 : Int32)) = (nwB A n s (hs A 2) 0 = false) := sa2 C hb H h7 L hn h4 (hs A 2) dtFuel 0 (by omega) (dtFuel_gt (by omega))
