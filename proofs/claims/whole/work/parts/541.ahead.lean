/-! PURE 81: the model's token -/
def TXM (μ : dtM) (n : Nat) (B : Nat → Int32) : Prop := CX μ ∧ n ≤ 900 ∧ (∀ j, j < n → dtI μ 140 j = B j ∧ isB (B j)) ∧ dtI μ 133 11 = Int32.ofNat n
abbrev Mtk : Nat → Nat → Prop := fun k j => k = 133 ∧ 12 ≤ j ∧ j ≤ 15
theorem TXM.kept {P : Nat → Nat → Prop} {μ μ' : dtM} {n : Nat} {B : Nat → Int32} (T : TXM μ n B) (F : Fr P μ μ') (q : ¬ P 133 11 ∧ ∀ j, ¬ P 140 j) : TXM μ' n B := by
  obtain ⟨C, h, t, l⟩ := T
  exact ⟨C.kept F, h, fun j hj => by rw [F.i (q.2 j)]; exact t j hj, by rw [F.i q.1]; exact l⟩
theorem TXM.tk {μ μ' : dtM} {n : Nat} {B : Nat → Int32} (T : TXM μ n B) (F : Fr Mtk μ μ') : TXM μ' n B := T.kept F ⟨fun x => by
  have y : 133 = 133 ∧ 12 ≤ 11 ∧ 11 ≤ 15 := x
  omega, fun j x => by
  have y : 140 = 133 ∧ 12 ≤ j ∧ j ≤ 15 := x
  omega⟩
theorem TXM.g {μ : dtM} {n : Nat} {B : Nat → Int32} (T : TXM μ n B) (j : Nat) : opGI 12 j μ 133 = some (dtI μ 133 j) := o_GI T.1.s133
theorem TXM.p {μ : dtM} {n : Nat} {B : Nat → Int32} (T : TXM μ n B) (j : Nat) (v : Int32) : opPI 12 j μ 133 v = some (dtSI μ 133 j v) := o_PI T.1.s133
def byt (B : Nat → Int32) (n k : Nat) : Int32 := if k < n then Int32.ofNat (tx B k) else -Int32.ofNat 1
theorem byt_in {B : Nat → Int32} {n k : Nat} (h : k < n) : byt B n k = Int32.ofNat (tx B k) := if_pos h
theorem byt_out {B : Nat → Int32} {n k : Nat} (h : ¬ k < n) : byt B n k = -Int32.ofNat 1 := if_neg h
theorem n_byte {μ : dtM} {n : Nat} {B : Nat → Int32} (T : TXM μ n B) {k : Nat} (hk : k < 2147483648) : f_X12_byteAt 133 (Int32.ofNat k) μ = some (byt B n k, μ) := by
  have n9 := T.2.1
  by_cases q : k < n
  · have t := T.2.2.1 k q
    rw [f_X12_byteAt, T.g 11, T.2.2.2, o_bind, if_neg (show ¬ Int32.ofNat n ≤ Int32.ofNat k by rw [z_le (by omega) hk]; omega), T.1.g133_9, o_bind, o_LI T.1.s140 (by omega) (by decide), t.1, o_bind, f_X12_byteAt_22, byt_in q, isB_and t.2]; rfl
  · rw [f_X12_byteAt, T.g 11, T.2.2.2, o_bind, if_pos (show Int32.ofNat n ≤ Int32.ofNat k by rw [z_le (by omega) hk]; omega), f_X12_byteAt_22, byt_out q]; rfl
theorem n_small {μ : dtM} {u : Nat} (h : u < 256) : f_X12_isSmall (Int32.ofNat u) μ = some (bI (isLo u), μ) := by
  unfold isLo
  rw [f_X12_isSmall, show (97 : Int32) = Int32.ofNat 97 from rfl, show (122 : Int32) = Int32.ofNat 122 from rfl]
  by_cases a : 97 ≤ u
  · rw [if_neg (show ¬ Int32.ofNat u < Int32.ofNat 97 by rw [z_lt (by omega) (by decide)]; omega), decide_eq_true a]
    by_cases b : u ≤ 122
    · rw [if_neg (show ¬ Int32.ofNat 122 < Int32.ofNat u by rw [z_lt (by decide) (by omega)]; omega), decide_eq_true b, f_X12_isSmall_17, show (1 : Int32) = Int32.ofNat 1 from rfl, o_ret1']; rfl
    · rw [if_pos (show Int32.ofNat 122 < Int32.ofNat u by rw [z_lt (by decide) (by omega)]; omega), decide_eq_false b, f_X12_isSmall_16, f_X12_isSmall_17, show (0 : Int32) = Int32.ofNat 0 from rfl, o_ret0']; rfl
  · rw [if_pos (show Int32.ofNat u < Int32.ofNat 97 by rw [z_lt (by omega) (by decide)]; omega), decide_eq_false a, f_X12_isSmall_16, f_X12_isSmall_17, show (0 : Int32) = Int32.ofNat 0 from rfl, o_ret0']; rfl
theorem n_digit {μ : dtM} {u : Nat} (h : u < 256) : f_X12_isDigit (Int32.ofNat u) μ = some (bI (isDi u), μ) := by
  unfold isDi
  rw [f_X12_isDigit, show (48 : Int32) = Int32.ofNat 48 from rfl, show (57 : Int32) = Int32.ofNat 57 from rfl]
  by_cases a : 48 ≤ u
  · rw [if_neg (show ¬ Int32.ofNat u < Int32.ofNat 48 by rw [z_lt (by omega) (by decide)]; omega), decide_eq_true a]
    by_cases b : u ≤ 57
    · rw [if_neg (show ¬ Int32.ofNat 57 < Int32.ofNat u by rw [z_lt (by decide) (by omega)]; omega), decide_eq_true b, f_X12_isDigit_17, show (1 : Int32) = Int32.ofNat 1 from rfl, o_ret1']; rfl
    · rw [if_pos (show Int32.ofNat 57 < Int32.ofNat u by rw [z_lt (by decide) (by omega)]; omega), decide_eq_false b, f_X12_isDigit_16, f_X12_isDigit_17, show (0 : Int32) = Int32.ofNat 0 from rfl, o_ret0']; rfl
  · rw [if_pos (show Int32.ofNat u < Int32.ofNat 48 by rw [z_lt (by omega) (by decide)]; omega), decide_eq_false a, f_X12_isDigit_16, f_X12_isDigit_17, show (0 : Int32) = Int32.ofNat 0 from rfl, o_ret0']; rfl
theorem n_smallM {μ : dtM} : f_X12_isSmall (-Int32.ofNat 1) μ = some (bI false, μ) := by
  rw [f_X12_isSmall, if_pos (by decide), f_X12_isSmall_16, f_X12_isSmall_17, show (0 : Int32) = Int32.ofNat 0 from rfl, o_ret0']
theorem n_digitM {μ : dtM} : f_X12_isDigit (-Int32.ofNat 1) μ = some (bI false, μ) := by
  rw [f_X12_isDigit, if_pos (by decide), f_X12_isDigit_16, f_X12_isDigit_17, show (0 : Int32) = Int32.ofNat 0 from rfl, o_ret0']
theorem n_bSmall {μ : dtM} {B : Nat → Int32} {n k : Nat} : f_X12_isSmall (byt B n k) μ = some (bI (decide (k < n) && isLo (tx B k)), μ) := by
  by_cases q : k < n
  · rw [byt_in q, n_small tx_lt, decide_eq_true q]; rfl
  · rw [byt_out q, n_smallM, decide_eq_false q]; rfl
theorem n_bDigit {μ : dtM} {B : Nat → Int32} {n k : Nat} : f_X12_isDigit (byt B n k) μ = some (bI (decide (k < n) && isDi (tx B k)), μ) := by
  by_cases q : k < n
  · rw [byt_in q, n_digit tx_lt, decide_eq_true q]; rfl
  · rw [byt_out q, n_digitM, decide_eq_false q]; rfl
def mkT (k : Nat) : Nat := if k = 0 then 0 else if k = 1 then 2 else if k = 2 then 3 else if k = 3 then 4 else 1
def MTk (μ : dtM) (n : Nat) (B : Nat → Int32) (e : Nat) : Prop := TXM μ n B ∧ e ≤ n ∧ dtI μ 133 13 = Int32.ofNat (lxF (tx B) n e) ∧ dtI μ 133 14 = Int32.ofNat (lxE (tx B) n e) ∧ dtI μ 133 12 = Int32.ofNat (mkT (lxT (tx B) n e)) ∧ (lxT (tx B) n e = 2 → dtI μ 133 15 = Int32.ofNat (lxV (tx B) n e)) ∧ (lxT (tx B) n e = 3 → dtI μ 133 15 = Int32.ofNat (tx B (lxF (tx B) n e)))
theorem ah81 {n : Nat} {B : Nat → Int32} : ∀ (m f i : Nat) (μ : dtM), i + m = n → m < f → TXM μ n B → dtI μ 133 14 = Int32.ofNat i → ∃ μ', f_X12_ahead_81 f 133 μ = some μ' ∧ Fr (fun k j => k = 133 ∧ (j = 14 ∨ j = 12)) μ μ' ∧ dtI μ' 133 14 = Int32.ofNat (rnn isLo (tx B) n i) ∧ dtI μ' 133 12 = Int32.ofNat 2 := by
  intro m
  induction m with
  | zero =>
    intro f i μ e hf T h
    have n9 := T.2.1
    cases f with
    | zero => omega
    | succ f =>
      refine ⟨dtSI μ 133 12 (Int32.ofNat 2), ?_, Fr.SI ⟨rfl, Or.inr rfl⟩, by rw [m_I_SI, if_neg (by omega), rnn_out (by omega)]; exact h, by rw [m_I_SI, if_pos ⟨rfl, rfl⟩]⟩
      rw [f_X12_ahead_81, T.g 14, h, o_bind, T.1.v133, o_bind, n_byte T (by omega), o_call, n_bSmall, decide_eq_false (by omega), Bool.false_and, o_call, if_pos (by decide), T.p, o_bind, f_X12_ahead_251]; rfl
  | succ m ih =>
    intro f i μ e hf T h
    have n9 := T.2.1
    cases f with
    | zero => omega
    | succ f =>
      cases q : isLo (tx B i)
      · refine ⟨dtSI μ 133 12 (Int32.ofNat 2), ?_, Fr.SI ⟨rfl, Or.inr rfl⟩, by rw [m_I_SI, if_neg (by omega), rnn_out (fun x => by rw [q] at x; cases x.2)]; exact h, by rw [m_I_SI, if_pos ⟨rfl, rfl⟩]⟩
        rw [f_X12_ahead_81, T.g 14, h, o_bind, T.1.v133, o_bind, n_byte T (by omega), o_call, n_bSmall, q, decide_eq_true (show i < n by omega), o_call, if_pos (by decide), T.p, o_bind, f_X12_ahead_251]; rfl
      · have F1 : Fr (fun k j => k = 133 ∧ (j = 14 ∨ j = 12)) μ (dtSI μ 133 14 (Int32.ofNat (i + 1))) := Fr.SI ⟨rfl, Or.inl rfl⟩
        obtain ⟨μ2, e2, F2, g2, g3⟩ := ih f (i + 1) _ (by omega) (by omega) (T.kept F1 ⟨by omega, by intros; omega⟩) (by rw [m_I_SI, if_pos ⟨rfl, rfl⟩])
        refine ⟨μ2, ?_, F1.tr F2, by rw [rnn_in (by omega) q]; exact g2, g3⟩
        rw [f_X12_ahead_81, T.g 14, h, o_bind, T.1.v133, o_bind, n_byte T (by omega), o_call, n_bSmall, q, decide_eq_true (show i < n by omega), o_call, if_neg (by decide), T.g 14, h, o_bind, show (1 : Int32) = Int32.ofNat 1 from rfl, z_add, T.p, o_bind, e2]
def cvL (u : Nat → Nat) : Nat → Nat → Nat → Nat
  | 0, _, v => v
  | m + 1, i, v => cvL u m (i + 1) (if v * 10 + (u i - 48) < 100000 then v * 10 + (u i - 48) else 100000)
theorem nvL_ge {u : Nat → Nat} : ∀ (m i v : Nat), v ≤ nvL u m i v
  | 0, _, _ => Nat.le_refl _
  | m + 1, i, v => by
    rw [nvL]
    have := nvL_ge (u := u) m (i + 1) (v * 10 + (u i - 48))
    omega
theorem cvL_nv {u : Nat → Nat} : ∀ (m i v : Nat), nvL u m i v < 100000 → cvL u m i v = nvL u m i v
  | 0, _, _, _ => rfl
  | m + 1, i, v, h => by
    rw [nvL] at h
    have := nvL_ge (u := u) m (i + 1) (v * 10 + (u i - 48))
    rw [cvL, nvL, if_pos (by omega)]
    exact cvL_nv m (i + 1) _ h
theorem ah128 {n F : Nat} {B : Nat → Int32} : ∀ (m f i v : Nat) (μ : dtM), i + m = n → F ≤ i → m < f → v ≤ 100000 → TXM μ n B → dtI μ 133 14 = Int32.ofNat i → dtI μ 133 13 = Int32.ofNat F → dtI μ 133 15 = Int32.ofNat v → ∃ μ', f_X12_ahead_128 f 133 μ = some μ' ∧ Fr (fun k j => k = 133 ∧ (j = 14 ∨ j = 12 ∨ j = 15)) μ μ' ∧ dtI μ' 133 14 = Int32.ofNat (rnn isDi (tx B) n i) ∧ dtI μ' 133 12 = Int32.ofNat (if rnn isDi (tx B) n i - F ≤ 4 then 3 else 1) ∧ dtI μ' 133 15 = Int32.ofNat (cvL (tx B) (rnn isDi (tx B) n i - i) i v) := by
  have stop : ∀ (f i v : Nat) (μ : dtM), F ≤ i → i ≤ n → TXM μ n B → dtI μ 133 14 = Int32.ofNat i → dtI μ 133 13 = Int32.ofNat F → dtI μ 133 15 = Int32.ofNat v → (decide (i < n) && isDi (tx B i)) = false → ∃ μ', f_X12_ahead_128 (f + 1) 133 μ = some μ' ∧ Fr (fun k j => k = 133 ∧ (j = 14 ∨ j = 12 ∨ j = 15)) μ μ' ∧ dtI μ' 133 14 = Int32.ofNat i ∧ dtI μ' 133 12 = Int32.ofNat (if i - F ≤ 4 then 3 else 1) ∧ dtI μ' 133 15 = Int32.ofNat v := by
    intro f i v μ hF hi T h14 h13 h15 hb
    have n9 := T.2.1
    have st : f_X12_ahead_128 (f + 1) 133 μ = if Int32.ofNat (i - F) ≤ (4 : Int32) then (f_X12_ahead_202 133 (3 : Int32) μ) else (f_X12_ahead_202 133 (1 : Int32) μ) := by
      rw [f_X12_ahead_128, T.g 14, h14, o_bind, T.1.v133, o_bind, n_byte T (by omega), o_call, n_bDigit, hb, o_call, if_pos (by decide), T.g 14, h14, o_bind, T.g 13, h13, o_bind, z_sub hF]
    by_cases q : i - F ≤ 4
    · refine ⟨dtSI μ 133 12 (Int32.ofNat 3), ?_, Fr.SI ⟨rfl, Or.inr (Or.inl rfl)⟩, by rw [m_I_SI, if_neg (by omega)]; exact h14, by rw [m_I_SI, if_pos ⟨rfl, rfl⟩, if_pos q], by rw [m_I_SI, if_neg (by omega)]; exact h15⟩
      rw [st, if_pos (show Int32.ofNat (i - F) ≤ (4 : Int32) by rw [show (4 : Int32) = Int32.ofNat 4 from rfl, z_le (by omega) (by decide)]; exact q), f_X12_ahead_202, T.p, o_bind, f_X12_ahead_251]; rfl
    · refine ⟨dtSI μ 133 12 (Int32.ofNat 1), ?_, Fr.SI ⟨rfl, Or.inr (Or.inl rfl)⟩, by rw [m_I_SI, if_neg (by omega)]; exact h14, by rw [m_I_SI, if_pos ⟨rfl, rfl⟩, if_neg q], by rw [m_I_SI, if_neg (by omega)]; exact h15⟩
      rw [st, if_neg (show ¬ Int32.ofNat (i - F) ≤ (4 : Int32) by rw [show (4 : Int32) = Int32.ofNat 4 from rfl, z_le (by omega) (by decide)]; exact q), f_X12_ahead_202, T.p, o_bind, f_X12_ahead_251]; rfl
  intro m
  induction m with
  | zero =>
    intro f i v μ e hF hf hv T h14 h13 h15
    cases f with
    | zero => omega
    | succ f =>
      obtain ⟨μ', e', F', a, b, c⟩ := stop f i v μ hF (by omega) T h14 h13 h15 (by rw [decide_eq_false (by omega)]; rfl)
      have r : rnn isDi (tx B) n i = i := rnn_out (by omega)
      exact ⟨μ', e', F', by rw [r]; exact a, by rw [r]; exact b, by rw [r, Nat.sub_self]; exact c⟩
  | succ m ih =>
    intro f i v μ e hF hf hv T h14 h13 h15
    have n9 := T.2.1
    cases f with
    | zero => omega
    | succ f =>
      cases q : isDi (tx B i)
      · obtain ⟨μ', e', F', a, b, c⟩ := stop f i v μ hF (by omega) T h14 h13 h15 (by rw [q, Bool.and_false])
        have r : rnn isDi (tx B) n i = i := rnn_out (fun x => by rw [q] at x; cases x.2)
        exact ⟨μ', e', F', by rw [r]; exact a, by rw [r]; exact b, by rw [r, Nat.sub_self]; exact c⟩
      · have hi : i < n := by omega
        have di := isDi_t q
        have F1 : Fr (fun k j => k = 133 ∧ (j = 14 ∨ j = 12 ∨ j = 15)) μ (dtSI (dtSI μ 133 15 (Int32.ofNat (if v * 10 + (tx B i - 48) < 100000 then v * 10 + (tx B i - 48) else 100000))) 133 14 (Int32.ofNat (i + 1))) := (Fr.SI ⟨rfl, Or.inr (Or.inr rfl)⟩).tr (Fr.SI ⟨rfl, Or.inl rfl⟩)
        have Ta : TXM (dtSI μ 133 15 (Int32.ofNat (if v * 10 + (tx B i - 48) < 100000 then v * 10 + (tx B i - 48) else 100000))) n B := T.kept (P := fun k j => k = 133 ∧ j = 15) (Fr.SI ⟨rfl, rfl⟩) ⟨by omega, by intros; omega⟩
        have hv2 : (if v * 10 + (tx B i - 48) < 100000 then v * 10 + (tx B i - 48) else 100000) ≤ 100000 := by
          by_cases w : v * 10 + (tx B i - 48) < 100000
          · rw [if_pos w]; omega
          · rw [if_neg w]; exact Nat.le_refl _
        obtain ⟨μ2, e2, F2, g2, g3, g4⟩ := ih f (i + 1) _ _ (by omega) (by omega) (by omega) hv2 (T.kept F1 ⟨by omega, by intros; omega⟩) (by rw [m_I_SI, if_pos ⟨rfl, rfl⟩]) (by rw [m_I_SI, if_neg (by omega), m_I_SI, if_neg (by omega)]; exact h13) (by rw [m_I_SI, if_neg (by omega), m_I_SI, if_pos ⟨rfl, rfl⟩])
        have r : rnn isDi (tx B) n i = rnn isDi (tx B) n (i + 1) := rnn_in hi q
        have ge := rnn_ge (P := isDi) (tx := tx B) (n := n) (i := i + 1)
        refine ⟨μ2, ?_, F1.tr F2, by rw [r]; exact g2, by rw [r]; exact g3, by rw [r, g4, show rnn isDi (tx B) n (i + 1) - i = (rnn isDi (tx B) n (i + 1) - (i + 1)) + 1 by omega, cvL]⟩
        have cap : (if ((((10 : Int32) * Int32.ofNat v) + Int32.ofNat (tx B i)) - (48 : Int32)) < (100000 : Int32) then ((((10 : Int32) * Int32.ofNat v) + Int32.ofNat (tx B i)) - (48 : Int32)) else (100000 : Int32)) = Int32.ofNat (if v * 10 + (tx B i - 48) < 100000 then v * 10 + (tx B i - 48) else 100000) := by
          have e1 : ((((10 : Int32) * Int32.ofNat v) + Int32.ofNat (tx B i)) - (48 : Int32)) = Int32.ofNat (v * 10 + (tx B i - 48)) := by
            rw [show (10 : Int32) = Int32.ofNat 10 from rfl, show (48 : Int32) = Int32.ofNat 48 from rfl, z_mul, z_add, z_sub (by omega), show 10 * v + tx B i - 48 = v * 10 + (tx B i - 48) by omega]
          have := tx_lt (B := B) (j := i)
          rw [e1]
          by_cases w : v * 10 + (tx B i - 48) < 100000
          · rw [if_pos w, if_pos (show Int32.ofNat (v * 10 + (tx B i - 48)) < (100000 : Int32) by rw [show (100000 : Int32) = Int32.ofNat 100000 from rfl, z_lt (by omega) (by decide)]; exact w)]
          · rw [if_neg w, if_neg (show ¬ Int32.ofNat (v * 10 + (tx B i - 48)) < (100000 : Int32) by rw [show (100000 : Int32) = Int32.ofNat 100000 from rfl, z_lt (by omega) (by decide)]; exact w)]
            rfl
        rw [f_X12_ahead_128, T.g 14, h14, o_bind, T.1.v133, o_bind, n_byte T (by omega), o_call, n_bDigit, q, decide_eq_true hi, o_call, if_neg (by decide), T.g 15, h15, o_bind, T.g 14, h14, o_bind, T.1.v133, o_bind, n_byte T (by omega), o_call, byt_in hi, cap, o_bind, T.p, o_bind, Ta.g 14, m_I_SI, if_neg (by omega), h14, o_bind, show (1 : Int32) = Int32.ofNat 1 from rfl, z_add, Ta.p, o_bind, e2]
theorem ah0w {n : Nat} {B : Nat → Int32} : ∀ (m f i : Nat) (μ : dtM), i + m = n → m < f → TXM μ n B → dtI μ 133 14 = Int32.ofNat i → ∃ f' μ', f_X12_ahead_0 f 133 μ = f_X12_ahead_0 (f' + 1) 133 μ' ∧ Fr (fun k j => k = 133 ∧ j = 14) μ μ' ∧ dtI μ' 133 14 = Int32.ofNat (rnn isWs (tx B) n i) := by
  intro m
  induction m with
  | zero =>
    intro f i μ e hf T h
    cases f with
    | zero => omega
    | succ f => exact ⟨f, μ, rfl, Fr.rf, by rw [rnn_out (by omega)]; exact h⟩
  | succ m ih =>
    intro f i μ e hf T h
    have n9 := T.2.1
    have hi : i < n := by omega
    cases f with
    | zero => omega
    | succ f =>
      cases q : isWs (tx B i)
      · exact ⟨f, μ, rfl, Fr.rf, by rw [rnn_out (fun x => by rw [q] at x; cases x.2)]; exact h⟩
      · have F1 : Fr (fun k j => k = 133 ∧ j = 14) μ (dtSI μ 133 14 (Int32.ofNat (i + 1))) := Fr.SI ⟨rfl, rfl⟩
        obtain ⟨f', μ2, e2, F2, g2⟩ := ih f (i + 1) _ (by omega) (by omega) (T.kept F1 ⟨by omega, by intros; omega⟩) (by rw [m_I_SI, if_pos ⟨rfl, rfl⟩])
        refine ⟨f', μ2, ?_, F1.tr F2, by rw [rnn_in hi q]; exact g2⟩
        have e26 : f_X12_ahead_26 (f_X12_ahead_0 f) 133 μ = f_X12_ahead_0 (f' + 1) 133 μ2 := by
          rw [f_X12_ahead_26, T.g 14, h, o_bind, show (1 : Int32) = Int32.ofNat 1 from rfl, z_add, T.p, o_bind, e2]
        have lt := tx_lt (B := B) (j := i)
        unfold isWs at q
        rw [Bool.or_eq_true, decide_eq_true_iff, decide_eq_true_iff] at q
        rw [f_X12_ahead_0, T.g 14, h, o_bind, T.1.v133, o_bind, n_byte T (by omega), o_call, byt_in hi]
        by_cases w : tx B i = 32
        · rw [if_pos (show Int32.ofNat (tx B i) = (32 : Int32) by rw [w]; rfl), e26]
        · rw [if_neg (show ¬ Int32.ofNat (tx B i) = (32 : Int32) by rw [show (32 : Int32) = Int32.ofNat 32 from rfl, z_eq (by omega) (by decide)]; exact w), T.g 14, h, o_bind, T.1.v133, o_bind, n_byte T (by omega), o_call, byt_in hi, if_pos (show Int32.ofNat (tx B i) = (10 : Int32) by rw [q.resolve_right w]; rfl), e26]
theorem n_ahead {n e : Nat} {B : Nat → Int32} {μ : dtM} (T : TXM μ n B) (he : e ≤ n) (h14 : dtI μ 133 14 = Int32.ofNat e) : ∃ μ', f_X12_ahead 133 μ = some μ' ∧ Fr Mtk μ μ' ∧ MTk μ' n B e := by
  have n9 := T.2.1
  obtain ⟨f, μ1, e1, F1, g1⟩ := ah0w (n - e) dtFuel e μ (by omega) (dtFuel_gt (by omega)) T h14
  have g14 : dtI μ1 133 14 = Int32.ofNat (lxF (tx B) n e) := g1
  have F1x : Fr Mtk μ μ1 := F1.wide (fun k j x => ⟨x.1, by omega, by omega⟩)
  have T1 := T.tk F1x
  have hF := lxF_le (tx := tx B) he
  have F2 : Fr Mtk μ1 (dtSI (dtSI μ1 133 13 (Int32.ofNat (lxF (tx B) n e))) 133 15 (byt B n (lxF (tx B) n e))) := (Fr.SI ⟨rfl, by decide, by decide⟩).tr (Fr.SI ⟨rfl, by decide, by decide⟩)
  have Ta : TXM (dtSI μ1 133 13 (Int32.ofNat (lxF (tx B) n e))) n B := T1.tk (Fr.SI ⟨rfl, by decide, by decide⟩)
  have T2 := T1.tk F2
  have w13 : dtI (dtSI (dtSI μ1 133 13 (Int32.ofNat (lxF (tx B) n e))) 133 15 (byt B n (lxF (tx B) n e))) 133 13 = Int32.ofNat (lxF (tx B) n e) := by rw [m_I_SI, if_neg (by omega), m_I_SI, if_pos ⟨rfl, rfl⟩]
  have w14 : dtI (dtSI (dtSI μ1 133 13 (Int32.ofNat (lxF (tx B) n e))) 133 15 (byt B n (lxF (tx B) n e))) 133 14 = Int32.ofNat (lxF (tx B) n e) := by rw [m_I_SI, if_neg (by omega), m_I_SI, if_neg (by omega)]; exact g14
  have w15 : dtI (dtSI (dtSI μ1 133 13 (Int32.ofNat (lxF (tx B) n e))) 133 15 (byt B n (lxF (tx B) n e))) 133 15 = byt B n (lxF (tx B) n e) := by rw [m_I_SI, if_pos ⟨rfl, rfl⟩]
  have nws : ∀ v, v < 256 → isWs v = true → ¬ byt B n (lxF (tx B) n e) = Int32.ofNat v := fun v hv hw x => by
    by_cases q : lxF (tx B) n e < n
    · have lt := tx_lt (B := B) (j := lxF (tx B) n e)
      rw [byt_in q, z_eq (by omega) (by omega)] at x
      have r : rnn isWs (tx B) n (lxF (tx B) n e) = rnn isWs (tx B) n (lxF (tx B) n e + 1) := rnn_in q (by rw [x]; exact hw)
      have ge := rnn_ge (P := isWs) (tx := tx B) (n := n) (i := lxF (tx B) n e + 1)
      have idem : ∀ (m i : Nat), i + m = n → rnn isWs (tx B) n (rnn isWs (tx B) n i) = rnn isWs (tx B) n i := by
        intro m
        induction m with
        | zero => intro i ei; rw [rnn_out (i := i) (by omega), rnn_out (by omega)]
        | succ m ih =>
          intro i ei
          by_cases p : isWs (tx B i) = true
          · rw [rnn_in (i := i) (by omega) p]; exact ih (i + 1) (by omega)
          · rw [rnn_out (i := i) (fun y => p y.2), rnn_out (fun y => p y.2)]
      have id := idem (n - e) e (by omega)
      have id' : rnn isWs (tx B) n (lxF (tx B) n e) = lxF (tx B) n e := id
      omega
    · rw [byt_out q, z_neg' (by omega)] at x
      exact x
  have st : f_X12_ahead 133 μ = (if byt B n (lxF (tx B) n e) = (-1 : Int32) then ((opPI 12 12 (dtSI (dtSI μ1 133 13 (Int32.ofNat (lxF (tx B) n e))) 133 15 (byt B n (lxF (tx B) n e))) 133 (0 : Int32)).bind fun μ64 => f_X12_ahead_251 μ64) else (opCall (f_X12_isSmall (byt B n (lxF (tx B) n e)) (dtSI (dtSI μ1 133 13 (Int32.ofNat (lxF (tx B) n e))) 133 15 (byt B n (lxF (tx B) n e)))) fun x36 μ34 => if x36 = 0 then (opCall (f_X12_isDigit (byt B n (lxF (tx B) n e)) μ34) fun x42 μ40 => if x42 = 0 then ((opGI 12 14 μ40 133).bind fun x46 => (opPI 12 14 μ40 133 (x46 + (1 : Int32))).bind fun μ48 => if byt B n (lxF (tx B) n e) = (59 : Int32) then (f_X12_ahead_243 133 μ48) else (if byt B n (lxF (tx B) n e) = (60 : Int32) then (f_X12_ahead_243 133 μ48) else (if byt B n (lxF (tx B) n e) = (62 : Int32) then (f_X12_ahead_243 133 μ48) else (if byt B n (lxF (tx B) n e) = (61 : Int32) then (f_X12_ahead_243 133 μ48) else (f_X12_ahead_248 133 (1 : Int32) μ48))))) else ((opPI 12 15 μ40 133 (0 : Int32)).bind fun μ62 => f_X12_ahead_128 dtFuel 133 μ62)) else (f_X12_ahead_81 dtFuel 133 μ34))) := by
    rw [f_X12_ahead, e1, f_X12_ahead_0, T1.g 14, g14, o_bind, T1.1.v133, o_bind, n_byte T1 (by omega), o_call, if_neg (show ¬ byt B n (lxF (tx B) n e) = (32 : Int32) from nws 32 (by decide) (by decide)), T1.g 14, g14, o_bind, T1.1.v133, o_bind, n_byte T1 (by omega), o_call, if_neg (show ¬ byt B n (lxF (tx B) n e) = (10 : Int32) from nws 10 (by decide) (by decide)), T1.g 14, g14, o_bind, T1.p, o_bind, Ta.g 14, m_I_SI, if_neg (by omega), g14, o_bind, Ta.1.v133, o_bind, n_byte Ta (by omega), o_call, Ta.p, o_bind]
  rw [st]
  by_cases q : n ≤ lxF (tx B) n e
  · have k0 : lxT (tx B) n e = 0 := by rw [lxT_0]; exact q
    have eE : lxE (tx B) n e = lxF (tx B) n e := by unfold lxE; rw [if_pos q]
    have F3 : Fr Mtk (dtSI (dtSI μ1 133 13 (Int32.ofNat (lxF (tx B) n e))) 133 15 (byt B n (lxF (tx B) n e))) (dtSI (dtSI (dtSI μ1 133 13 (Int32.ofNat (lxF (tx B) n e))) 133 15 (byt B n (lxF (tx B) n e))) 133 12 (Int32.ofNat 0)) := Fr.SI ⟨rfl, by decide, by decide⟩
    refine ⟨_, ?_, (F1x.tr F2).tr F3, T2.tk F3, he, by rw [m_I_SI, if_neg (by omega)]; exact w13, by rw [m_I_SI, if_neg (by omega), eE]; exact w14, by rw [m_I_SI, if_pos ⟨rfl, rfl⟩, k0]; rfl, fun x => by omega, fun x => by omega⟩
    rw [if_pos (show byt B n (lxF (tx B) n e) = (-1 : Int32) by rw [byt_out (by omega)]; rfl), T2.p, o_bind, f_X12_ahead_251]; rfl
  · have hFn : lxF (tx B) n e < n := by omega
    have lt := tx_lt (B := B) (j := lxF (tx B) n e)
    rw [if_neg (show ¬ byt B n (lxF (tx B) n e) = (-1 : Int32) by rw [byt_in hFn, show (-1 : Int32) = -Int32.ofNat 1 from rfl, z_neg (by omega)]; exact id), n_bSmall, decide_eq_true hFn, o_call]
    by_cases a : isLo (tx B (lxF (tx B) n e)) = true
    · have k1 : lxT (tx B) n e = 1 := by unfold lxT; rw [if_neg q, if_pos a]
      have eE : lxE (tx B) n e = rnn isLo (tx B) n (lxF (tx B) n e) := by unfold lxE; rw [if_neg q, if_pos a]
      obtain ⟨μ3, e3, F3, g3, g4⟩ := ah81 (n - lxF (tx B) n e) dtFuel (lxF (tx B) n e) _ (by omega) (dtFuel_gt (by omega)) T2 w14
      have F3x : Fr Mtk _ μ3 := F3.wide (fun k j x => ⟨x.1, by omega, by omega⟩)
      refine ⟨μ3, ?_, (F1x.tr F2).tr F3x, T2.tk F3x, he, by rw [F3.i (by omega)]; exact w13, by rw [eE]; exact g3, by rw [k1]; exact g4, fun x => by omega, fun x => by omega⟩
      rw [a, if_neg (by decide), e3]
    · have a' : isLo (tx B (lxF (tx B) n e)) = false := by
        cases h : isLo (tx B (lxF (tx B) n e))
        · rfl
        · exact absurd h a
      rw [a', if_pos (by decide), n_bDigit, decide_eq_true hFn, o_call]
      by_cases b : isDi (tx B (lxF (tx B) n e)) = true
      · have eE : lxE (tx B) n e = rnn isDi (tx B) n (lxF (tx B) n e) := by unfold lxE; rw [if_neg q, if_neg a, if_pos b]
        have Fz : Fr Mtk (dtSI (dtSI μ1 133 13 (Int32.ofNat (lxF (tx B) n e))) 133 15 (byt B n (lxF (tx B) n e))) (dtSI (dtSI (dtSI μ1 133 13 (Int32.ofNat (lxF (tx B) n e))) 133 15 (byt B n (lxF (tx B) n e))) 133 15 (Int32.ofNat 0)) := Fr.SI ⟨rfl, by decide, by decide⟩
        obtain ⟨μ3, e3, F3, g3, g4, g5⟩ := ah128 (F := lxF (tx B) n e) (n - lxF (tx B) n e) dtFuel (lxF (tx B) n e) 0 _ (by omega) (Nat.le_refl _) (dtFuel_gt (by omega)) (by decide) (T2.tk Fz) (by rw [m_I_SI, if_neg (by omega)]; exact w14) (by rw [m_I_SI, if_neg (by omega)]; exact w13) (by rw [m_I_SI, if_pos ⟨rfl, rfl⟩])
        have F3x : Fr Mtk _ μ3 := F3.wide (fun k j x => ⟨x.1, by omega, by omega⟩)
        have kk : mkT (lxT (tx B) n e) = if rnn isDi (tx B) n (lxF (tx B) n e) - lxF (tx B) n e ≤ 4 then 3 else 1 := by
          unfold lxT
          rw [if_neg q, if_neg a, if_pos b]
          by_cases c : rnn isDi (tx B) n (lxF (tx B) n e) - lxF (tx B) n e ≤ 4
          · rw [if_pos c, if_pos c]; rfl
          · rw [if_neg c, if_neg c]; rfl
        refine ⟨μ3, ?_, ((F1x.tr F2).tr Fz).tr F3x, (T2.tk Fz).tk F3x, he, by rw [F3.i (by omega), m_I_SI, if_neg (by omega)]; exact w13, by rw [eE]; exact g3, by rw [kk]; exact g4, fun x => ?_, fun x => ?_⟩
        · rw [b, if_neg (by decide), T2.p, o_bind]; exact e3
        · have lv := lxV_lt x
          unfold lxV at lv ⊢
          rw [eE] at lv ⊢
          rw [g5, cvL_nv _ _ _ (by omega)]
        · exfalso
          unfold lxT at x
          rw [if_neg q, if_neg a, if_pos b] at x
          by_cases c4 : rnn isDi (tx B) n (lxF (tx B) n e) - lxF (tx B) n e ≤ 4
          · rw [if_pos c4] at x; omega
          · rw [if_neg c4] at x; omega
      · have b' : isDi (tx B (lxF (tx B) n e)) = false := by
          cases h : isDi (tx B (lxF (tx B) n e))
          · rfl
          · exact absurd h b
        have eE : lxE (tx B) n e = lxF (tx B) n e + 1 := by unfold lxE; rw [if_neg q, if_neg a, if_neg b]
        have F4 : Fr Mtk (dtSI (dtSI μ1 133 13 (Int32.ofNat (lxF (tx B) n e))) 133 15 (byt B n (lxF (tx B) n e))) (dtSI (dtSI (dtSI μ1 133 13 (Int32.ofNat (lxF (tx B) n e))) 133 15 (byt B n (lxF (tx B) n e))) 133 14 (Int32.ofNat (lxF (tx B) n e + 1))) := Fr.SI ⟨rfl, by decide, by decide⟩
        have T4 := T2.tk F4
        have fin : ∀ k v, lxT (tx B) n e = k → mkT k = v → (k = 3 ∨ k = 4) → ∃ μ', f_X12_ahead_248 133 (Int32.ofNat v) (dtSI (dtSI (dtSI μ1 133 13 (Int32.ofNat (lxF (tx B) n e))) 133 15 (byt B n (lxF (tx B) n e))) 133 14 (Int32.ofNat (lxF (tx B) n e + 1))) = some μ' ∧ Fr Mtk μ μ' ∧ MTk μ' n B e := fun k v ek ev hk => by
          have F5 : Fr Mtk (dtSI (dtSI (dtSI μ1 133 13 (Int32.ofNat (lxF (tx B) n e))) 133 15 (byt B n (lxF (tx B) n e))) 133 14 (Int32.ofNat (lxF (tx B) n e + 1))) (dtSI (dtSI (dtSI (dtSI μ1 133 13 (Int32.ofNat (lxF (tx B) n e))) 133 15 (byt B n (lxF (tx B) n e))) 133 14 (Int32.ofNat (lxF (tx B) n e + 1))) 133 12 (Int32.ofNat v)) := Fr.SI ⟨rfl, by decide, by decide⟩
          refine ⟨_, ?_, ((F1x.tr F2).tr F4).tr F5, T4.tk F5, he, by rw [m_I_SI, if_neg (by omega), m_I_SI, if_neg (by omega)]; exact w13, by rw [m_I_SI, if_neg (by omega), m_I_SI, if_pos ⟨rfl, rfl⟩, eE], by rw [m_I_SI, if_pos ⟨rfl, rfl⟩, ek, ev], fun x => by omega, fun x => by rw [m_I_SI, if_neg (by omega), m_I_SI, if_neg (by omega), w15, byt_in hFn]⟩
          rw [f_X12_ahead_248, T4.p, o_bind, f_X12_ahead_251]
        have fin3 : isSg (tx B (lxF (tx B) n e)) = true → ∃ μ', f_X12_ahead_243 133 (dtSI (dtSI (dtSI μ1 133 13 (Int32.ofNat (lxF (tx B) n e))) 133 15 (byt B n (lxF (tx B) n e))) 133 14 (Int32.ofNat (lxF (tx B) n e + 1))) = some μ' ∧ Fr Mtk μ μ' ∧ MTk μ' n B e := fun hs => by
          have k3 : lxT (tx B) n e = 3 := by unfold lxT; rw [if_neg q, if_neg a, if_neg b, if_pos hs]
          rw [f_X12_ahead_243]
          exact fin 3 4 k3 rfl (Or.inl rfl)
        have sg : ∀ v, v < 128 → (byt B n (lxF (tx B) n e) = Int32.ofNat v) = (tx B (lxF (tx B) n e) = v) := fun v hv => by rw [byt_in hFn, z_eq (by omega) (by omega)]
        have s59 : (byt B n (lxF (tx B) n e) = (59 : Int32)) = (tx B (lxF (tx B) n e) = 59) := sg 59 (by decide)
        have s60 : (byt B n (lxF (tx B) n e) = (60 : Int32)) = (tx B (lxF (tx B) n e) = 60) := sg 60 (by decide)
        have s62 : (byt B n (lxF (tx B) n e) = (62 : Int32)) = (tx B (lxF (tx B) n e) = 62) := sg 62 (by decide)
        have s61 : (byt B n (lxF (tx B) n e) = (61 : Int32)) = (tx B (lxF (tx B) n e) = 61) := sg 61 (by decide)
        rw [b', if_pos (by decide), T2.g 14, w14, o_bind, show (1 : Int32) = Int32.ofNat 1 from rfl, z_add, T2.p, o_bind]
        by_cases t59 : tx B (lxF (tx B) n e) = 59
        · rw [if_pos (s59 ▸ t59)]
          exact fin3 (by rw [t59]; rfl)
        · rw [if_neg (fun x => t59 (s59 ▸ x))]
          by_cases t60 : tx B (lxF (tx B) n e) = 60
          · rw [if_pos (s60 ▸ t60)]
            exact fin3 (by rw [t60]; rfl)
          · rw [if_neg (fun x => t60 (s60 ▸ x))]
            by_cases t62 : tx B (lxF (tx B) n e) = 62
            · rw [if_pos (s62 ▸ t62)]
              exact fin3 (by rw [t62]; rfl)
            · rw [if_neg (fun x => t62 (s62 ▸ x))]
              by_cases t61 : tx B (lxF (tx B) n e) = 61
              · rw [if_pos (s61 ▸ t61)]
                exact fin3 (by rw [t61]; rfl)
              · rw [if_neg (fun x => t61 (s61 ▸ x))]
                have k4 : lxT (tx B) n e = 4 := by
                  unfold lxT
                  rw [if_neg q, if_neg a, if_neg b, if_neg]
                  unfold isSg
                  rw [decide_eq_false t59, decide_eq_false t60, decide_eq_false t62, decide_eq_false t61]; decide
                exact fin 4 1 k4 rfl (Or.inr rfl)
theorem MTk.adv {n e : Nat} {B : Nat → Int32} {μ : dtM} (H : MTk μ n B e) : ∃ μ', f_X12_ahead 133 μ = some μ' ∧ Fr Mtk μ μ' ∧ MTk μ' n B (lxE (tx B) n e) := n_ahead H.1 (lxE_le H.2.1) H.2.2.2.1
