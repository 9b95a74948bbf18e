/-! PURE 78: the program's tokens -/
/-- what the program's Tokens cell stands over -/
def TXP (μ : dtM) (c n : Nat) (B : Nat → Int32) : Prop := (dtS μ c = (0, 8) ∧ dtR μ c 0 = some 11 ∧ dtS μ 11 = (2, 900) ∧ dtI μ c 8 = Int32.ofNat 0 ∧ dtI μ c 9 = -Int32.ofNat 1) ∧ n ≤ 900 ∧ ¬ c = 11 ∧ (∀ j, j < n → dtI μ 11 j = B j ∧ isB (B j)) ∧ dtI μ c 1 = Int32.ofNat n
abbrev Ptk (c : Nat) : Nat → Nat → Prop := fun k j => k = c ∧ 2 ≤ j ∧ j ≤ 7
theorem TXP.kept {P : Nat → Nat → Prop} {μ μ' : dtM} {c n : Nat} {B : Nat → Int32} (T : TXP μ c n B) (F : Fr P μ μ') (q : (¬ P c 1 ∧ ¬ P c 8 ∧ ¬ P c 9) ∧ ∀ j, ¬ P 11 j) : TXP μ' c n B := by
  obtain ⟨⟨a, b, d, d8, d9⟩, h, hc, t, l⟩ := T
  refine ⟨⟨by rw [F.S]; exact a, by rw [F.Ra]; exact b, by rw [F.S]; exact d, by rw [F.i q.1.2.1]; exact d8, by rw [F.i q.1.2.2]; exact d9⟩, h, hc, fun j hj => ?_, by rw [F.i q.1.1]; exact l⟩
  rw [F.i (q.2 j)]; exact t j hj
theorem TXP.tk {μ μ' : dtM} {c n : Nat} {B : Nat → Int32} (T : TXP μ c n B) (F : Fr (Ptk c) μ μ') : TXP μ' c n B := T.kept F ⟨⟨fun x => by
  have y : c = c ∧ 2 ≤ 1 ∧ 1 ≤ 7 := x
  omega, fun x => by
  have y : c = c ∧ 2 ≤ 8 ∧ 8 ≤ 7 := x
  omega, fun x => by
  have y : c = c ∧ 2 ≤ 9 ∧ 9 ≤ 7 := x
  omega⟩, fun j x => T.2.2.1 x.1.symm⟩
theorem TXP.g1 {μ : dtM} {c n : Nat} {B : Nat → Int32} (T : TXP μ c n B) : opGI 8 1 μ c = some (Int32.ofNat n) := by rw [o_GI T.1.1, T.2.2.2.2]
theorem TXP.r0 {μ : dtM} {c n : Nat} {B : Nat → Int32} (T : TXP μ c n B) : opGR 8 0 μ c = some 11 := o_GR T.1.1 T.1.2.1
theorem TXP.l {μ : dtM} {c n : Nat} {B : Nat → Int32} (T : TXP μ c n B) {j : Nat} (h : j < n) : opLI 2 μ 11 (Int32.ofNat j) = some (B j) := by
  have := T.2.1
  rw [o_LI T.1.2.2.1 (by omega) (by decide), (T.2.2.2.1 j h).1]
theorem TXP.b {μ : dtM} {c n : Nat} {B : Nat → Int32} (T : TXP μ c n B) {j : Nat} (h : j < n) : isB (B j) := (T.2.2.2.1 j h).2
theorem TXP.g {μ : dtM} {c n : Nat} {B : Nat → Int32} (T : TXP μ c n B) (j : Nat) : opGI 8 j μ c = some (dtI μ c j) := o_GI T.1.1
theorem TXP.v {μ : dtM} {c n : Nat} {B : Nat → Int32} (T : TXP μ c n B) : opRv 8 μ c = some () := o_Rv T.1.1
def tx (B : Nat → Int32) (j : Nat) : Nat := bU (B j)
theorem tx_lt {B : Nat → Int32} {j : Nat} : tx B j < 256 := bU_lt _
theorem wsB {v : Int32} (h : isB v) : (isWs (bU v) = true) = (v = (10 : Int32) ∨ v = (32 : Int32)) := by
  have e1 := isB_eq h (c := 10) (by decide)
  have e2 := isB_eq h (c := 32) (by decide)
  have e1' : (v = (10 : Int32)) = (bU v = 10) := e1
  have e2' : (v = (32 : Int32)) = (bU v = 32) := e2
  rw [e1', e2']
  unfold isWs
  rw [Bool.or_eq_true, decide_eq_true_iff, decide_eq_true_iff]
/-- ranges of letters and digits -/
def inRg (lo hi u : Nat) : Bool := decide (lo ≤ u) && decide (u ≤ hi)
theorem rgB {v : Int32} (h : isB v) {lo hi : Nat} (h1 : lo ≤ 127) (h2 : hi ≤ 126) (h0 : 1 ≤ lo) : (inRg lo hi (bU v) = true) = (¬ v < Int32.ofNat lo ∧ ¬ Int32.ofNat hi < v) := by
  have := bU_lt v
  unfold inRg
  rw [Bool.and_eq_true, decide_eq_true_iff, decide_eq_true_iff]
  by_cases q : bU v < 128
  · rw [isB_lt h (by omega) q, isB_gt h (by omega) q]
    exact propext ⟨fun x => ⟨by omega, by omega⟩, fun x => ⟨by omega, by omega⟩⟩
  · have n := isB_hi h q
    have l := neg_lt n (c := lo) (by omega)
    exact propext ⟨fun x => by omega, fun x => absurd l x.1⟩
theorem ad8 {c n : Nat} {B : Nat → Int32} : ∀ (m f i : Nat) (μ : dtM), i + m = n → m < f → TXP μ c n B → dtI μ c 2 = Int32.ofNat i → ∃ μ', f_X8_advance_8 f c μ = f_X8_advance_60 c μ' ∧ Fr (Ptk c) μ μ' ∧ dtI μ' c 2 = Int32.ofNat (rnn isWs (tx B) n i) := by
  intro m
  induction m with
  | zero =>
    intro f i μ e hf T h2
    have n9 := T.2.1
    cases f with
    | zero => omega
    | succ f =>
      refine ⟨μ, ?_, Fr.rf, by rw [rnn_out (by omega)]; exact h2⟩
      rw [f_X8_advance_8, T.g 2, h2, o_bind, T.g1, o_bind, if_pos (show Int32.ofNat n ≤ Int32.ofNat i by rw [z_le (by omega) (by omega)]; omega)]
  | succ m ih =>
    intro f i μ e hf T h2
    have n9 := T.2.1
    have hi : i < n := by omega
    cases f with
    | zero => omega
    | succ f =>
      have st : f_X8_advance_8 (f + 1) c μ = if B i = (10 : Int32) then (f_X8_advance_47 (f_X8_advance_8 f) c μ) else if B i = (32 : Int32) then (f_X8_advance_47 (f_X8_advance_8 f) c μ) else (f_X8_advance_60 c μ) := by
        rw [f_X8_advance_8, T.g 2, h2, o_bind, T.g1, o_bind, if_neg (show ¬ Int32.ofNat n ≤ Int32.ofNat i by rw [z_le (by omega) (by omega)]; omega), T.r0, o_bind, o_bind, T.l hi, o_bind, o_bind, o_bind, T.l hi, o_bind]
      have w := wsB (T.b hi)
      by_cases q : isWs (tx B i) = true
      · have F1 : Fr (Ptk c) μ (dtSI μ c 2 (Int32.ofNat (i + 1))) := Fr.SI ⟨rfl, by decide, by decide⟩
        obtain ⟨μ2, e2, F2, g2⟩ := ih f (i + 1) _ (by omega) (by omega) (T.tk F1) (by rw [m_I_SI, if_pos ⟨rfl, rfl⟩])
        refine ⟨μ2, ?_, F1.tr F2, by rw [rnn_in hi q]; exact g2⟩
        have e47 : f_X8_advance_47 (f_X8_advance_8 f) c μ = f_X8_advance_60 c μ2 := by
          rw [f_X8_advance_47, T.g 2, h2, o_bind, show (1 : Int32) = Int32.ofNat 1 from rfl, z_add, o_PI T.1.1, o_bind, e2]
        have w' : B i = (10 : Int32) ∨ B i = (32 : Int32) := w ▸ q
        rw [st]
        by_cases a : B i = (10 : Int32)
        · rw [if_pos a, e47]
        · rw [if_neg a, if_pos (w'.resolve_left a), e47]
      · have w' : ¬ (B i = (10 : Int32) ∨ B i = (32 : Int32)) := fun x => q (by
          have y : isWs (bU (B i)) = true := w ▸ x
          exact y)
        refine ⟨μ, ?_, Fr.rf, by rw [rnn_out (fun x => q x.2)]; exact h2⟩
        rw [st, if_neg (fun x => w' (Or.inl x)), if_neg (fun x => w' (Or.inr x))]
theorem ir0 {c n lo hi : Nat} {B : Nat → Int32} (h1 : lo ≤ 127) (h2 : hi ≤ 126) (h0 : 1 ≤ lo) : ∀ (m f i : Nat) (μ : dtM), i + m = n → m < f → TXP μ c n B → dtI μ c 3 = Int32.ofNat i → ∃ μ', f_X8_isRunOf_0 f c (Int32.ofNat lo) (Int32.ofNat hi) μ = f_X8_isRunOf_50 c μ' ∧ Fr (fun k j => k = c ∧ j = 3) μ μ' ∧ dtI μ' c 3 = Int32.ofNat (rnn (inRg lo hi) (tx B) n i) := by
  intro m
  induction m with
  | zero =>
    intro f i μ e hf T h3
    have n9 := T.2.1
    cases f with
    | zero => omega
    | succ f =>
      refine ⟨μ, ?_, Fr.rf, by rw [rnn_out (by omega)]; exact h3⟩
      rw [f_X8_isRunOf_0, T.g 3, h3, o_bind, T.g1, o_bind, if_pos (show Int32.ofNat n ≤ Int32.ofNat i by rw [z_le (by omega) (by omega)]; omega)]
  | succ m ih =>
    intro f i μ e hf T h3
    have n9 := T.2.1
    have hi' : i < n := by omega
    cases f with
    | zero => omega
    | succ f =>
      have F1 : Fr (fun k j => k = c ∧ j = 3) μ (dtSI μ c 3 (Int32.ofNat (i + 1))) := Fr.SI ⟨rfl, rfl⟩
      have st : f_X8_isRunOf_0 (f + 1) c (Int32.ofNat lo) (Int32.ofNat hi) μ = if B i < Int32.ofNat lo then (f_X8_isRunOf_50 c μ) else if Int32.ofNat hi < B i then (f_X8_isRunOf_50 c μ) else (f_X8_isRunOf_0 f c (Int32.ofNat lo) (Int32.ofNat hi) (dtSI μ c 3 (Int32.ofNat (i + 1)))) := by
        rw [f_X8_isRunOf_0, T.g 3, h3, o_bind, T.g1, o_bind, if_neg (show ¬ Int32.ofNat n ≤ Int32.ofNat i by rw [z_le (by omega) (by omega)]; omega), T.r0, o_bind, o_bind, T.l hi', o_bind, o_bind, o_bind, T.l hi', o_bind, o_bind, show (1 : Int32) = Int32.ofNat 1 from rfl, z_add, o_PI T.1.1, o_bind]
      have w := rgB (T.b hi') h1 h2 h0
      rw [st]
      by_cases q : inRg lo hi (tx B i) = true
      · have w' : ¬ B i < Int32.ofNat lo ∧ ¬ Int32.ofNat hi < B i := w ▸ q
        obtain ⟨μ2, e2, F2, g2⟩ := ih f (i + 1) _ (by omega) (by omega) (T.kept F1 ⟨by omega, fun j x => T.2.2.1 x.1.symm⟩) (by rw [m_I_SI, if_pos ⟨rfl, rfl⟩])
        refine ⟨μ2, ?_, F1.tr F2, by rw [rnn_in hi' q]; exact g2⟩
        rw [if_neg w'.1, if_neg w'.2, e2]
      · refine ⟨μ, ?_, Fr.rf, by rw [rnn_out (fun x => q x.2)]; exact h3⟩
        by_cases a : B i < Int32.ofNat lo
        · rw [if_pos a]
        · rw [if_neg a]
          by_cases b : Int32.ofNat hi < B i
          · rw [if_pos b]
          · exact absurd (by
              have y : inRg lo hi (bU (B i)) = true := w ▸ ⟨a, b⟩
              exact y) q
theorem p_run1 {c n lo hi i : Nat} {B : Nat → Int32} {μ : dtM} (h1 : lo ≤ 127) (h2 : hi ≤ 126) (h0 : 1 ≤ lo) (T : TXP μ c n B) (hi' : i ≤ n) (e2 : dtI μ c 2 = Int32.ofNat i) (e3 : dtI μ c 3 = Int32.ofNat i) : ∃ μ', f_X8_isRunOf c (Int32.ofNat lo) (Int32.ofNat hi) μ = some (bI (decide (i < rnn (inRg lo hi) (tx B) n i)), μ') ∧ Fr (fun k j => k = c ∧ j = 3) μ μ' ∧ dtI μ' c 3 = Int32.ofNat (rnn (inRg lo hi) (tx B) n i) := by
  have n9 := T.2.1
  obtain ⟨μ1, e1, F1, g1⟩ := ir0 h1 h2 h0 (n - i) dtFuel i μ (by omega) (dtFuel_gt (by omega)) T e3
  have T1 := T.kept F1 ⟨by omega, fun j x => T.2.2.1 x.1.symm⟩
  have le := rnn_le (P := inRg lo hi) (tx := tx B) hi'
  have g2 : dtI μ1 c 2 = Int32.ofNat i := by rw [F1.i (by omega)]; exact e2
  refine ⟨μ1, ?_, F1, g1⟩
  rw [f_X8_isRunOf, e1, f_X8_isRunOf_50, T1.g 3, g1, o_bind, T1.g 2, g2, o_bind]
  by_cases q : i < rnn (inRg lo hi) (tx B) n i
  · rw [if_neg (show ¬ Int32.ofNat (rnn (inRg lo hi) (tx B) n i) ≤ Int32.ofNat i by rw [z_le (by omega) (by omega)]; omega), f_X8_isRunOf_66, show (1 : Int32) = Int32.ofNat 1 from rfl, o_ret1', decide_eq_true q]
  · rw [if_pos (show Int32.ofNat (rnn (inRg lo hi) (tx B) n i) ≤ Int32.ofNat i by rw [z_le (by omega) (by omega)]; omega), f_X8_isRunOf_66, show (0 : Int32) = Int32.ofNat 0 from rfl, o_ret0', decide_eq_false q]
/-! numbers and names -/
theorem nv7 {c n : Nat} {B : Nat → Int32} {μ : dtM} (T : TXP μ c n B) {E : Nat} (hE : E ≤ n) (e3 : dtI μ c 3 = Int32.ofNat E) : ∀ (m f i v : Nat), i + m = E → m < f → (∀ j, i ≤ j → j < E → isDi (tx B j) = true) → f_X8_numberValue_7 f c (Int32.ofNat v) (Int32.ofNat i) μ = some (Int32.ofNat (nvL (tx B) m i v), μ) := by
  have n9 := T.2.1
  intro m
  induction m with
  | zero =>
    intro f i v e hf d
    cases f with
    | zero => omega
    | succ f =>
      rw [f_X8_numberValue_7, T.g 3, e3, o_bind, if_pos (show Int32.ofNat E ≤ Int32.ofNat i by rw [z_le (by omega) (by omega)]; omega), nvL]
  | succ m ih =>
    intro f i v e hf d
    cases f with
    | zero => omega
    | succ f =>
      have dd' := isDi_t (d i (Nat.le_refl _) (by omega))
      have hb := isB_lo (T.b (show i < n by omega)) (show bU (B i) < 128 by have : tx B i = bU (B i) := rfl; omega)
      have hb' : B i = Int32.ofNat (tx B i) := hb
      rw [f_X8_numberValue_7, T.g 3, e3, o_bind, if_neg (show ¬ Int32.ofNat E ≤ Int32.ofNat i by rw [z_le (by omega) (by omega)]; omega), T.r0, o_bind, T.l (show i < n by omega), o_bind, hb', show (10 : Int32) = Int32.ofNat 10 from rfl, show (48 : Int32) = Int32.ofNat 48 from rfl, z_mul, z_sub (by omega), z_add, o_bind, show (1 : Int32) = Int32.ofNat 1 from rfl, z_add, nvL]
      exact ih f (i + 1) _ (by omega) (by omega) (fun j a b => d j (by omega) b)
theorem nc23 {c n : Nat} {B : Nat → Int32} {μ : dtM} (T : TXP μ c n B) {E : Nat} (hE : E ≤ n) (e3 : dtI μ c 3 = Int32.ofNat E) : ∀ (m f i : Nat) (v : Int64), i + m = E → m < f → (∀ j, i ≤ j → j < E → isLo (tx B j) = true) → f_X8_nameCode_23 f c v (Int32.ofNat i) μ = some ((wdL (tx B) m i).foldl (fun v c => v * 32 + Int64.ofNat c) v, μ) := by
  have n9 := T.2.1
  intro m
  induction m with
  | zero =>
    intro f i v e hf d
    cases f with
    | zero => omega
    | succ f =>
      rw [f_X8_nameCode_23, T.g 3, e3, o_bind, if_pos (show Int32.ofNat E ≤ Int32.ofNat i by rw [z_le (by omega) (by omega)]; omega), wdL, List.foldl_nil]
  | succ m ih =>
    intro f i v e hf d
    cases f with
    | zero => omega
    | succ f =>
      have dd' := isLo_t (d i (Nat.le_refl _) (by omega))
      have hb := isB_lo (T.b (show i < n by omega)) (show bU (B i) < 128 by have : tx B i = bU (B i) := rfl; omega)
      have hb' : B i = Int32.ofNat (tx B i) := hb
      rw [f_X8_nameCode_23, T.g 3, e3, o_bind, if_neg (show ¬ Int32.ofNat E ≤ Int32.ofNat i by rw [z_le (by omega) (by omega)]; omega), T.r0, o_bind, T.l (show i < n by omega), o_bind, hb', show (97 : Int32) = Int32.ofNat 97 from rfl, z_sub (by omega), show (1 : Int32) = Int32.ofNat 1 from rfl, z_add, z_add, j_of (by omega), o_bind, wdL, List.foldl_cons, show tx B i - 97 + 1 = tx B i - 96 by omega]
      exact ih f (i + 1) _ (by omega) (by omega) (fun j a b => d j (by omega) b)
