/-! PURE 59: gale -/
def ScPF (w : aW) (k j : Nat) : Prop := ScP w k j ∨ (k = 0 ∧ (j = 1 ∨ j = 2))
def ScMF (k j : Nat) : Prop := ScM k j ∨ (k = 133 ∧ (j = 3 ∨ j = 4))
theorem RP.fra {w : aW} {f f' : aF} {A : aH} {z : aZ} {μ μ' : dtM} (H : RP μ w f A z) (F : Fr (ScPF w) μ μ') (X : PX μ' f') : RP μ' w f' A z := by
  obtain ⟨C, R, _, hh, T, B, D, K, V, L⟩ := H
  obtain ⟨w1, w2⟩ := R.1
  refine ⟨C.kept F, R.kept F, X, hh.kept F ?_, T.kept F ?_, B.kept F ?_, D.kept F ?_, K.kept F ?_ ?_, V.kept F ?_, L.kept F ?_⟩
  all_goals (intros; unfold ScPF ScP; omega)
theorem RM.fra {f f' : aF} {A : aH} {z : aZ} {μ μ' : dtM} (H : RM μ f A z) (W : dWF A (zD z)) (F : Fr ScMF μ μ') (X : MX μ' f') : RM μ' f' A z := by
  obtain ⟨C, _, hh, T, B, D, K, V, L⟩ := H
  refine ⟨C.kept F, X, hh.keptAt F ?_ ?_, T.kept F ?_, B.kept F ?_ ⟨?_, ?_, ?_⟩, D.kept W F ?_, K.kept F ?_ ?_ ?_, V.kept F ?_ ?_, L.kept F ?_⟩
  all_goals (intros; unfold ScMF ScM; omega)
theorem both.fra {α : Type} {a b : dtM → Option (α × dtM)} {μ : dtM} {w : aW} {f f' : aF} {A : aH} {z : aZ} (HP : RP μ w f A z) (HM : RM μ f A z) (W : dWF A (zD z)) {v : α}
    (hP : ∃ μ1, a μ = some (v, μ1) ∧ Fr (ScPF w) μ μ1 ∧ PX μ1 f') (hM : ∀ μ1, RM μ1 f A z → ∃ μ2, b μ1 = some (v, μ2) ∧ Fr ScMF μ1 μ2 ∧ MX μ2 f') : both a b μ := by
  obtain ⟨μ1, e1, F1, X1⟩ := hP
  obtain ⟨w1, w2⟩ := HP.2.1.1
  refine both.mk HP HM W ⟨_, e1, F1.wide (fun k j x => ?_), HP.fra F1 X1⟩ (fun μ1 R1 => ?_) W
  · unfold ScPF ScP at x; unfold LPq; omega
  · obtain ⟨μ2, e2, F2, X2⟩ := hM μ1 R1
    refine ⟨_, e2, F2.wide (fun k j x => ?_), R1.fra W F2 X2⟩
    unfold ScMF ScM at x; unfold LMq; omega
def pas : Nat → Nat → Nat
  | _, 0 => 1
  | 0, _ + 1 => 0
  | n + 1, k + 1 => pas n k + pas n (k + 1)
def cP (n : Nat) : Nat → Nat
  | 0 => 1
  | i + 1 => cP n i * (n - i) / (i + 1)
theorem pas_le : ∀ n, n < 13 → ∀ i, i < 13 → pas n i ≤ 924 := by decide +kernel
theorem cP_le : ∀ n, n < 13 → ∀ i, i < 14 → cP n i ≤ 924 := by decide +kernel
theorem cP_pas : ∀ n, n < 13 → ∀ i, i < 13 → i ≤ n → cP n i = pas n i := by decide +kernel
theorem pas_0 : ∀ n i, n < i → pas n i = 0
  | _, 0, h => absurd h (by omega)
  | 0, _ + 1, _ => rfl
  | n + 1, i + 1, h => by rw [pas, pas_0 n i (by omega), pas_0 n (i + 1) (by omega)]
def gT (q n i : Nat) : Nat := pas n i * q ^ i * (16 - q) ^ (n - i)
theorem gT_0 {q n i : Nat} (h : n < i) : gT q n i = 0 := by rw [gT, pas_0 n i h, Nat.zero_mul, Nat.zero_mul]
theorem gT_le {q n i : Nat} (hq : q ≤ 16) (hn : n < 13) (hi : i < 13) : gT q n i ≤ 260084150943449088 := by
  by_cases h : i ≤ n
  · have a := Nat.mul_le_mul (Nat.mul_le_mul (pas_le n hn i hi) (Nat.pow_le_pow_left hq i)) (Nat.pow_le_pow_left (show 16 - q ≤ 16 by omega) (n - i))
    have b : 924 * 16 ^ i * 16 ^ (n - i) = 924 * 16 ^ n := by rw [Nat.mul_assoc, ← Nat.pow_add, show i + (n - i) = n by omega]
    have c : 16 ^ n ≤ 16 ^ 12 := Nat.pow_le_pow_right (by decide) (by omega)
    rw [b] at a
    have d : (16 : Nat) ^ 12 = 281474976710656 := by decide
    rw [d] at c
    unfold gT
    omega
  · rw [gT_0 (by omega)]; exact Nat.zero_le _
theorem gT_next {q n i : Nat} : gT q (n + 1) (i + 1) = gT q n (i + 1) * (16 - q) + gT q n i * q := by
  unfold gT
  by_cases h : i + 1 ≤ n
  · rw [pas, show n + 1 - (i + 1) = n - (i + 1) + 1 by omega, show n - i = n - (i + 1) + 1 by omega, Nat.pow_succ, Nat.pow_succ, Nat.add_mul, Nat.add_mul, Nat.add_comm]
    congr 1
    · simp only [Nat.mul_assoc]
    · simp only [Nat.mul_assoc, Nat.mul_comm, Nat.mul_left_comm]
  · rw [pas, pas_0 n (i + 1) (by omega), show n + 1 - (i + 1) = n - i by omega, Nat.pow_succ, Nat.add_zero, Nat.zero_mul, Nat.zero_mul, Nat.zero_mul, Nat.zero_add]
    simp only [Nat.mul_assoc, Nat.mul_comm, Nat.mul_left_comm]
theorem gT_next0 {q n : Nat} : gT q (n + 1) 0 = gT q n 0 * (16 - q) := by
  unfold gT
  have e : ∀ m, pas m 0 = 1 := fun m => by cases m <;> rfl
  rw [e, e, Nat.sub_zero, Nat.sub_zero, Nat.pow_succ]
  simp only [Nat.pow_zero, Nat.one_mul]
def glB (q n k i s : Nat) : Nat := if i < k then s else s + gT q n i
def glN (q n i s : Nat) : Nat := s + gT q n i
theorem glB_lo {q n k : Nat} : ∀ (m i s : Nat), i + m ≤ k → fo (glB q n k) m i s = s
  | 0, _, _, _ => rfl
  | m + 1, i, s, h => by rw [fo, glB, if_pos (by omega)]; exact glB_lo m (i + 1) s (by omega)
theorem glB_hi {q n k : Nat} : ∀ (m i s : Nat), k ≤ i → fo (glB q n k) m i s = fo (glN q n) m i s
  | 0, _, _, _ => rfl
  | m + 1, i, s, h => by rw [fo, fo, glB, if_neg (by omega)]; exact glB_hi m (i + 1) _ (by omega)
theorem glN_0 {q n : Nat} : ∀ (m i s : Nat), n < i → fo (glN q n) m i s = s
  | 0, _, _, _ => rfl
  | m + 1, i, s, h => by rw [fo, glN, gT_0 h]; exact glN_0 m (i + 1) s (by omega)
theorem glN_le {q n : Nat} (hq : q ≤ 16) (hn : n < 13) : ∀ (m i s : Nat), i + m ≤ 13 → fo (glN q n) m i s ≤ s + m * 260084150943449088
  | 0, _, _, _ => by rw [fo]; omega
  | m + 1, i, s, h => by
    have a := gT_le hq hn (show i < 13 by omega)
    have b := glN_le hq hn m (i + 1) (glN q n i s) (by omega)
    have c : glN q n i s = s + gT q n i := rfl
    rw [fo]; omega
theorem gl_same {q n k : Nat} (hn : n < 13) (hk : k < 13) : fo (glB q n k) (n + 1) 0 0 = fo (glN q n) (13 - k) k 0 := by
  by_cases h : k ≤ n + 1
  · have e1 : n + 1 = k + (n + 1 - k) := by omega
    have e2 : 13 - k = (n + 1 - k) + (12 - n) := by omega
    have e3 := fo_add (f := glN q n) (n + 1 - k) (12 - n) k 0
    rw [← e2] at e3
    rw [e3, glN_0 (12 - n) _ _ (by omega)]
    have := fo_add (f := glB q n k) k (n + 1 - k) 0 0
    rw [← e1, glB_lo k 0 0 (by omega), Nat.zero_add, glB_hi _ k 0 (Nat.le_refl _)] at this
    exact this
  · rw [glB_lo _ _ _ (by omega), glN_0 _ _ _ (by omega)]
theorem pw5 {μ : dtM} {b e : Nat} (hb : b < 2147483648) (he : e < 1000) : ∀ (m f i v : Nat), i + m = e → m < f → f_X11_power_5 f (Int32.ofNat b) (Int32.ofNat e) (Int64.ofNat v) (Int32.ofNat i) μ = some (Int64.ofNat (v * b ^ m), μ) := by
  intro m
  induction m with
  | zero =>
    intro f i v e' hf
    cases f with
    | zero => omega
    | succ f =>
      simp (disch := omega) only [f_X11_power_5, z_le]
      rw [if_pos (by omega), Nat.pow_zero, Nat.mul_one]
  | succ m ih =>
    intro f i v e' hf
    cases f with
    | zero => omega
    | succ f =>
      have hx := ih f (i + 1) (v * b) (by omega) (by omega)
      simp (disch := omega) only [f_X11_power_5, z_le, o_bind, j_of, j_mul, z_lit, z_add]
      rw [if_neg (by omega), hx, Nat.pow_succ, Nat.mul_assoc, Nat.mul_comm b]
theorem f_pow {μ : dtM} {b e : Nat} (hb : b < 2147483648) (he : e < 1000) : f_X11_power (Int32.ofNat b) (Int32.ofNat e) μ = some (Int64.ofNat (b ^ e), μ) := by
  have h := pw5 (μ := μ) hb he e dtFuel 0 1 (by omega) (dtFuel_gt (by omega))
  rw [Nat.one_mul] at h
  rw [f_X11_power]
  exact h
theorem p16 {n : Nat} (hn : n < 13) : 0 < 16 ^ n ∧ 16 ^ n < 9223372036854775808 := by
  have c : 16 ^ n ≤ 16 ^ 12 := Nat.pow_le_pow_right (by decide) (by omega)
  have d : (16 : Nat) ^ 12 = 281474976710656 := by decide
  have e : 0 < 16 ^ n := Nat.pow_pos (by decide)
  rw [d] at c
  omega
theorem ga34 {μ : dtM} {w : aW} {fr : aF} {A : aH} {z : aZ} (HP : RP μ w fr A z) {n k : Nat} (hn : n < 13) (hk : k < 13) : ∀ (m f i s : Nat), i + m = n + 1 → m < f → fo (glB (hs A 4) n k) m i s < 9223372036854775808 → f_X11_gale_34 f 0 (Int32.ofNat n) (Int32.ofNat k) (Int64.ofNat s) (Int64.ofNat (cP n i)) (Int32.ofNat i) μ = some (bI true, dtSI (tF μ (fo (glB (hs A 4) n k) m i s) (16 ^ n) (Nat.gcd (16 ^ n) (fo (glB (hs A 4) n k) m i s))) 0 0 (Int32.ofNat 0)) := by
  have C := HP.c
  have HH := HP.ph
  have g5 := HP.g5
  have hod := HH.od
  intro m
  induction m with
  | zero =>
    intro f i s e hf hS
    cases f with
    | zero => omega
    | succ f =>
      have ft := f_tell C.s0 hS (p16 hn)
      have C2 : CX (tF μ (fo (glB (hs A 4) n k) 0 i s) (16 ^ n) (Nat.gcd (16 ^ n) (fo (glB (hs A 4) n k) 0 i s))) := C.SJ.SJ
      rw [fo] at ft C2 ⊢
      simp (disch := omega) only [f_X11_gale_34, z_lit, z_lt, f_pow, C.v0, ft, C2.v0, p_agree C2, o_bind, o_call, o_bI]
      rw [if_pos (by omega)]
  | succ m ih =>
    intro f i s e hf hS
    cases f with
    | zero => omega
    | succ f =>
      have c1 := cP_le n hn i (by omega)
      have c2 := cP_pas n hn i (by omega) (by omega)
      have c3 : cP n i * (n - i) ≤ 924 * 12 := Nat.mul_le_mul c1 (by omega)
      have dv := j_div (a := cP n i * (n - i)) (b := i + 1) (by omega) ⟨by omega, by omega⟩
      have hx := ih f (i + 1) (glB (hs A 4) n k i s) (by omega) (by omega) (by rw [fo] at hS; exact hS)
      rw [fo]
      rw [← hx]
      have pa := f_pow (μ := μ) (b := hs A 4) (e := i) (by omega) (by omega)
      have pb := f_pow (μ := μ) (b := 16 - hs A 4) (e := n - i) (by omega) (by omega)
      simp (disch := omega) only [f_X11_gale_34, f_X11_gale_82, g5, HH.g4, z_lit, z_lt, z_sub, z_add, pa, pb, j_of, j_mul, j_add, dv, o_bind, o_call]
      rw [if_neg (by omega)]
      by_cases q : i < k
      · rw [if_pos q, glB, if_pos q]; rfl
      · rw [if_neg q, glB, if_neg q, c2]
        unfold gT
        rw [← c2]; rfl
abbrev P150 : Nat → Nat → Prop := fun k _ => k = 150
def AJ (μ : dtM) (g : Nat → Nat) : Prop := ∀ j, j < 13 → dtJ μ 150 j = Int64.ofNat (g j)
theorem AJ.l {μ : dtM} {g : Nat → Nat} (H : AJ μ g) (C : CX μ) {j : Nat} (hj : j < 13) : opLJ 3 μ 150 (Int32.ofNat j) = some (Int64.ofNat (g j)) := by rw [o_LJ C.s150 hj (by decide), H j hj]
theorem gm35 {n k : Int32} {q : Nat} : ∀ (m f i : Nat) (μ : dtM), i + m = 13 → m < f → CX μ → (∀ j, j < i → dtJ μ 150 j = Int64.ofNat (gT q 0 j)) → ∃ μ', f_X12_gale_35 f 133 n k (1 : Int64) (Int32.ofNat i) μ = f_X12_gale_68 dtFuel 133 n k (1 : Int64) (0 : Int32) μ' ∧ Fr P150 μ μ' ∧ AJ μ' (gT q 0) := by
  intro m
  induction m with
  | zero =>
    intro f i μ e hf C H
    cases f with
    | zero => omega
    | succ f =>
      refine ⟨μ, ?_, Fr.rf, fun j hj => H j (by omega)⟩
      rw [f_X12_gale_35, if_pos (show (13 : Int32) ≤ Int32.ofNat i by rw [show (13 : Int32) = Int32.ofNat 13 from rfl, z_le (by decide) (by omega)]; omega)]
  | succ m ih =>
    intro f i μ e hf C H
    cases f with
    | zero => omega
    | succ f =>
      have F1 : Fr P150 μ (dtSJ μ 150 i (Int64.ofNat (gT q 0 i))) := Fr.SJ rfl
      obtain ⟨μ2, e2, F2, g2⟩ := ih f (i + 1) _ (by omega) (by omega) (C.kept F1) (fun j hj => by
        rw [m_J_SJ]
        by_cases x : j = i
        · rw [if_pos ⟨rfl, x⟩, x]
        · rw [if_neg (fun y => x y.2)]; exact H j (by omega))
      refine ⟨μ2, ?_, F1.tr F2, g2⟩
      rw [← e2, f_X12_gale_35, if_neg (show ¬ (13 : Int32) ≤ Int32.ofNat i by rw [show (13 : Int32) = Int32.ofNat 13 from rfl, z_le (by decide) (by omega)]; omega), C.g133_33, o_bind]
      have st : ∀ v : Int64, v = Int64.ofNat (gT q 0 i) → f_X12_gale_58 (f_X12_gale_35 f) 133 n k (1 : Int64) (Int32.ofNat i) 150 (Int32.ofNat i) v μ = f_X12_gale_35 f 133 n k (1 : Int64) (Int32.ofNat (i + 1)) (dtSJ μ 150 i (Int64.ofNat (gT q 0 i))) := fun v hv => by
        rw [f_X12_gale_58, hv, o_SJ C.s150 (show i < 13 by omega) (by decide), o_bind, show (1 : Int32) = Int32.ofNat 1 from rfl, z_add]
      by_cases x : i = 0
      · rw [if_pos (show Int32.ofNat i = 0 by rw [x]; rfl), st _ (by rw [x]; unfold gT; rw [show pas 0 0 = 1 from rfl, Nat.pow_zero, Nat.pow_zero]; rfl)]
      · rw [if_neg (show ¬ Int32.ofNat i = 0 by rw [show (0 : Int32) = Int32.ofNat 0 from rfl, z_eq (by omega) (by omega)]; exact x), st _ (by rw [gT_0 (by omega)]; rfl)]
def gR (q : Nat) (g : Nat → Nat) (j : Nat) : Nat := if j = 0 then g 0 * (16 - q) else g j * (16 - q) + g (j - 1) * q
theorem gm78 {n k l5 : Int32} {d : Int64} {q : Nat} {g : Nat → Nat} {A : aH} (hA : hs A 4 = q) (hq : q ≤ 16) (K : Nat → Int32 → Int32 → Int64 → Int32 → dtM → Option (Int32 × dtM)) : ∀ (m f : Nat) (μ : dtM), m ≤ 13 → m < f → CX μ → MH μ 0 0 A → (∀ j, j < 13 → dtJ μ 150 j = Int64.ofNat (if j < m then g j else gR q g j)) → ∃ μ', f_X12_gale_78 K f 133 n k d l5 (Int32.ofNat m - Int32.ofNat 1) μ = K 133 n k (d * 16) (l5 + 1) μ' ∧ Fr P150 μ μ' ∧ AJ μ' (gR q g) := by
  intro m
  induction m with
  | zero =>
    intro f μ e hf C M1 H
    cases f with
    | zero => omega
    | succ f =>
      refine ⟨μ, ?_, Fr.rf, fun j hj => by rw [H j hj, if_neg (by omega)]⟩
      rw [f_X12_gale_78, if_pos (by decide), o_bind]
  | succ m ih =>
    intro f μ e hf C M1 H
    cases f with
    | zero => omega
    | succ f =>
      have F1 : Fr P150 μ (dtSJ μ 150 m (Int64.ofNat (gR q g m))) := Fr.SJ rfl
      have g4 : opLI 1 μ 134 (4 : Int32) = some (Int32.ofNat q) := by rw [← hA]; exact M1.g4
      obtain ⟨μ2, e2, F2, g2⟩ := ih f _ (by omega) (by omega) (C.kept F1) (M1.keptAt F1 (fun _ _ _ _ => by show ¬ _ = _; omega) (fun _ _ _ => by show ¬ _ = _; omega)) (fun j hj => by
        rw [m_J_SJ]
        by_cases x : j = m
        · rw [if_pos ⟨rfl, x⟩, x, if_neg (by omega)]
        · rw [if_neg (fun y => x y.2), H j hj]
          by_cases y : j < m
          · rw [if_pos y, if_pos (by omega)]
          · rw [if_neg y, if_neg (by omega)])
      refine ⟨μ2, ?_, F1.tr F2, g2⟩
      have hm : Int32.ofNat (m + 1) - Int32.ofNat 1 = Int32.ofNat m := by rw [z_sub (by omega), Nat.add_sub_cancel]
      have hp : Int32.ofNat m + (-1) = Int32.ofNat m - Int32.ofNat 1 := (Int32.sub_eq_add_neg _ _).symm
      have n0 : ¬ Int32.ofNat m < 0 := by rw [show (0 : Int32) = Int32.ofNat 0 from rfl, z_lt0 (by omega)]; exact id
      have lm : opLJ 3 μ 150 (Int32.ofNat m) = some (Int64.ofNat (g m)) := by rw [o_LJ C.s150 (show m < 13 by omega) (by decide), H m (by omega), if_pos (by omega)]
      have st : ∀ v : Int64, v = Int64.ofNat (gR q g m) → opSJ μ 150 (Int32.ofNat m) v = some (dtSJ μ 150 m (Int64.ofNat (gR q g m))) := fun v hv => by rw [hv]; exact o_SJ C.s150 (show m < 13 by omega) (by decide)
      have e16 : (((16 : Int32) - Int32.ofNat q).toInt64) = Int64.ofNat (16 - q) := by rw [show (16 : Int32) = Int32.ofNat 16 from rfl, z_sub hq, j_of (by omega)]
      rw [← e2, hm, f_X12_gale_78, if_neg n0, C.g133_33, o_bind, o_bind, lm, o_bind, C.g133_0, o_bind, g4, o_bind]
      by_cases x : m = 0
      · rw [if_pos (show Int32.ofNat m = 0 by rw [x]; rfl), f_X12_gale_133, st _ (by rw [e16, j_mul, show (0 : Int64) = Int64.ofNat 0 from rfl, j_add, x]; rfl), o_bind, hp]
      · have lm1 : opLJ 3 μ 150 (Int32.ofNat m - 1) = some (Int64.ofNat (g (m - 1))) := by rw [show (1 : Int32) = Int32.ofNat 1 from rfl, z_sub (by omega), o_LJ C.s150 (show m - 1 < 13 by omega) (by decide), H (m - 1) (by omega), if_pos (by omega)]
        rw [if_neg (show ¬ Int32.ofNat m = 0 by rw [show (0 : Int32) = Int32.ofNat 0 from rfl, z_eq (by omega) (by omega)]; exact x), o_bind, lm1, o_bind, o_bind, g4, o_bind, f_X12_gale_133, st _ (by rw [e16, j_mul, j_of (by omega), j_mul, j_add, gR, if_neg x]), o_bind, hp]
theorem gR_T {q n : Nat} : gR q (gT q n) = gT q (n + 1) := by
  funext j
  cases j with
  | zero => rw [gT_next0]; rfl
  | succ j => rw [gT_next]; rfl
theorem gm68 {k : Int32} {n q : Nat} {A : aH} (hA : hs A 4 = q) (hq : q ≤ 16) (hn : n < 13) : ∀ (m f i : Nat) (μ : dtM), i + m = n → m < f → CX μ → MH μ 0 0 A → AJ μ (gT q i) → ∃ μ', f_X12_gale_68 f 133 (Int32.ofNat n) k (Int64.ofNat (16 ^ i)) (Int32.ofNat i) μ = f_X12_gale_159 dtFuel 133 (Int64.ofNat (16 ^ n)) (0 : Int64) k μ' ∧ Fr P150 μ μ' ∧ AJ μ' (gT q n) := by
  intro m
  induction m with
  | zero =>
    intro f i μ e hf C M1 H
    cases f with
    | zero => omega
    | succ f =>
      have : i = n := by omega
      subst this
      refine ⟨μ, ?_, Fr.rf, H⟩
      rw [f_X12_gale_68, if_pos (show Int32.ofNat i ≤ Int32.ofNat i by rw [z_le (by omega) (by omega)]; omega)]
  | succ m ih =>
    intro f i μ e hf C M1 H
    cases f with
    | zero => omega
    | succ f =>
      obtain ⟨μ1, e1, F1, g1⟩ := gm78 (n := Int32.ofNat n) (k := k) (l5 := Int32.ofNat i) (d := Int64.ofNat (16 ^ i)) hA hq (f_X12_gale_68 f) 13 dtFuel μ (by omega) (dtFuel_gt (by decide)) C M1 (fun j hj => by rw [if_pos hj]; exact H j hj)
      rw [gR_T] at g1
      obtain ⟨μ2, e2, F2, g2⟩ := ih f (i + 1) μ1 (by omega) (by omega) (C.kept F1) (M1.keptAt F1 (fun _ _ _ _ => by show ¬ _ = _; omega) (fun _ _ _ => by show ¬ _ = _; omega)) g1
      refine ⟨μ2, ?_, F1.tr F2, g2⟩
      have e12 : (12 : Int32) = Int32.ofNat 13 - Int32.ofNat 1 := by decide
      have e16 : Int64.ofNat (16 ^ i) * 16 = Int64.ofNat (16 ^ (i + 1)) := by rw [show (16 : Int64) = Int64.ofNat 16 from rfl, j_mul, Nat.pow_succ]
      have ei : Int32.ofNat i + 1 = Int32.ofNat (i + 1) := by rw [show (1 : Int32) = Int32.ofNat 1 from rfl, z_add]
      rw [e16, ei] at e1
      rw [← e2, ← e1, f_X12_gale_68, if_neg (show ¬ Int32.ofNat n ≤ Int32.ofNat i by rw [z_le (by omega) (by omega)]; omega), e12]
theorem gm159 {n q : Nat} (hn : n < 13) {μ : dtM} (C : CX μ) (H : AJ μ (gT q n)) : ∀ (m f i s : Nat), i + m = 13 → m < f → fo (glN q n) m i s < 9223372036854775808 → f_X12_gale_159 f 133 (Int64.ofNat (16 ^ n)) (Int64.ofNat s) (Int32.ofNat i) μ = some (bI true, tM μ (fo (glN q n) m i s) (16 ^ n) (Nat.gcd (16 ^ n) (fo (glN q n) m i s))) := by
  intro m
  induction m with
  | zero =>
    intro f i s e hf hS
    cases f with
    | zero => omega
    | succ f =>
      rw [fo] at hS
      rw [f_X12_gale_159, if_pos (show (13 : Int32) ≤ Int32.ofNat i by rw [show (13 : Int32) = Int32.ofNat 13 from rfl, z_le (by decide) (by omega)]; omega), C.v133, o_bind, f_tells C.s133 hS (p16 hn), o_call, o_bI, fo]
  | succ m ih =>
    intro f i s e hf hS
    cases f with
    | zero => omega
    | succ f =>
      rw [fo] at hS ⊢
      rw [f_X12_gale_159, if_neg (show ¬ (13 : Int32) ≤ Int32.ofNat i by rw [show (13 : Int32) = Int32.ofNat 13 from rfl, z_le (by decide) (by omega)]; omega), C.g133_33, o_bind, H.l C (by omega), o_bind, o_bind, j_add, show (1 : Int32) = Int32.ofNat 1 from rfl, z_add]
      exact ih f (i + 1) _ (by omega) (by omega) hS
theorem ga_w {μ : dtM} {x : Int32} : f_X11_within x (0 : Int32) (12 : Int32) μ = some (bI (inR x 13), μ) := f_within0 (n := 12) (by decide)
theorem ga_f {μ : dtM} {x : Int32} : f_X12_isFrom x.toInt64 (0 : Int64) (12 : Int64) μ = some (bI (inR x 13), μ) := f_isFrom (n := 12) (by decide)
theorem ga_20 {μ : dtM} (C : CX μ) : f_X11_gale_20 0 μ = some (bI false, dtSI μ 0 0 (Int32.ofNat 1)) := by
  rw [f_X11_gale_20, C.v0, o_bind, show (1 : Int32) = Int32.ofNat 1 from rfl, p_refuse C, o_call, o_bI]
theorem ga_24 {μ : dtM} (C : CX μ) : f_X12_gale_24 133 μ = some (bI false, dtSI μ 133 2 (Int32.ofNat 1)) := by
  rw [f_X12_gale_24, C.v133, o_bind, show (1 : Int32) = Int32.ofNat 1 from rfl, n_isW C (by decide), o_call, o_bI]
theorem cs49 {μ : dtM} {w : aW} {f : aF} {A : aH} {z : aZ} (HP : RP μ w f A z) (HM : RM μ f A z) (W : dWF A (zD z)) (x y : Int32) : both (f_X11_gale 0 x y) (f_X12_gale 133 x y) μ := by
  have C := HP.c
  have HH := HP.ph
  have hod := HH.od
  cases h1 : inR x 13
  · refine both.no HP HM W (bI false) (Int32.ofNat 1) ?_ (fun μ1 R1 => ?_)
    · rw [f_X11_gale, ga_w, h1, o_call, if_pos (by decide), ga_20 C]
    · rw [f_X12_gale, ga_f, h1, o_call, if_pos (by decide), ga_24 R1.c]
  · cases h2 : inR y 13
    · refine both.no HP HM W (bI false) (Int32.ofNat 1) ?_ (fun μ1 R1 => ?_)
      · rw [f_X11_gale, ga_w, h1, o_call, if_neg (by decide), ga_w, h2, o_call, if_pos (by decide), ga_20 C]
      · rw [f_X12_gale, ga_f, h1, o_call, if_neg (by decide), ga_f, h2, o_call, if_pos (by decide), ga_24 R1.c]
    · obtain ⟨n, hn, rfl⟩ := inR_t (by decide) h1
      obtain ⟨k, hk, rfl⟩ := inR_t (by decide) h2
      have sm := gl_same (q := hs A 4) hn hk
      have le := glN_le hod hn (13 - k) k 0 (by omega)
      have hS : fo (glN (hs A 4) n) (13 - k) k 0 < 9223372036854775808 := by omega
      refine both.fra HP HM W (v := bI true) (f' := (Int32.ofNat 0, Int64.ofNat (fo (glN (hs A 4) n) (13 - k) k 0 / Nat.gcd (16 ^ n) (fo (glN (hs A 4) n) (13 - k) k 0)), Int64.ofNat (16 ^ n / Nat.gcd (16 ^ n) (fo (glN (hs A 4) n) (13 - k) k 0)))) ?_ (fun μ1 R1 => ?_)
      · have e34 := ga34 HP hn hk (n + 1) dtFuel 0 0 (by omega) (dtFuel_gt (by omega)) (by rw [sm]; exact hS)
        rw [sm] at e34
        refine ⟨dtSI (tF μ (fo (glN (hs A 4) n) (13 - k) k 0) (16 ^ n) (Nat.gcd (16 ^ n) (fo (glN (hs A 4) n) (13 - k) k 0))) 0 0 (Int32.ofNat 0), ?_, ?_, ⟨?_, ?_, ?_⟩⟩
        rotate_left
        · exact ((Fr.SJ (P := ScPF w) (Or.inr ⟨rfl, Or.inl rfl⟩)).tr (Fr.SJ (P := ScPF w) (Or.inr ⟨rfl, Or.inr rfl⟩))).tr (Fr.SI (P := ScPF w) (Or.inl (Or.inl ⟨rfl, rfl⟩)))
        · rw [m_I_SI, if_pos ⟨rfl, rfl⟩]
        · show dtJ (dtSJ (dtSJ μ 0 1 _) 0 2 _) 0 1 = _
          rw [m_J_SJ, if_neg (by decide), m_J_SJ, if_pos ⟨rfl, rfl⟩]
        · show dtJ (dtSJ (dtSJ μ 0 1 _) 0 2 _) 0 2 = _
          rw [m_J_SJ, if_pos ⟨rfl, rfl⟩]
        · rw [f_X11_gale, ga_w, h1, o_call, if_neg (by decide), ga_w, h2, o_call, if_neg (by decide)]
          exact e34
      · obtain ⟨μ2, e2, F2, g2⟩ := gm35 (n := Int32.ofNat n) (k := Int32.ofNat k) (q := hs A 4) 13 dtFuel 0 μ1 (by omega) (dtFuel_gt (by decide)) R1.c (fun j hj => absurd hj (Nat.not_lt_zero j))
        have C2 := R1.c.kept F2
        obtain ⟨μ3, e3, F3, g3⟩ := gm68 (k := Int32.ofNat k) (A := A) rfl hod hn n dtFuel 0 μ2 (by omega) (dtFuel_gt (by omega)) C2 (R1.mh.keptAt F2 (fun _ _ _ _ => by show ¬ _ = _; omega) (fun _ _ _ => by show ¬ _ = _; omega)) g2
        have C3 := C2.kept F3
        have e4 := gm159 hn C3 g3 (13 - k) dtFuel k 0 (by omega) (dtFuel_gt (by omega)) hS
        have F23 := (F2.tr F3).wide (Q := ScMF) (fun a j x => Or.inl (by have : a = 150 := x; unfold ScM; omega))
        refine ⟨tM μ3 (fo (glN (hs A 4) n) (13 - k) k 0) (16 ^ n) (Nat.gcd (16 ^ n) (fo (glN (hs A 4) n) (13 - k) k 0)), ?_, ?_, ⟨?_, ?_, ?_⟩⟩
        rotate_left
        · exact F23.tr (((Fr.SJ (P := ScMF) (Or.inr ⟨rfl, Or.inl rfl⟩)).tr (Fr.SJ (P := ScMF) (Or.inr ⟨rfl, Or.inr rfl⟩))).tr (Fr.SI (P := ScMF) (Or.inl (Or.inl (by decide)))))
        · show dtI (dtSI (dtSJ (dtSJ μ3 133 3 _) 133 4 _) 133 2 _) 133 2 = _
          rw [m_I_SI, if_pos ⟨rfl, rfl⟩]
        · show dtJ (dtSJ (dtSJ μ3 133 3 _) 133 4 _) 133 3 = _
          rw [m_J_SJ, if_neg (by decide), m_J_SJ, if_pos ⟨rfl, rfl⟩]
        · show dtJ (dtSJ (dtSJ μ3 133 3 _) 133 4 _) 133 4 = _
          rw [m_J_SJ, if_pos ⟨rfl, rfl⟩]
        · rw [f_X12_gale, ga_f, h1, o_call, if_neg (by decide), ga_f, h2, o_call, if_neg (by decide)]
          exact e2.trans (e3.trans e4)
