/-! PURE 58: pour -/
theorem z_subI' {a b : Nat} (ha : a < 2147483648) (hb : b < 2147483648) : (Int32.ofNat a - Int32.ofNat b).toInt = (a : Int) - b := by
  rw [Int32.toInt_sub, z_tI ha, z_tI hb]
  rw [Int.bmod_eq_of_le (by omega) (by omega)]
theorem z_sub_lt {a b c : Nat} (ha : a < 2147483648) (hb : b < 2147483648) (hc : c < 2147483648) : (Int32.ofNat a - Int32.ofNat b < Int32.ofNat c) = (a < b + c) := by
  apply propext
  rw [Int32.lt_iff_toInt_lt, z_subI' ha hb, z_tI hc]
  omega
theorem z_le_sub {a b c : Nat} (ha : a < 2147483648) (hb : b < 2147483648) (hc : c < 2147483648) : (Int32.ofNat c ≤ Int32.ofNat a - Int32.ofNat b) = (b + c ≤ a) := by
  apply propext
  rw [Int32.le_iff_toInt_le, z_subI' ha hb, z_tI hc]
  omega
theorem o_CJ {μ : dtM} {a b sp dp n na nb : Nat} (ha : dtS μ a = (3, na)) (hb : dtS μ b = (3, nb)) (h1 : sp + n ≤ na) (h2 : dp + n ≤ nb) (h3 : na < 2147483648) (h4 : nb < 2147483648) : opCJ μ a (Int32.ofNat sp) b (Int32.ofNat dp) (Int32.ofNat n) = some (dtRJ μ b (va_cpy (dtJ μ a) (dtJ μ b) sp dp n)) := by
  have n0 : ∀ k, k < 2147483648 → ¬ Int32.ofNat k < 0 := fun k hk => by
    rw [show (0 : Int32) = Int32.ofNat 0 from rfl, z_lt0 hk]; exact id
  unfold opCJ
  rw [ha, hb, z_cl (show sp < 2147483648 by omega), z_cl (show dp < 2147483648 by omega), z_cl (show n < 2147483648 by omega)]
  exact if_pos ⟨⟨rfl, rfl⟩, ⟨n0 sp (by omega), n0 dp (by omega), n0 n (by omega)⟩, h1, h2⟩
def poT (T : aT) (i sp k dp n : Nat) : aT := upT T k (taS T k) (taN T k) (fun b => if dp ≤ b ∧ b < dp + n then taV T i (sp + (b - dp)) else taV T k b)
theorem PT.pour {μ : dtM} {T : aT} (H : PT μ T) {i sp k dp n : Nat} (hi : i < 4) (hk : k < 4) (h1 : sp + n < taN T i) (h2 : dp + n < taN T k) : PT (dtRJ μ (3 + 2 * k) (va_cpy (dtJ μ (3 + 2 * i)) (dtJ μ (3 + 2 * k)) sp dp n)) (poT T i sp k dp n) := by
  obtain ⟨a, b, c⟩ := H k hk
  have c' := c (by omega)
  have ci := (H i hi).2.2 (by omega)
  have e : taN T k = (taN T k - 1) + 1 := by omega
  have X := H.one (k := k) (s := taS T k) (n := taN T k - 1) (g := fun b => if dp ≤ b ∧ b < dp + n then taV T i (sp + (b - dp)) else taV T k b) (μ' := dtRJ μ (3 + 2 * k) (va_cpy (dtJ μ (3 + 2 * i)) (dtJ μ (3 + 2 * k)) sp dp n)) (Fr.RJ (fun _ => Or.inr rfl)) a.1 (by omega) (by rw [if_neg (by omega)] at b; exact b) c'.1 c'.2.1 (fun q hq => by
    rw [m_J_RJ, if_pos rfl]
    show (if dp ≤ q ∧ q < dp + n then _ else _) = _
    by_cases x : dp ≤ q ∧ q < dp + n
    · rw [if_pos x, if_pos x]; exact ci.2.2 _ (by omega)
    · rw [if_neg x, if_neg x]; exact c'.2.2 q (by omega))
  rw [← e] at X
  exact X
theorem po118a {i sp k dp N : Nat} {J0 : Nat → Int64} (hi : i < 4) (hk : k < 4) (h1 : sp + N ≤ 60) (h2 : dp + N ≤ 60) (hd : dp ≤ sp) : ∀ (n f t : Nat) (μ : dtM), t + n = N → n < f → CX μ → (∀ x, dtJ μ 138 x = if 60 * k + dp ≤ x ∧ x < 60 * k + dp + t then J0 (60 * i + sp + (x - (60 * k + dp))) else J0 x) → ∃ μ', f_X12_pour_118 f 133 (Int32.ofNat i) (Int32.ofNat sp) (Int32.ofNat k) (Int32.ofNat dp) (Int32.ofNat N) (Int32.ofNat t) μ = some (bI true, dtSI μ' 133 2 (Int32.ofNat 0)) ∧ Fr (fun a j => a = 138 ∧ 60 * k ≤ j ∧ j < 60 * k + 60) μ μ' ∧ ∀ x, dtJ μ' 138 x = if 60 * k + dp ≤ x ∧ x < 60 * k + dp + N then J0 (60 * i + sp + (x - (60 * k + dp))) else J0 x := by
  intro n
  induction n with
  | zero =>
    intro f t μ e hf C hJ
    cases f with
    | zero => omega
    | succ f =>
      have et : t = N := by omega
      subst et
      refine ⟨μ, ?_, Fr.rf, hJ⟩
      simp (disch := omega) only [f_X12_pour_118, C.v133, o_bind, o_call, z_lit, n_is0 C, o_bI, z_le]
      rw [if_pos (Nat.le_refl _)]
  | succ n ih =>
    intro f t μ e hf C hJ
    cases f with
    | zero => omega
    | succ f =>
      have F1 : Fr (fun a j => a = 138 ∧ 60 * k ≤ j ∧ j < 60 * k + 60) μ (dtSJ μ 138 (60 * k + dp + t) (J0 (60 * i + sp + t))) := Fr.SJ ⟨rfl, by omega, by omega⟩
      have rd : dtJ μ 138 (60 * i + sp + t) = J0 (60 * i + sp + t) := by
        rw [hJ, if_neg]
        intro x
        have : i = k := by omega
        subst this
        omega
      obtain ⟨μ2, e2, F2, g2⟩ := ih f (t + 1) _ (by omega) (by omega) (C.kept F1) (fun x => by
        rw [m_J_SJ]
        by_cases q : x = 60 * k + dp + t
        · rw [if_pos ⟨rfl, q⟩, if_pos (by omega), q, show 60 * k + dp + t - (60 * k + dp) = t by omega]
        · rw [if_neg (fun y => q y.2), hJ]
          by_cases q2 : 60 * k + dp ≤ x ∧ x < 60 * k + dp + t
          · rw [if_pos q2, if_pos (by omega)]
          · rw [if_neg q2, if_neg (by omega)])
      refine ⟨μ2, ?_, F1.tr F2, g2⟩
      rw [← e2]
      have ld : opLJ 3 μ 138 (Int32.ofNat (60 * i + sp + t)) = some (J0 (60 * i + sp + t)) := by rw [o_LJ C.s138 (show 60 * i + sp + t < 240 by omega) (by decide), rd]
      simp (disch := omega) only [f_X12_pour_118, f_X12_pour_143, C.g133_7, o_bind, z_le, z_lit, z_mul, z_add, ld, o_SJ C.s138 (show 60 * k + dp + t < 240 by omega) (by decide)]
      rw [if_neg (by omega), if_pos hd]
theorem po118d {i sp k dp N : Nat} {J0 : Nat → Int64} (hi : i < 4) (hk : k < 4) (h1 : sp + N ≤ 60) (h2 : dp + N ≤ 60) (hd : ¬ dp ≤ sp) : ∀ (n f t : Nat) (μ : dtM), t + n = N → n < f → CX μ → (∀ x, dtJ μ 138 x = if 60 * k + dp + n ≤ x ∧ x < 60 * k + dp + N then J0 (60 * i + sp + (x - (60 * k + dp))) else J0 x) → ∃ μ', f_X12_pour_118 f 133 (Int32.ofNat i) (Int32.ofNat sp) (Int32.ofNat k) (Int32.ofNat dp) (Int32.ofNat N) (Int32.ofNat t) μ = some (bI true, dtSI μ' 133 2 (Int32.ofNat 0)) ∧ Fr (fun a j => a = 138 ∧ 60 * k ≤ j ∧ j < 60 * k + 60) μ μ' ∧ ∀ x, dtJ μ' 138 x = if 60 * k + dp ≤ x ∧ x < 60 * k + dp + N then J0 (60 * i + sp + (x - (60 * k + dp))) else J0 x := by
  intro n
  induction n with
  | zero =>
    intro f t μ e hf C hJ
    cases f with
    | zero => omega
    | succ f =>
      have et : t = N := by omega
      subst et
      refine ⟨μ, ?_, Fr.rf, hJ⟩
      simp (disch := omega) only [f_X12_pour_118, C.v133, o_bind, o_call, z_lit, n_is0 C, o_bI, z_le]
      rw [if_pos (Nat.le_refl _)]
  | succ n ih =>
    intro f t μ e hf C hJ
    cases f with
    | zero => omega
    | succ f =>
      have F1 : Fr (fun a j => a = 138 ∧ 60 * k ≤ j ∧ j < 60 * k + 60) μ (dtSJ μ 138 (60 * k + dp + n) (J0 (60 * i + sp + n))) := Fr.SJ ⟨rfl, by omega, by omega⟩
      have rd : dtJ μ 138 (60 * i + sp + n) = J0 (60 * i + sp + n) := by
        rw [hJ, if_neg]
        intro x
        have : i = k := by omega
        subst this
        omega
      obtain ⟨μ2, e2, F2, g2⟩ := ih f (t + 1) _ (by omega) (by omega) (C.kept F1) (fun x => by
        rw [m_J_SJ]
        by_cases q : x = 60 * k + dp + n
        · rw [if_pos ⟨rfl, q⟩, if_pos (by omega), q, show 60 * k + dp + n - (60 * k + dp) = n by omega]
        · rw [if_neg (fun y => q y.2), hJ]
          by_cases q2 : 60 * k + dp + (n + 1) ≤ x ∧ x < 60 * k + dp + N
          · rw [if_pos q2, if_pos (by omega)]
          · rw [if_neg q2, if_neg (by omega)])
      refine ⟨μ2, ?_, F1.tr F2, g2⟩
      rw [← e2]
      have ld : opLJ 3 μ 138 (Int32.ofNat (60 * i + sp + n)) = some (J0 (60 * i + sp + n)) := by rw [o_LJ C.s138 (show 60 * i + sp + n < 240 by omega) (by decide), rd]
      have en : N - 1 - t = n := by omega
      simp (disch := omega) only [f_X12_pour_118, f_X12_pour_143, C.g133_7, o_bind, z_le, z_lit, z_sub, en, z_mul, z_add, ld, o_SJ C.s138 (show 60 * k + dp + n < 240 by omega) (by decide)]
      rw [if_neg (by omega), if_neg hd]
theorem po118 {i sp k dp N : Nat} {μ : dtM} {T : aT} (H : MT μ T) (C : CX μ) (hi : i < 4) (hk : k < 4) (h1 : sp + N < taN T i) (h2 : dp + N < taN T k) : ∃ μ', f_X12_pour_118 dtFuel 133 (Int32.ofNat i) (Int32.ofNat sp) (Int32.ofNat k) (Int32.ofNat dp) (Int32.ofNat N) (Int32.ofNat 0) μ = some (bI true, dtSI μ' 133 2 (Int32.ofNat 0)) ∧ Fr (fun a j => a = 138 ∧ 60 * k ≤ j ∧ j < 60 * k + 60) μ μ' ∧ MT μ' (poT T i sp k dp N) := by
  obtain ⟨a, b, c⟩ := H k hk
  obtain ⟨ai, bi, ci⟩ := H i hi
  have c' := c (by omega)
  have ci' := ci (by omega)
  have X : ∃ μ', f_X12_pour_118 dtFuel 133 (Int32.ofNat i) (Int32.ofNat sp) (Int32.ofNat k) (Int32.ofNat dp) (Int32.ofNat N) (Int32.ofNat 0) μ = some (bI true, dtSI μ' 133 2 (Int32.ofNat 0)) ∧ Fr (fun a j => a = 138 ∧ 60 * k ≤ j ∧ j < 60 * k + 60) μ μ' ∧ ∀ x, dtJ μ' 138 x = if 60 * k + dp ≤ x ∧ x < 60 * k + dp + N then dtJ μ 138 (60 * i + sp + (x - (60 * k + dp))) else dtJ μ 138 x := by
    by_cases hd : dp ≤ sp
    · exact po118a hi hk (by omega) (by omega) hd N dtFuel 0 μ (by omega) (dtFuel_gt (by omega)) C (fun x => by rw [if_neg (by omega)])
    · exact po118d hi hk (by omega) (by omega) hd N dtFuel 0 μ (by omega) (dtFuel_gt (by omega)) C (fun x => by rw [if_neg (by omega)])
  obtain ⟨μ2, e2, F2, g2⟩ := X
  refine ⟨μ2, e2, F2, ?_⟩
  have e : taN T k = (taN T k - 1) + 1 := by omega
  have Y := H.one (k := k) (s := taS T k) (n := taN T k - 1) (g := fun b => if dp ≤ b ∧ b < dp + N then taV T i (sp + (b - dp)) else taV T k b) (μ' := μ2) (F2.wide (fun p j x => Or.inr ⟨x.1, x.2.1, x.2.2⟩)) a.1 (by omega) (by rw [F2.i (by omega)]; exact c'.1) (by rw [F2.i (by omega)]; exact c'.2.1) (fun q hq => by
    rw [g2]
    show _ = (if dp ≤ q ∧ q < dp + N then _ else _)
    by_cases x : dp ≤ q ∧ q < dp + N
    · rw [if_pos (by omega), if_pos x, show 60 * i + sp + (60 * k + q - (60 * k + dp)) = 60 * i + (sp + (q - dp)) by omega]
      exact ci'.2.2 _ (by omega)
    · rw [if_neg (by omega), if_neg x]; exact c'.2.2 q (by omega))
  rw [← e] at Y
  exact Y
theorem po_28 {μ : dtM} (C : CX μ) : f_X12_pour_28 133 μ = some (bI false, dtSI μ 133 2 (Int32.ofNat 1)) := by
  rw [f_X12_pour_28, C.v133, o_bind, show (1 : Int32) = Int32.ofNat 1 from rfl, n_isW C (by decide), o_call, o_bI]
theorem po_54 {μ : dtM} (C : CX μ) : f_X12_pour_54 133 μ = some (bI false, dtSI μ 133 2 (Int32.ofNat 2)) := by
  rw [f_X12_pour_54, C.v133, o_bind, show (2 : Int32) = Int32.ofNat 2 from rfl, n_isW C (by decide), o_call, o_bI]
theorem po_109 {μ : dtM} (C : CX μ) : f_X12_pour_109 133 μ = some (bI false, dtSI μ 133 2 (Int32.ofNat 3)) := by
  rw [f_X12_pour_109, C.v133, o_bind, show (3 : Int32) = Int32.ofNat 3 from rfl, n_isW C (by decide), o_call, o_bI]
theorem po_m {μ : dtM} (C : CX μ) {x y u v n a b : Int32} (h1 : inR x 4 = true) (h2 : inR u 4 = true) (hy : ¬ y < 0) (hv : ¬ v < 0) (hn : 0 ≤ n) (ha : opLI 1 μ 137 x = some a) (hb : opLI 1 μ 137 u = some b) : f_X12_pour 133 x y u v n μ = if a = (-1 : Int32) then f_X12_pour_54 133 μ else if b = (-1 : Int32) then f_X12_pour_54 133 μ else (opLI 1 μ 136 x).bind fun x38 => (opLI 1 μ 136 u).bind fun x42 => if x38 = x42 then (if (a - y) < n then f_X12_pour_109 133 μ else if n ≤ (b - v) then f_X12_pour_118 dtFuel 133 x y u v n (0 : Int32) μ else f_X12_pour_109 133 μ) else some (bI false, dtSI μ 133 2 (Int32.ofNat 8)) := by
  rw [f_X12_pour, f_isTrayM, h1, o_call, if_neg (by decide), f_isTrayM, h2, o_call, if_neg (by decide), if_neg hy, if_neg hv, if_pos hn, C.g133_6, o_bind, ha, o_bind, o_bind, hb, o_bind, C.g133_5, o_bind, C.v133, o_bind, show (8 : Int32) = Int32.ofNat 8 from rfl, n_isW C (by decide), o_call, o_bI]
  simp only [o_bind, ha, hb]
theorem po_g {μ : dtM} (C : CX μ) {x y u v n : Int32} (h : inR x 4 = false ∨ inR u 4 = false ∨ y < 0 ∨ v < 0 ∨ ¬ 0 ≤ n) : f_X12_pour 133 x y u v n μ = some (bI false, dtSI μ 133 2 (Int32.ofNat 1)) := by
  cases h1 : inR x 4
  · rw [f_X12_pour, f_isTrayM, h1, o_call, if_pos (by decide), po_28 C]
  · rw [f_X12_pour, f_isTrayM, h1, o_call, if_neg (by decide)]
    cases h2 : inR u 4
    · rw [f_isTrayM, h2, o_call, if_pos (by decide), po_28 C]
    · rw [f_isTrayM, h2, o_call, if_neg (by decide)]
      by_cases hy : y < 0
      · rw [if_pos hy, po_28 C]
      · rw [if_neg hy]
        by_cases hv : v < 0
        · rw [if_pos hv, po_28 C]
        · rw [if_neg hv]
          by_cases hn : 0 ≤ n
          · rw [h1, h2] at h
            rcases h with h | h | h | h | h
            · exact absurd h (by decide)
            · exact absurd h (by decide)
            · exact absurd h hy
            · exact absurd h hv
            · exact absurd hn h
          · rw [if_neg hn, po_28 C]
theorem cs6 {μ : dtM} {w : aW} {f : aF} {A : aH} {z : aZ} (HP : RP μ w f A z) (HM : RM μ f A z) (W : dWF A (zD z)) (x y u v n : Int32) : both (f_X11_pour 0 x y u v n) (f_X12_pour 133 x y u v n) μ := by
  have C := HP.c
  have HH := HP.ph
  have g5 := HP.g5
  have hnr := HH.nr
  have hnd := HH.nd
  have hnw := HH.nw
  have hnp := HH.np
  have T := HP.pt
  cases h1 : inR x 4
  · refine both.no HP HM W (bI false) (Int32.ofNat 1) ?_ (fun μ1 R1 => ?_)
    · simp only [f_X11_pour, f_X11_pour_28, f_X11_pour_66, f_X11_pour_115, f_isTrayP, C.v0, p_refuse C, h1, o_bind, o_call, z_lit, b0, o_ret0', o_ret1', o_bI, Bool.true_eq_false, Bool.false_eq_true, eq_self, if_true, if_false]
    · exact po_g R1.c (Or.inl h1)
  cases h2 : inR u 4
  · refine both.no HP HM W (bI false) (Int32.ofNat 1) ?_ (fun μ1 R1 => ?_)
    · simp only [f_X11_pour, f_X11_pour_28, f_X11_pour_66, f_X11_pour_115, f_isTrayP, C.v0, p_refuse C, h1, h2, o_bind, o_call, z_lit, b0, o_ret0', o_ret1', o_bI, Bool.true_eq_false, Bool.false_eq_true, eq_self, if_true, if_false]
    · exact po_g R1.c (Or.inr (Or.inl h2))
  rcases z_cases y with hy | ⟨sp, hsp, rfl⟩
  · refine both.no HP HM W (bI false) (Int32.ofNat 1) ?_ (fun μ1 R1 => ?_)
    · simp only [f_X11_pour, f_X11_pour_28, f_X11_pour_66, f_X11_pour_115, f_isTrayP, C.v0, p_refuse C, h1, h2, hy, o_bind, o_call, z_lit, b0, o_ret0', o_ret1', o_bI, Bool.true_eq_false, Bool.false_eq_true, eq_self, if_true, if_false]
    · exact po_g R1.c (Or.inr (Or.inr (Or.inl hy)))
  rcases z_cases v with hv | ⟨dp, hdp, rfl⟩
  · refine both.no HP HM W (bI false) (Int32.ofNat 1) ?_ (fun μ1 R1 => ?_)
    · simp only [f_X11_pour, f_X11_pour_28, f_X11_pour_66, f_X11_pour_115, f_isTrayP, C.v0, p_refuse C, h1, h2, z_lt0 hsp, hv, o_bind, o_call, z_lit, b0, o_ret0', o_ret1', o_bI, Bool.true_eq_false, Bool.false_eq_true, eq_self, if_true, if_false]
    · exact po_g R1.c (Or.inr (Or.inr (Or.inr (Or.inl hv))))
  rcases z_cases n with hn | ⟨N, hN, rfl⟩
  · refine both.no HP HM W (bI false) (Int32.ofNat 1) ?_ (fun μ1 R1 => ?_)
    · simp only [f_X11_pour, f_X11_pour_28, f_X11_pour_66, f_X11_pour_115, f_isTrayP, C.v0, p_refuse C, h1, h2, z_lt0 hsp, z_lt0 hdp, z_le0n hn, o_bind, o_call, z_lit, b0, o_ret0', o_ret1', o_bI, Bool.true_eq_false, Bool.false_eq_true, eq_self, if_true, if_false]
    · exact po_g R1.c (Or.inr (Or.inr (Or.inr (Or.inr (Int32.not_le.mpr hn)))))
  have y1 : ¬ Int32.ofNat sp < 0 := by rw [show (0 : Int32) = Int32.ofNat 0 from rfl, z_lt0 hsp]; exact id
  have v1 : ¬ Int32.ofNat dp < 0 := by rw [show (0 : Int32) = Int32.ofNat 0 from rfl, z_lt0 hdp]; exact id
  have nn : 0 ≤ Int32.ofNat N := by rw [show (0 : Int32) = Int32.ofNat 0 from rfl, z_le0 hN]; exact trivial
  obtain ⟨i, hi, rfl⟩ := inR_t (by decide) h1
  obtain ⟨k, hk, rfl⟩ := inR_t (by decide) h2
  have hi61 := (T i hi).1
  have hk61 := (T k hk).1
  have nea : ∀ m, m ≤ 61 → ¬ Int32.ofNat (m - 1) = (-1 : Int32) := fun m hm => by rw [show (-1 : Int32) = -Int32.ofNat 1 from rfl, z_neg (show m - 1 < 2147483648 by omega)]; exact id
  have z10 : (Int32.ofNat 1 = Int32.ofNat 0) = False := by rw [z_eq (by decide) (by decide)]; exact propext ⟨fun x => absurd x (by decide), False.elim⟩
  have any : ∀ μ1, RM μ1 f A z → ∃ b, opLI 1 μ1 137 (Int32.ofNat k) = some b := fun μ1 R1 => ⟨_, o_LI R1.c.s137 hk (by decide)⟩
  by_cases n1 : taN (zT z) i = 0
  · refine both.no HP HM W (bI false) (Int32.ofNat 2) ?_ (fun μ1 R1 => ?_)
    · simp only [f_X11_pour, f_X11_pour_28, f_X11_pour_66, f_X11_pour_115, f_isTrayP, C.v0, p_refuse C, h1, h2, z_lt0 hsp, z_lt0 hdp, z_le0 hN, C.g0_3, C.t1 hi, C.t1 hk, T.no C hi n1, o_bind, o_call, z_lit, b0, o_ret0', o_ret1', o_bI, Bool.true_eq_false, Bool.false_eq_true, eq_self, if_true, if_false]
    · obtain ⟨b, hb⟩ := any μ1 R1
      rw [po_m R1.c h1 h2 y1 v1 nn (R1.mt.no R1.c hi n1) hb, if_pos (by decide), po_54 R1.c]
  by_cases n2 : taN (zT z) k = 0
  · refine both.no HP HM W (bI false) (Int32.ofNat 2) ?_ (fun μ1 R1 => ?_)
    · simp only [f_X11_pour, f_X11_pour_28, f_X11_pour_66, f_X11_pour_115, f_isTrayP, C.v0, p_refuse C, h1, h2, z_lt0 hsp, z_lt0 hdp, z_le0 hN, C.g0_3, C.t1 hi, C.t1 hk, T.is C hi (show 0 < taN (zT z) i by omega), T.no C hk n2, z10, o_bind, o_call, z_lit, b0, o_ret0', o_ret1', o_bI, Bool.true_eq_false, Bool.false_eq_true, eq_self, if_true, if_false]
    · rw [po_m R1.c h1 h2 y1 v1 nn (R1.mt.ma R1.c hi (show 0 < taN (zT z) i by omega)) (R1.mt.no R1.c hk n2), if_neg (nea _ (by omega)), if_pos (by decide), po_54 R1.c]
  have zs := z_eq (show taS (zT z) i < 2147483648 by omega) (show taS (zT z) k < 2147483648 by omega)
  have em : ∀ μ1, RM μ1 f A z → f_X12_pour 133 (Int32.ofNat i) (Int32.ofNat sp) (Int32.ofNat k) (Int32.ofNat dp) (Int32.ofNat N) μ1 = if Int32.ofNat (taS (zT z) i) = Int32.ofNat (taS (zT z) k) then (if (Int32.ofNat (taN (zT z) i - 1) - Int32.ofNat sp) < Int32.ofNat N then f_X12_pour_109 133 μ1 else if Int32.ofNat N ≤ (Int32.ofNat (taN (zT z) k - 1) - Int32.ofNat dp) then f_X12_pour_118 dtFuel 133 (Int32.ofNat i) (Int32.ofNat sp) (Int32.ofNat k) (Int32.ofNat dp) (Int32.ofNat N) (0 : Int32) μ1 else f_X12_pour_109 133 μ1) else some (bI false, dtSI μ1 133 2 (Int32.ofNat 8)) := fun μ1 R1 => by
    rw [po_m R1.c h1 h2 y1 v1 nn (R1.mt.ma R1.c hi (show 0 < taN (zT z) i by omega)) (R1.mt.ma R1.c hk (show 0 < taN (zT z) k by omega)), if_neg (nea _ (by omega)), if_neg (nea _ (by omega)), R1.mt.so R1.c hi (show 0 < taN (zT z) i by omega), o_bind, R1.mt.so R1.c hk (show 0 < taN (zT z) k by omega), o_bind]
  by_cases n3 : taS (zT z) i = taS (zT z) k
  · have r1 := p_hasRun T C hi (a := sp) (n := N) (show 0 < taN (zT z) i by omega) hsp hN
    have r2 := p_hasRun T C hk (a := dp) (n := N) (show 0 < taN (zT z) k by omega) hdp hN
    have b1 := z_sub_lt (show taN (zT z) i - 1 < 2147483648 by omega) hsp hN
    have b2 := z_le_sub (show taN (zT z) k - 1 < 2147483648 by omega) hdp hN
    by_cases n4 : sp + N < taN (zT z) i
    · rw [decide_eq_true n4] at r1
      by_cases n5 : dp + N < taN (zT z) k
      · rw [decide_eq_true n5] at r2
        refine both.tra HP HM W (bI true) (Int32.ofNat 0) (poT (zT z) i sp k dp N) ?_ (fun μ1 R1 => ?_)
        · have F1 : Fr (PTr k) μ (dtRJ μ (3 + 2 * k) (va_cpy (dtJ μ (3 + 2 * i)) (dtJ μ (3 + 2 * k)) sp dp N)) := Fr.RJ (fun _ => Or.inr rfl)
          have C2 := C.kept F1
          refine ⟨_, ?_, F1.wide (fun a j x => Or.inr (by have : a = 2 + 2 * k ∨ a = 3 + 2 * k := x; omega)), T.pour hi hk n4 n5⟩
          have cj := o_CJ (C.tr hi).2.1 (C.tr hk).2.1 (show sp + N ≤ 60 by omega) (show dp + N ≤ 60 by omega) (by decide) (by decide)
          simp only [f_X11_pour, f_X11_pour_28, f_X11_pour_66, f_X11_pour_115, f_isTrayP, C.v0, p_refuse C, h1, h2, z_lt0 hsp, z_lt0 hdp, z_le0 hN, C.g0_3, C.t1 hi, C.t1 hk, T.is C hi (show 0 < taN (zT z) i by omega), T.is C hk (show 0 < taN (zT z) k by omega), T.so C hi (show 0 < taN (zT z) i by omega), T.so C hk (show 0 < taN (zT z) k by omega), z10, z_eq (show taS (zT z) i < 2147483648 by omega) (show taS (zT z) k < 2147483648 by omega), n3, C.t2 hi, C.t2 hk, C.t3 hi, C.t3 hk, r1, r2, cj, C2.v0, p_agree C2, o_bind, o_call, z_lit, b0, o_ret0', o_ret1', o_bI, Bool.true_eq_false, Bool.false_eq_true, eq_self, if_true, if_false]
        · obtain ⟨μ2, e2, F2, T2⟩ := po118 R1.mt R1.c hi hk n4 n5
          refine ⟨μ2, ?_, F2.wide (fun a j x => Or.inr (by omega)), T2⟩
          rw [em μ1 R1, if_pos (by rw [n3]), if_neg (by rw [b1]; omega), if_pos (by rw [b2]; omega)]
          exact e2
      · rw [decide_eq_false n5] at r2
        refine both.no HP HM W (bI false) (Int32.ofNat 3) ?_ (fun μ1 R1 => ?_)
        · simp only [f_X11_pour, f_X11_pour_28, f_X11_pour_66, f_X11_pour_115, f_isTrayP, C.v0, p_refuse C, h1, h2, z_lt0 hsp, z_lt0 hdp, z_le0 hN, C.g0_3, C.t1 hi, C.t1 hk, T.is C hi (show 0 < taN (zT z) i by omega), T.is C hk (show 0 < taN (zT z) k by omega), T.so C hi (show 0 < taN (zT z) i by omega), T.so C hk (show 0 < taN (zT z) k by omega), z10, z_eq (show taS (zT z) i < 2147483648 by omega) (show taS (zT z) k < 2147483648 by omega), n3, C.t2 hi, C.t2 hk, r1, r2, o_bind, o_call, z_lit, b0, o_ret0', o_ret1', o_bI, Bool.true_eq_false, Bool.false_eq_true, eq_self, if_true, if_false]
        · rw [em μ1 R1, if_pos (by rw [n3]), if_neg (by rw [b1]; omega), if_neg (by rw [b2]; omega), po_109 R1.c]
    · rw [decide_eq_false n4] at r1
      refine both.no HP HM W (bI false) (Int32.ofNat 3) ?_ (fun μ1 R1 => ?_)
      · simp only [f_X11_pour, f_X11_pour_28, f_X11_pour_66, f_X11_pour_115, f_isTrayP, C.v0, p_refuse C, h1, h2, z_lt0 hsp, z_lt0 hdp, z_le0 hN, C.g0_3, C.t1 hi, C.t1 hk, T.is C hi (show 0 < taN (zT z) i by omega), T.is C hk (show 0 < taN (zT z) k by omega), T.so C hi (show 0 < taN (zT z) i by omega), T.so C hk (show 0 < taN (zT z) k by omega), z10, z_eq (show taS (zT z) i < 2147483648 by omega) (show taS (zT z) k < 2147483648 by omega), n3, C.t2 hi, C.t2 hk, r1, o_bind, o_call, z_lit, b0, o_ret0', o_ret1', o_bI, Bool.true_eq_false, Bool.false_eq_true, eq_self, if_true, if_false]
      · rw [em μ1 R1, if_pos (by rw [n3]), if_pos (by rw [b1]; omega), po_109 R1.c]
  · refine both.no HP HM W (bI false) (Int32.ofNat 8) ?_ (fun μ1 R1 => ?_)
    · simp only [f_X11_pour, f_X11_pour_28, f_X11_pour_66, f_X11_pour_115, f_isTrayP, C.v0, p_refuse C, h1, h2, z_lt0 hsp, z_lt0 hdp, z_le0 hN, C.g0_3, C.t1 hi, C.t1 hk, T.is C hi (show 0 < taN (zT z) i by omega), T.is C hk (show 0 < taN (zT z) k by omega), T.so C hi (show 0 < taN (zT z) i by omega), T.so C hk (show 0 < taN (zT z) k by omega), z10, z_eq (show taS (zT z) i < 2147483648 by omega) (show taS (zT z) k < 2147483648 by omega), n3, o_bind, o_call, z_lit, b0, o_ret0', o_ret1', o_bI, Bool.true_eq_false, Bool.false_eq_true, eq_self, if_true, if_false]
    · rw [em μ1 R1, if_neg (by rw [zs]; exact n3)]

