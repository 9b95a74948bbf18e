/-! PURE 80: the program's token, and what it asks of it -/
def lxJ (u : Nat → Nat) (n e : Nat) : Int64 := match lxN u n e with
  | some l => n32 l
  | none => Int64.ofNat 0
def PTk (μ : dtM) (c n : Nat) (B : Nat → Int32) (e : Nat) : Prop := TXP μ c n B ∧ e ≤ n ∧ dtI μ c 2 = Int32.ofNat (lxF (tx B) n e) ∧ dtI μ c 3 = Int32.ofNat (lxE (tx B) n e) ∧ dtI μ c 4 = Int32.ofNat (lxT (tx B) n e) ∧ (lxT (tx B) n e = 2 → dtI μ c 5 = Int32.ofNat (lxV (tx B) n e)) ∧ (lxT (tx B) n e = 3 → dtI μ c 5 = Int32.ofNat (tx B (lxF (tx B) n e))) ∧ dtI μ c 6 = oN (lxK (tx B) n e) ∧ dtJ μ c 7 = lxJ (tx B) n e
theorem rn_lo {u : Nat → Nat} {n i : Nat} (h : i < n) : (i < rnn isLo u n i) = (isLo (u i) = true) := by
  apply propext
  by_cases q : isLo (u i) = true
  · rw [rnn_in h q]
    have := rnn_ge (P := isLo) (tx := u) (n := n) (i := i + 1)
    exact ⟨fun _ => q, fun _ => by omega⟩
  · rw [rnn_out (fun x => q x.2)]
    exact ⟨fun x => absurd x (Nat.lt_irrefl _), fun x => absurd x q⟩
theorem rn_di {u : Nat → Nat} {n i : Nat} (h : i < n) : (i < rnn isDi u n i) = (isDi (u i) = true) := by
  apply propext
  by_cases q : isDi (u i) = true
  · rw [rnn_in h q]
    have := rnn_ge (P := isDi) (tx := u) (n := n) (i := i + 1)
    exact ⟨fun _ => q, fun _ => by omega⟩
  · rw [rnn_out (fun x => q x.2)]
    exact ⟨fun x => absurd x (Nat.lt_irrefl _), fun x => absurd x q⟩
theorem nvL_4 {u : Nat → Nat} : ∀ (m i v : Nat), (∀ j, i ≤ j → j < i + m → isDi (u j) = true) → nvL u m i v < (v + 1) * 10 ^ m
  | 0, _, v, _ => by rw [nvL, Nat.pow_zero, Nat.mul_one]; exact Nat.lt_succ_self _
  | m + 1, i, v, h => by
    have d := isDi_t (h i (Nat.le_refl _) (by omega))
    have a := nvL_4 (u := u) m (i + 1) (v * 10 + (u i - 48)) (fun j x y => h j (by omega) (by omega))
    have b : (v * 10 + (u i - 48) + 1) * 10 ^ m ≤ ((v + 1) * 10) * 10 ^ m := Nat.mul_le_mul_right _ (by omega)
    rw [nvL, Nat.pow_succ, Nat.mul_comm (10 ^ m) 10, ← Nat.mul_assoc]
    omega
theorem lxT_2 {u : Nat → Nat} {n e : Nat} (h : lxT u n e = 2) : ¬ n ≤ lxF u n e ∧ ¬ isLo (u (lxF u n e)) = true ∧ isDi (u (lxF u n e)) = true ∧ lxE u n e = rnn isDi u n (lxF u n e) ∧ lxE u n e - lxF u n e ≤ 4 := by
  unfold lxT at h
  unfold lxE
  by_cases q : n ≤ lxF u n e
  · rw [if_pos q] at h; omega
  · rw [if_neg q] at h ⊢
    by_cases a : isLo (u (lxF u n e)) = true
    · rw [if_pos a] at h; omega
    · rw [if_neg a] at h ⊢
      by_cases b : isDi (u (lxF u n e)) = true
      · rw [if_pos b] at h ⊢
        by_cases c : rnn isDi u n (lxF u n e) - lxF u n e ≤ 4
        · exact ⟨q, a, b, rfl, c⟩
        · rw [if_neg c] at h; omega
      · rw [if_neg b] at h
        exfalso
        by_cases c : isSg (u (lxF u n e)) = true
        · rw [if_pos c] at h; omega
        · rw [if_neg c] at h; omega
theorem lxV_lt {u : Nat → Nat} {n e : Nat} (h : lxT u n e = 2) : lxV u n e < 10000 := by
  obtain ⟨h1, h2, h3, h4, h5⟩ := lxT_2 h
  have a := nvL_4 (u := u) (lxE u n e - lxF u n e) (lxF u n e) 0 (fun j x y => rnn_all (n := n) x (by have := lxE_gt h1; omega))
  have b : 10 ^ (lxE u n e - lxF u n e) ≤ 10000 := Nat.pow_le_pow_right (n := 10) (by decide) h5
  unfold lxV
  omega
theorem PTk.t {μ : dtM} {c n e : Nat} {B : Nat → Int32} (H : PTk μ c n B e) : TXP μ c n B := H.1
theorem lg0 (a : Int64) : (lg_cmp a (0 : Int64) = (0 : Int32)) = (a = Int64.ofNat 0) := l_eq0 a _
theorem ad60a {c n e : Nat} {B : Nat → Int32} {μ : dtM} (T : TXP μ c n B) (g2 : dtI μ c 2 = Int32.ofNat (lxF (tx B) n e)) : ∃ μ0, f_X8_advance_60 c μ = (if Int32.ofNat (lxF (tx B) n e) < Int32.ofNat n then ((opRv 8 μ0 c).bind fun _ => opCall (f_X8_isRunOf c (97 : Int32) (122 : Int32) μ0) fun x23 μ21 => if x23 = 0 then ((opRv 8 μ21 c).bind fun _ => opCall (f_X8_isRunOf c (48 : Int32) (57 : Int32) μ21) fun x30 μ28 => if x30 = 0 then ((opGI 8 2 μ28 c).bind fun x34 => (opPI 8 3 μ28 c (x34 + (1 : Int32))).bind fun μ36 => (opGR 8 0 μ36 c).bind fun x38 => (opGI 8 2 μ36 c).bind fun x40 => (opLI 2 μ36 x38 x40).bind fun x42 => (opPI 8 5 μ36 c x42).bind fun μ44 => (opGI 8 5 μ44 c).bind fun x46 => if x46 = (59 : Int32) then (f_X8_advance_263 c μ44) else ((opGI 8 5 μ44 c).bind fun x51 => if x51 = (60 : Int32) then (f_X8_advance_263 c μ44) else ((opGI 8 5 μ44 c).bind fun x56 => if x56 = (62 : Int32) then (f_X8_advance_263 c μ44) else ((opGI 8 5 μ44 c).bind fun x61 => if x61 = (61 : Int32) then (f_X8_advance_263 c μ44) else (f_X8_advance_268 c (4 : Int32) μ44))))) else ((opGI 8 3 μ28 c).bind fun x66 => (opGI 8 2 μ28 c).bind fun x68 => if (4 : Int32) < (x66 - x68) then (f_X8_advance_177 c c (4 : Int32) μ28) else (f_X8_advance_177 c c (2 : Int32) μ28))) else ((opPI 8 4 μ21 c (1 : Int32)).bind fun μ73 => (opRv 8 μ73 c).bind fun _ => opCall (f_X8_findKeyword c μ73) fun x78 μ76 => (opPI 8 6 μ76 c x78).bind fun μ79 => (opGI 8 6 μ79 c).bind fun x81 => if x81 = (-1 : Int32) then ((opRv 8 μ79 c).bind fun _ => opCall (f_X8_nameCode c μ79) fun x89 μ87 => f_X8_advance_141 c x89 μ87) else (f_X8_advance_141 c (0 : Int64) μ79))) else (some μ0)) ∧ Fr (Ptk c) μ μ0 ∧ dtI μ0 c 2 = Int32.ofNat (lxF (tx B) n e) ∧ dtI μ0 c 3 = Int32.ofNat (lxF (tx B) n e) ∧ dtI μ0 c 4 = Int32.ofNat 0 ∧ dtI μ0 c 5 = Int32.ofNat 0 ∧ dtI μ0 c 6 = -Int32.ofNat 1 ∧ dtJ μ0 c 7 = Int64.ofNat 0 := by
  have F0 : Fr (Ptk c) μ (dtSJ (dtSI (dtSI (dtSI (dtSI μ c 3 (Int32.ofNat (lxF (tx B) n e))) c 4 (Int32.ofNat 0)) c 5 (Int32.ofNat 0)) c 6 (-Int32.ofNat 1)) c 7 (Int64.ofNat 0)) := ((((Fr.SI (P := Ptk c) ⟨rfl, by decide, by decide⟩).tr (Fr.SI ⟨rfl, by decide, by decide⟩)).tr (Fr.SI ⟨rfl, by decide, by decide⟩)).tr (Fr.SI ⟨rfl, by decide, by decide⟩)).tr (Fr.SJ ⟨rfl, by decide, by decide⟩)
  have sI : ∀ (ν : dtM) (j : Nat) (v : Int32), dtS ν c = (0, 8) → dtS (dtSI ν c j v) c = (0, 8) := fun ν j v x => x
  have S0 := T.1.1
  have S1 := sI μ 3 (Int32.ofNat (lxF (tx B) n e)) S0
  have S2 := sI _ 4 (Int32.ofNat 0) S1
  have S3 := sI _ 5 (Int32.ofNat 0) S2
  have S4 := sI _ 6 (-Int32.ofNat 1) S3
  have T0 := T.tk F0
  refine ⟨_, ?_, F0, ?_, ?_, ?_, ?_, ?_, ?_⟩
  rotate_left
  · rw [m_I_SJ, m_I_SI, if_neg (by omega), m_I_SI, if_neg (by omega), m_I_SI, if_neg (by omega), m_I_SI, if_neg (by omega)]; exact g2
  · rw [m_I_SJ, m_I_SI, if_neg (by omega), m_I_SI, if_neg (by omega), m_I_SI, if_neg (by omega), m_I_SI, if_pos ⟨rfl, rfl⟩]
  · rw [m_I_SJ, m_I_SI, if_neg (by omega), m_I_SI, if_neg (by omega), m_I_SI, if_pos ⟨rfl, rfl⟩]
  · rw [m_I_SJ, m_I_SI, if_neg (by omega), m_I_SI, if_pos ⟨rfl, rfl⟩]
  · rw [m_I_SJ, m_I_SI, if_pos ⟨rfl, rfl⟩]
  · rw [m_J_SJ, if_pos ⟨rfl, rfl⟩]
  · have h2 : opGI 8 2 (dtSJ (dtSI (dtSI (dtSI (dtSI μ c 3 (Int32.ofNat (lxF (tx B) n e))) c 4 (Int32.ofNat 0)) c 5 (Int32.ofNat 0)) c 6 (-Int32.ofNat 1)) c 7 (Int64.ofNat 0)) c = some (Int32.ofNat (lxF (tx B) n e)) := by
      rw [T0.g 2]
      rw [m_I_SJ, m_I_SI, if_neg (by omega), m_I_SI, if_neg (by omega), m_I_SI, if_neg (by omega), m_I_SI, if_neg (by omega), g2]
    rw [f_X8_advance_60, T.g 2, g2, o_bind, o_PI S0, o_bind, show (0 : Int32) = Int32.ofNat 0 from rfl, o_PI S1, o_bind, o_PI S2, o_bind, show (-1 : Int32) = -Int32.ofNat 1 from rfl, o_PI S3, o_bind, show (0 : Int64) = Int64.ofNat 0 from rfl, o_PJ S4, o_bind, h2, o_bind, T0.g1, o_bind]
/-- all but the first letters: what the code does where it begins to look -/
theorem ad60 {c n e : Nat} {B : Nat → Int32} {μ : dtM} (T : TXP μ c n B) (he : e ≤ n) (g2 : dtI μ c 2 = Int32.ofNat (lxF (tx B) n e)) : ∃ μ', f_X8_advance_60 c μ = some μ' ∧ Fr (Ptk c) μ μ' ∧ PTk μ' c n B e := by
  have n9 := T.2.1
  have hF := lxF_le (tx := tx B) he
  obtain ⟨μ0, e0, F0, v2, v3, v4, v5, v6, v7⟩ := ad60a T g2
  have T0 := T.tk F0
  rw [e0]
  by_cases q : n ≤ lxF (tx B) n e
  · have k0 : lxT (tx B) n e = 0 := by rw [lxT_0]; exact q
    have eE : lxE (tx B) n e = lxF (tx B) n e := by unfold lxE; rw [if_pos q]
    have kK : lxK (tx B) n e = none := by unfold lxK; rw [if_neg (by omega)]
    have kN : lxN (tx B) n e = none := by unfold lxN; rw [if_neg (fun x => by omega)]
    refine ⟨μ0, ?_, F0, T0, he, v2, by rw [eE]; exact v3, by rw [k0]; exact v4, fun x => by omega, fun x => by omega, by rw [kK]; exact v6, by unfold lxJ; rw [kN]; exact v7⟩
    rw [if_neg (show ¬ Int32.ofNat (lxF (tx B) n e) < Int32.ofNat n by rw [z_lt (by omega) (by omega)]; omega)]
  · have hFn : lxF (tx B) n e < n := by omega
    have l1 : isLo = inRg 97 122 := rfl
    have l2 : isDi = inRg 48 57 := rfl
    obtain ⟨μ1, e1, F1, g1⟩ := p_run1 (lo := 97) (hi := 122) (by decide) (by decide) (by decide) T0 (show lxF (tx B) n e ≤ n by omega) v2 v3
    rw [← l1] at e1 g1
    have F1x : Fr (Ptk c) μ0 μ1 := F1.wide (fun k j x => ⟨x.1, by omega, by omega⟩)
    have T1 := T0.tk F1x
    rw [if_pos (show Int32.ofNat (lxF (tx B) n e) < Int32.ofNat n by rw [z_lt (by omega) (by omega)]; exact hFn), T0.v, o_bind, show (97 : Int32) = Int32.ofNat 97 from rfl, show (122 : Int32) = Int32.ofNat 122 from rfl, e1, o_call]
    by_cases a : isLo (tx B (lxF (tx B) n e)) = true
    · -- a word
      have hlt : lxF (tx B) n e < rnn isLo (tx B) n (lxF (tx B) n e) := (rn_lo hFn).mpr a
      have k1 : lxT (tx B) n e = 1 := by unfold lxT; rw [if_neg q, if_pos a]
      have eE : lxE (tx B) n e = rnn isLo (tx B) n (lxF (tx B) n e) := by unfold lxE; rw [if_neg q, if_pos a]
      have hE := lxE_le (tx := tx B) he
      have lo : ∀ j, lxF (tx B) n e ≤ j → j < lxE (tx B) n e → isLo (tx B j) = true := fun j x y => rnn_all (n := n) x (by rw [← eE]; exact y)
      have F2 : Fr (Ptk c) μ1 (dtSI μ1 c 4 (Int32.ofNat 1)) := Fr.SI ⟨rfl, by decide, by decide⟩
      have T2 := T1.tk F2
      have w2 : dtI (dtSI μ1 c 4 (Int32.ofNat 1)) c 2 = Int32.ofNat (lxF (tx B) n e) := by rw [m_I_SI, if_neg (by omega), F1.i (by omega)]; exact v2
      have w3 : dtI (dtSI μ1 c 4 (Int32.ofNat 1)) c 3 = Int32.ofNat (lxE (tx B) n e) := by rw [m_I_SI, if_neg (by omega), g1, eE]
      have pk := p_key T2 w2 w3 hE (by omega) lo
      have kK : lxK (tx B) n e = kwGo kwS 0 (wdL (tx B) (lxE (tx B) n e - lxF (tx B) n e) (lxF (tx B) n e)) := by unfold lxK; rw [if_pos k1]; rfl
      rw [← kK] at pk
      have F3 : Fr (Ptk c) (dtSI μ1 c 4 (Int32.ofNat 1)) (dtSI (dtSI μ1 c 4 (Int32.ofNat 1)) c 6 (oN (lxK (tx B) n e))) := Fr.SI ⟨rfl, by decide, by decide⟩
      have T3 := T2.tk F3
      have x2 : dtI (dtSI (dtSI μ1 c 4 (Int32.ofNat 1)) c 6 (oN (lxK (tx B) n e))) c 2 = Int32.ofNat (lxF (tx B) n e) := by rw [m_I_SI, if_neg (by omega)]; exact w2
      have x3 : dtI (dtSI (dtSI μ1 c 4 (Int32.ofNat 1)) c 6 (oN (lxK (tx B) n e))) c 3 = Int32.ofNat (lxE (tx B) n e) := by rw [m_I_SI, if_neg (by omega)]; exact w3
      have x6 : dtI (dtSI (dtSI μ1 c 4 (Int32.ofNat 1)) c 6 (oN (lxK (tx B) n e))) c 6 = oN (lxK (tx B) n e) := by rw [m_I_SI, if_pos ⟨rfl, rfl⟩]
      have x4 : dtI (dtSI (dtSI μ1 c 4 (Int32.ofNat 1)) c 6 (oN (lxK (tx B) n e))) c 4 = Int32.ofNat 1 := by rw [m_I_SI, if_neg (by omega), m_I_SI, if_pos ⟨rfl, rfl⟩]
      have fin : ∀ J : Int64, J = lxJ (tx B) n e → ∃ μ', f_X8_advance_141 c J (dtSI (dtSI μ1 c 4 (Int32.ofNat 1)) c 6 (oN (lxK (tx B) n e))) = some μ' ∧ Fr (Ptk c) μ μ' ∧ PTk μ' c n B e := fun J hJ => by
        have F4 : Fr (Ptk c) (dtSI (dtSI μ1 c 4 (Int32.ofNat 1)) c 6 (oN (lxK (tx B) n e))) (dtSJ (dtSI (dtSI μ1 c 4 (Int32.ofNat 1)) c 6 (oN (lxK (tx B) n e))) c 7 J) := Fr.SJ ⟨rfl, by decide, by decide⟩
        refine ⟨dtSJ (dtSI (dtSI μ1 c 4 (Int32.ofNat 1)) c 6 (oN (lxK (tx B) n e))) c 7 J, ?_, (((F0.tr F1x).tr F2).tr F3).tr F4, T3.tk F4, he, x2, x3, by rw [k1]; exact x4, fun x => by omega, fun x => by omega, x6, by rw [m_J_SJ, if_pos ⟨rfl, rfl⟩]; exact hJ⟩
        rw [f_X8_advance_141, o_PJ T3.1.1, o_bind, f_X8_advance_271]
      rw [decide_eq_true hlt, if_neg (by decide), show (1 : Int32) = Int32.ofNat 1 from rfl, o_PI T1.1.1, o_bind, T2.v, o_bind, pk, o_call, o_PI T2.1.1, o_bind, T3.g 6, x6, o_bind]
      cases hk : lxK (tx B) n e with
      | some k =>
        have := lxK_lt hk
        have hn : lxN (tx B) n e = none := by unfold lxN; rw [if_neg (fun x => by rw [hk] at x; cases x.2.1)]
        rw [hk] at fin
        rw [if_neg (show ¬ oN (some k) = -Int32.ofNat 1 by
          show ¬ Int32.ofNat k = -Int32.ofNat 1
          rw [z_neg (by omega)]; exact id)]
        exact fin _ (by unfold lxJ; rw [hn]; rfl)
      | none =>
        rw [hk] at fin T3 x2 x3
        rw [if_pos (show oN none = -Int32.ofNat 1 from rfl), T3.v, o_bind, f_X8_nameCode, T3.g 3, x3, o_bind, T3.g 2, x2, o_bind, z_sub (by omega)]
        by_cases l8 : lxE (tx B) n e - lxF (tx B) n e ≤ 8
        · have hn : lxN (tx B) n e = some (lxW (tx B) n e) := by unfold lxN; rw [if_pos ⟨k1, hk, l8⟩]
          have nc := nc23 T3 hE x3 (lxE (tx B) n e - lxF (tx B) n e) dtFuel (lxF (tx B) n e) (Int64.ofNat 0) (by omega) (dtFuel_gt (by omega)) lo
          rw [if_pos (show Int32.ofNat (lxE (tx B) n e - lxF (tx B) n e) ≤ (8 : Int32) by rw [show (8 : Int32) = Int32.ofNat 8 from rfl, z_le (by omega) (by decide)]; exact l8), o_bind, show (0 : Int64) = Int64.ofNat 0 from rfl, nc, o_call]
          exact fin _ (by unfold lxJ; rw [hn]; rfl)
        · have hn : lxN (tx B) n e = none := by unfold lxN; rw [if_neg (fun x => l8 x.2.2)]
          rw [if_neg (show ¬ Int32.ofNat (lxE (tx B) n e - lxF (tx B) n e) ≤ (8 : Int32) by rw [show (8 : Int32) = Int32.ofNat 8 from rfl, z_le (by omega) (by decide)]; exact l8), o_call]
          exact fin _ (by unfold lxJ; rw [hn]; rfl)
    · -- no word
      have k1 : ¬ lxT (tx B) n e = 1 := fun x => a (lxT_1 x).2.1
      have kK : lxK (tx B) n e = none := by unfold lxK; rw [if_neg k1]
      have kN : lxN (tx B) n e = none := by unfold lxN; rw [if_neg (fun x => k1 x.1)]
      have kJ : lxJ (tx B) n e = Int64.ofNat 0 := by unfold lxJ; rw [kN]
      have rl : rnn isLo (tx B) n (lxF (tx B) n e) = lxF (tx B) n e := rnn_out (fun x => a x.2)
      rw [rl] at g1
      have y2 : dtI μ1 c 2 = Int32.ofNat (lxF (tx B) n e) := by rw [F1.i (by omega)]; exact v2
      have y6 : dtI μ1 c 6 = -Int32.ofNat 1 := by rw [F1.i (by omega)]; exact v6
      have y7 : dtJ μ1 c 7 = Int64.ofNat 0 := by rw [F1.j (by omega)]; exact v7
      obtain ⟨μ2, e2, F2, g3⟩ := p_run1 (lo := 48) (hi := 57) (by decide) (by decide) (by decide) T1 (show lxF (tx B) n e ≤ n by omega) y2 g1
      rw [← l2] at e2 g3
      have F2x : Fr (Ptk c) μ1 μ2 := F2.wide (fun k j x => ⟨x.1, by omega, by omega⟩)
      have T2 := T1.tk F2x
      have u2 : dtI μ2 c 2 = Int32.ofNat (lxF (tx B) n e) := by rw [F2.i (by omega)]; exact y2
      have u6 : dtI μ2 c 6 = -Int32.ofNat 1 := by rw [F2.i (by omega)]; exact y6
      have u7 : dtJ μ2 c 7 = Int64.ofNat 0 := by rw [F2.j (by omega)]; exact y7
      rw [rl, decide_eq_false (Nat.lt_irrefl _), if_pos (by decide), T1.v, o_bind, show (48 : Int32) = Int32.ofNat 48 from rfl, show (57 : Int32) = Int32.ofNat 57 from rfl, e2, o_call]
      by_cases b : isDi (tx B (lxF (tx B) n e)) = true
      · have hlt : lxF (tx B) n e < rnn isDi (tx B) n (lxF (tx B) n e) := (rn_di hFn).mpr b
        have eE : lxE (tx B) n e = rnn isDi (tx B) n (lxF (tx B) n e) := by unfold lxE; rw [if_neg q, if_neg a, if_pos b]
        have hE := lxE_le (tx := tx B) he
        rw [← eE] at hlt g3
        have di : ∀ j, lxF (tx B) n e ≤ j → j < lxE (tx B) n e → isDi (tx B j) = true := fun j x y => rnn_all (n := n) x (by rw [← eE]; exact y)
        rw [← eE, decide_eq_true hlt, if_neg (by decide), T2.g 3, g3, o_bind, T2.g 2, u2, o_bind, z_sub (by omega)]
        have fin : ∀ (ν : dtM) (k : Nat) (v : Int32), Fr (Ptk c) μ2 ν → dtI ν c 2 = Int32.ofNat (lxF (tx B) n e) → dtI ν c 3 = Int32.ofNat (lxE (tx B) n e) → dtI ν c 4 = Int32.ofNat k → dtI ν c 6 = -Int32.ofNat 1 → dtJ ν c 7 = Int64.ofNat 0 → lxT (tx B) n e = k → (k = 2 → v = Int32.ofNat (lxV (tx B) n e)) → ∃ μ', f_X8_advance_197 c v ν = some μ' ∧ Fr (Ptk c) μ μ' ∧ PTk μ' c n B e := fun ν k v Fν a2 a3 a4 a6 a7 ek hv => by
          have Tν := T2.tk Fν
          have F4 : Fr (Ptk c) ν (dtSI ν c 5 v) := Fr.SI ⟨rfl, by decide, by decide⟩
          refine ⟨dtSI ν c 5 v, ?_, (((F0.tr F1x).tr F2x).tr Fν).tr F4, Tν.tk F4, he, by rw [m_I_SI, if_neg (by omega)]; exact a2, by rw [m_I_SI, if_neg (by omega)]; exact a3, by rw [m_I_SI, if_neg (by omega), ek]; exact a4, fun x => by rw [m_I_SI, if_pos ⟨rfl, rfl⟩]; exact hv (by omega), fun x => ?_, by rw [m_I_SI, if_neg (by omega), kK]; exact a6, by rw [kJ]; exact a7⟩
          · rw [f_X8_advance_197, o_PI Tν.1.1, o_bind, f_X8_advance_271]
          · exfalso
            unfold lxT at x
            rw [if_neg q, if_neg a, if_pos b] at x
            by_cases c4 : rnn isDi (tx B) n (lxF (tx B) n e) - lxF (tx B) n e ≤ 4
            · rw [if_pos c4] at x; omega
            · rw [if_neg c4] at x; omega
        by_cases c4 : lxE (tx B) n e - lxF (tx B) n e ≤ 4
        · have k2 : lxT (tx B) n e = 2 := by unfold lxT; rw [if_neg q, if_neg a, if_pos b, ← eE, if_pos c4]
          have F3 : Fr (Ptk c) μ2 (dtSI μ2 c 4 (Int32.ofNat 2)) := Fr.SI ⟨rfl, by decide, by decide⟩
          have T3 := T2.tk F3
          have z3 : dtI (dtSI μ2 c 4 (Int32.ofNat 2)) c 3 = Int32.ofNat (lxE (tx B) n e) := by rw [m_I_SI, if_neg (by omega)]; exact g3
          have z2 : dtI (dtSI μ2 c 4 (Int32.ofNat 2)) c 2 = Int32.ofNat (lxF (tx B) n e) := by rw [m_I_SI, if_neg (by omega)]; exact u2
          have nv := nv7 T3 hE z3 (lxE (tx B) n e - lxF (tx B) n e) dtFuel (lxF (tx B) n e) 0 (by omega) (dtFuel_gt (by omega)) di
          rw [if_neg (show ¬ (4 : Int32) < Int32.ofNat (lxE (tx B) n e - lxF (tx B) n e) by rw [show (4 : Int32) = Int32.ofNat 4 from rfl, z_lt (by decide) (by omega)]; omega), f_X8_advance_177, show (2 : Int32) = Int32.ofNat 2 from rfl, o_PI T2.1.1, o_bind, T3.g 4, m_I_SI, if_pos ⟨rfl, rfl⟩, o_bind, if_pos rfl, T3.v, o_bind, f_X8_numberValue, T3.g 2, z2, o_bind, show (0 : Int32) = Int32.ofNat 0 from rfl, nv, o_call]
          exact fin _ 2 _ F3 z2 z3 (by rw [m_I_SI, if_pos ⟨rfl, rfl⟩]) (by rw [m_I_SI, if_neg (by omega)]; exact u6) u7 k2 (fun _ => rfl)
        · have k4 : lxT (tx B) n e = 4 := by unfold lxT; rw [if_neg q, if_neg a, if_pos b, ← eE, if_neg c4]
          have F3 : Fr (Ptk c) μ2 (dtSI μ2 c 4 (Int32.ofNat 4)) := Fr.SI ⟨rfl, by decide, by decide⟩
          have T3 := T2.tk F3
          rw [if_pos (show (4 : Int32) < Int32.ofNat (lxE (tx B) n e - lxF (tx B) n e) by rw [show (4 : Int32) = Int32.ofNat 4 from rfl, z_lt (by decide) (by omega)]; omega), f_X8_advance_177, show (4 : Int32) = Int32.ofNat 4 from rfl, o_PI T2.1.1, o_bind, T3.g 4, m_I_SI, if_pos ⟨rfl, rfl⟩, o_bind, if_neg (by decide)]
          exact fin _ 4 _ F3 (by rw [m_I_SI, if_neg (by omega)]; exact u2) (by rw [m_I_SI, if_neg (by omega)]; exact g3) (by rw [m_I_SI, if_pos ⟨rfl, rfl⟩]) (by rw [m_I_SI, if_neg (by omega)]; exact u6) u7 k4 (fun x => by omega)
      · have rd : rnn isDi (tx B) n (lxF (tx B) n e) = lxF (tx B) n e := rnn_out (fun x => b x.2)
        have eE : lxE (tx B) n e = lxF (tx B) n e + 1 := by unfold lxE; rw [if_neg q, if_neg a, if_neg b]
        rw [rd] at g3
        have F3 : Fr (Ptk c) μ2 (dtSI μ2 c 3 (Int32.ofNat (lxF (tx B) n e + 1))) := Fr.SI ⟨rfl, by decide, by decide⟩
        have T3 := T2.tk F3
        have z2 : dtI (dtSI μ2 c 3 (Int32.ofNat (lxF (tx B) n e + 1))) c 2 = Int32.ofNat (lxF (tx B) n e) := by rw [m_I_SI, if_neg (by omega)]; exact u2
        have F4 : Fr (Ptk c) (dtSI μ2 c 3 (Int32.ofNat (lxF (tx B) n e + 1))) (dtSI (dtSI μ2 c 3 (Int32.ofNat (lxF (tx B) n e + 1))) c 5 (B (lxF (tx B) n e))) := Fr.SI ⟨rfl, by decide, by decide⟩
        have T4 := T3.tk F4
        have w5 : dtI (dtSI (dtSI μ2 c 3 (Int32.ofNat (lxF (tx B) n e + 1))) c 5 (B (lxF (tx B) n e))) c 5 = B (lxF (tx B) n e) := by rw [m_I_SI, if_pos ⟨rfl, rfl⟩]
        have isb := T.b hFn
        have sg : ∀ v, v < 128 → (B (lxF (tx B) n e) = Int32.ofNat v) = (tx B (lxF (tx B) n e) = v) := fun v hv => isB_eq isb hv
        rw [rd, decide_eq_false (Nat.lt_irrefl _), if_pos (by decide), T2.g 2, u2, o_bind, show (1 : Int32) = Int32.ofNat 1 from rfl, z_add, o_PI T2.1.1, o_bind, T3.r0, o_bind, T3.g 2, z2, o_bind, T3.l hFn, o_bind, o_PI T3.1.1, o_bind, T4.g 5, w5, o_bind, o_bind, o_bind, o_bind]
        have fin : ∀ k, lxT (tx B) n e = k → (k = 3 ∨ k = 4) → (k = 3 → B (lxF (tx B) n e) = Int32.ofNat (tx B (lxF (tx B) n e))) → ∃ μ', f_X8_advance_268 c (Int32.ofNat k) (dtSI (dtSI μ2 c 3 (Int32.ofNat (lxF (tx B) n e + 1))) c 5 (B (lxF (tx B) n e))) = some μ' ∧ Fr (Ptk c) μ μ' ∧ PTk μ' c n B e := fun k ek hk hv => by
          have F5 : Fr (Ptk c) (dtSI (dtSI μ2 c 3 (Int32.ofNat (lxF (tx B) n e + 1))) c 5 (B (lxF (tx B) n e))) (dtSI (dtSI (dtSI μ2 c 3 (Int32.ofNat (lxF (tx B) n e + 1))) c 5 (B (lxF (tx B) n e))) c 4 (Int32.ofNat k)) := Fr.SI ⟨rfl, by decide, by decide⟩
          refine ⟨_, ?_, ((((F0.tr F1x).tr F2x).tr F3).tr F4).tr F5, T4.tk F5, he, by rw [m_I_SI, if_neg (by omega), m_I_SI, if_neg (by omega)]; exact z2, by rw [m_I_SI, if_neg (by omega), m_I_SI, if_neg (by omega), m_I_SI, if_pos ⟨rfl, rfl⟩, eE], by rw [m_I_SI, if_pos ⟨rfl, rfl⟩, ek], fun x => by omega, fun x => by rw [m_I_SI, if_neg (by omega), w5]; exact hv (by omega), by rw [m_I_SI, if_neg (by omega), m_I_SI, if_neg (by omega), m_I_SI, if_neg (by omega), kK]; exact u6, by rw [kJ]; exact u7⟩
          rw [f_X8_advance_268, o_PI T4.1.1, o_bind, f_X8_advance_271]
        have fin3 : isSg (tx B (lxF (tx B) n e)) = true → tx B (lxF (tx B) n e) < 128 → ∃ μ', f_X8_advance_263 c (dtSI (dtSI μ2 c 3 (Int32.ofNat (lxF (tx B) n e + 1))) c 5 (B (lxF (tx B) n e))) = some μ' ∧ Fr (Ptk c) μ μ' ∧ PTk μ' c n B e := fun hs h128 => by
          have k3 : lxT (tx B) n e = 3 := by unfold lxT; rw [if_neg q, if_neg a, if_neg b, if_pos hs]
          rw [f_X8_advance_263]
          exact fin 3 k3 (Or.inl rfl) (fun _ => isB_lo isb h128)
        have s59 : (B (lxF (tx B) n e) = (59 : Int32)) = (tx B (lxF (tx B) n e) = 59) := sg 59 (by decide)
        have s60 : (B (lxF (tx B) n e) = (60 : Int32)) = (tx B (lxF (tx B) n e) = 60) := sg 60 (by decide)
        have s62 : (B (lxF (tx B) n e) = (62 : Int32)) = (tx B (lxF (tx B) n e) = 62) := sg 62 (by decide)
        have s61 : (B (lxF (tx B) n e) = (61 : Int32)) = (tx B (lxF (tx B) n e) = 61) := sg 61 (by decide)
        by_cases t59 : tx B (lxF (tx B) n e) = 59
        · rw [if_pos (s59 ▸ t59)]
          exact fin3 (by unfold isSg; rw [decide_eq_true t59]; rfl) (by omega)
        · rw [if_neg (fun x => t59 (s59 ▸ x))]
          by_cases t60 : tx B (lxF (tx B) n e) = 60
          · rw [if_pos (s60 ▸ t60)]
            exact fin3 (by rw [t60]; rfl) (by omega)
          · rw [if_neg (fun x => t60 (s60 ▸ x))]
            by_cases t62 : tx B (lxF (tx B) n e) = 62
            · rw [if_pos (s62 ▸ t62)]
              exact fin3 (by rw [t62]; rfl) (by omega)
            · rw [if_neg (fun x => t62 (s62 ▸ x))]
              by_cases t61 : tx B (lxF (tx B) n e) = 61
              · rw [if_pos (s61 ▸ t61)]
                exact fin3 (by rw [t61]; rfl) (by omega)
              · rw [if_neg (fun x => t61 (s61 ▸ x))]
                have k4 : lxT (tx B) n e = 4 := by
                  unfold lxT
                  rw [if_neg q, if_neg a, if_neg b, if_neg]
                  unfold isSg
                  rw [decide_eq_false t59, decide_eq_false t60, decide_eq_false t62, decide_eq_false t61]; decide
                exact fin 4 k4 (Or.inr rfl) (fun x => by omega)
theorem p_adv {c n e : Nat} {B : Nat → Int32} {μ : dtM} (T : TXP μ c n B) (he : e ≤ n) (g3 : dtI μ c 3 = Int32.ofNat e) : ∃ μ', f_X8_advance c μ = some μ' ∧ Fr (Ptk c) μ μ' ∧ PTk μ' c n B e := by
  have n9 := T.2.1
  have F1 : Fr (Ptk c) μ (dtSI μ c 2 (Int32.ofNat e)) := Fr.SI ⟨rfl, by decide, by decide⟩
  obtain ⟨μ2, e2, F2, g2⟩ := ad8 (n - e) dtFuel e _ (by omega) (dtFuel_gt (by omega)) (T.tk F1) (by rw [m_I_SI, if_pos ⟨rfl, rfl⟩])
  obtain ⟨μ3, e3, F3, H3⟩ := ad60 ((T.tk F1).tk F2) he g2
  refine ⟨μ3, ?_, (F1.tr F2).tr F3, H3⟩
  rw [f_X8_advance, T.g 3, g3, o_bind, o_PI T.1.1, o_bind, e2, e3]
theorem PTk.adv {c n e : Nat} {B : Nat → Int32} {μ : dtM} (H : PTk μ c n B e) : ∃ μ', f_X8_advance c μ = some μ' ∧ Fr (Ptk c) μ μ' ∧ PTk μ' c n B (lxE (tx B) n e) := p_adv H.1 (lxE_le H.2.1) H.2.2.2.1
