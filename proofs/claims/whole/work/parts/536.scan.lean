/-! PURE 76: the model's search for a doubt; doubt, doubtAt -/
def dg (n c j : Nat) : Nat := c / 4 ^ (n - 1 - j) % 4
theorem dg_lt {n c j : Nat} : dg n c j < 4 := Nat.mod_lt _ (by decide)
def scN (A : aH) (kn n : Nat) : Nat → Nat → Option (Nat → Nat)
  | 0, _ => none
  | m + 1, c => if 1 < rc A kn (dg n c) n 0 then some (dg n c) else scN A kn n m (c + 1)
def eqO (n : Nat) (a b : Option (Nat → Nat)) : Prop := (a = none ∧ b = none) ∨ ∃ x y, a = some x ∧ b = some y ∧ ∀ j, j < n → x j = y j
theorem scN_add {A : aH} {kn n : Nat} : ∀ (a b c : Nat), scN A kn n (a + b) c = match scN A kn n a c with
    | some x => some x
    | none => scN A kn n b (c + a)
  | 0, b, c => by rw [Nat.zero_add, scN, Nat.add_zero]
  | a + 1, b, c => by
    rw [show a + 1 + b = (a + b) + 1 by omega, scN, scN]
    by_cases q : 1 < rc A kn (dg n c) n 0
    · rw [if_pos q, if_pos q]
    · rw [if_neg q, if_neg q, scN_add a b (c + 1), show c + 1 + a = c + (a + 1) by omega]
theorem p4s (e : Nat) : 4 ^ (e + 1) = 4 * 4 ^ e := by rw [Nat.pow_succ, Nat.mul_comm]
theorem sc_fs {A : aH} {kn n : Nat} : ∀ (r a p : Nat) (row : Nat → Nat), a + r = n → (∀ j, j < a → row j = p / 4 ^ (a - 1 - j) % 4) → eqO n (scN A kn n (4 ^ r) (p * 4 ^ r)) (fsR A kn n r a row)
  | 0, a, p, row, e, h => by
    rw [Nat.pow_zero, Nat.mul_one, scN, scN, fsR]
    have x : ∀ j, j < n → dg n p j = row j := fun j hj => by
      unfold dg
      rw [h j (by omega), show n - 1 - j = a - 1 - j by omega]
    have er : rc A kn (dg n p) n = rc A kn row n := rc_cg x
    rw [er]
    by_cases q : 1 < rc A kn row n 0
    · rw [if_pos q, if_pos q]
      exact Or.inr ⟨_, _, rfl, rfl, x⟩
    · rw [if_neg q, if_neg q]
      exact Or.inl ⟨rfl, rfl⟩
  | r + 1, a, p, row, e, h => by
    rw [fsR]
    have blk : ∀ (m s : Nat), s + m = 4 → eqO n (scN A kn n (m * 4 ^ r) ((4 * p + s) * 4 ^ r)) (fsL (fun s => fsR A kn n r (a + 1) (dtUp row a s)) m s) := by
      intro m
      induction m with
      | zero =>
        intro s es
        rw [Nat.zero_mul, scN, fsL]
        exact Or.inl ⟨rfl, rfl⟩
      | succ m ih =>
        intro s es
        have one := sc_fs (A := A) (kn := kn) (n := n) r (a + 1) (4 * p + s) (dtUp row a s) (by omega) (fun j hj => by
          unfold dtUp
          by_cases q : j = a
          · rw [if_pos q, q, show a + 1 - 1 - a = 0 by omega, Nat.pow_zero, Nat.div_one]; omega
          · rw [if_neg q, h j (by omega), show a + 1 - 1 - j = (a - 1 - j) + 1 by omega, p4s, ← Nat.div_div_eq_div_mul, show (4 * p + s) / 4 = p by omega])
        have nx := ih (s + 1) (by omega)
        rw [show (m + 1) * 4 ^ r = 4 ^ r + m * 4 ^ r by rw [Nat.succ_mul]; omega, scN_add, fsL]
        rw [show (4 * p + s) * 4 ^ r + 4 ^ r = (4 * p + (s + 1)) * 4 ^ r by rw [← Nat.succ_mul]; rfl]
        rcases one with ⟨o1, o2⟩ | ⟨x, y, o1, o2, o3⟩
        · rw [o1, o2]; exact nx
        · rw [o1, o2]; exact Or.inr ⟨x, y, rfl, rfl, o3⟩
    have := blk 4 0 (by omega)
    rw [← p4s r, show (4 * p + 0) * 4 ^ r = p * 4 ^ (r + 1) by rw [Nat.add_zero, p4s, Nat.mul_comm 4 p, Nat.mul_assoc]] at this
    exact this
theorem sc_all {A : aH} {kn n : Nat} : eqO n (scN A kn n (4 ^ n) 0) (fsR A kn n n 0 (fun _ => 0)) := by
  have := sc_fs (A := A) (kn := kn) (n := n) n 0 0 (fun _ => 0) (by omega) (fun j hj => absurd hj (Nat.not_lt_zero _))
  rw [Nat.zero_mul] at this
  exact this
def sdR (A : aH) (kn : Nat) : Nat → Nat → Option (Nat × (Nat → Nat))
  | 0, _ => none
  | m + 1, n => match scN A kn n (4 ^ n) 0 with
    | some x => some (n, x)
    | none => sdR A kn m (n + 1)
theorem sd_fd {A : aH} {kn : Nat} : ∀ (m n : Nat), (sdR A kn m n = none ∧ fdR A kn m n = none) ∨ ∃ k x y, sdR A kn m n = some (k, x) ∧ fdR A kn m n = some (k, y) ∧ (∀ j, j < k → x j = y j ∧ y j < 4) ∧ k < n + m
  | 0, _ => Or.inl ⟨rfl, rfl⟩
  | m + 1, n => by
    rw [sdR, fdR]
    rcases sc_all (A := A) (kn := kn) (n := n) with ⟨o1, o2⟩ | ⟨x, y, o1, o2, o3⟩
    · rw [o1, o2]
      rcases sd_fd m (n + 1) with ⟨p1, p2⟩ | ⟨k, x, y, p1, p2, p3, p4⟩
      · exact Or.inl ⟨p1, p2⟩
      · exact Or.inr ⟨k, x, y, p1, p2, p3, by omega⟩
    · rw [o1, o2]
      have := (fsR_some n 0 _ y o2).2.1
      exact Or.inr ⟨n, x, y, rfl, rfl, fun j hj => ⟨o3 j hj, this j (Nat.zero_le _) (by omega)⟩, by omega⟩
theorem ld37 {A : aH} {z : aZ} (W : dWF A (zD z)) {p n its all : Nat} (hp : p < hs A 3) (hn : n ≤ 7) (hi : its < 2147483648) (k4 : Nat → Int32 → Int32 → Int32 → dtM → Option (Int32 × dtM)) (k22 : Nat → Int32 → Int32 → Int32 → Int32 → dtM → Option (Int32 × dtM)) : ∀ (k f : Nat) (μ : dtM) (fr : aF), k ≤ n → k < f → RM μ fr A z → dtI μ 133 27 = Int32.ofNat n → (∀ j, k ≤ j → j < n → dtI μ 143 j = Int32.ofNat (dg n its j)) → ∃ μ', f_X12_laysDoubt_37 k4 k22 f 133 (Int32.ofNat p) (Int32.ofNat all) (Int32.ofNat n) (Int32.ofNat its) (Int32.ofNat (its / 4 ^ (n - k))) (zP k) μ = (if 1 < rc A (ht A 10 p) (dg n its) n 0 then some (bI true, μ') else k22 133 (Int32.ofNat p) (Int32.ofNat all) (Int32.ofNat n) (Int32.ofNat (its + 1)) μ') ∧ Fr ScM μ μ' ∧ LV μ' 143 n (dg n its) ∧ dtI μ' 133 27 = Int32.ofNat n := by
  intro k
  induction k with
  | zero =>
    intro f μ fr hk hf R h27 L
    have C := R.c
    have M := R.mh
    have hnw := M.nw
    have h10 := (M.pers hp).2.2.1
    have h2 : 2 ^ hs A 2 ≤ 128 := Nat.pow_le_pow_right (n := 2) (by decide) hnw
    have Rw : mRw μ n (dg n its) := ⟨by omega, fun j _ => dg_lt, h27, fun j hj => L j (Nat.zero_le _) hj⟩
    obtain ⟨μ1, e1, F1, _⟩ := M.laysReadings C (kn := ht A 10 p) (by omega) Rw
    have C1 := C.kept F1
    have p2 : f_X12_personOf 133 (Int32.ofNat p) (2 : Int32) μ = some (Int32.ofNat (ht A 10 p), μ) := M.personOf (k := 2) (by decide) hp
    have r8 := rc_8 M.2.2 (kn := ht A 10 p) (m := n) (row := dg n its) (by omega) (Nat.zero_le _)
    cases f with
    | zero => omega
    | succ f =>
      refine ⟨μ1, ?_, F1.wide (fun _ _ x => P144.s x), fun j hj => by rw [F1.i (show ¬ 143 = 144 by decide)]; exact L j (Nat.zero_le _) hj, by rw [F1.i (show ¬ 133 = 144 by decide)]; exact h27⟩
      rw [f_X12_laysDoubt_37, if_pos (show zP 0 < (0 : Int32) by decide), C.v133, o_bind, p2, o_call, C.v133, o_bind, e1, o_call]
      by_cases q : 1 < rc A (ht A 10 p) (dg n its) n 0
      · rw [if_pos q, if_neg (show ¬ Int32.ofNat (rc A (ht A 10 p) (dg n its) n 0) ≤ (1 : Int32) by rw [show (1 : Int32) = Int32.ofNat 1 from rfl, z_le (by omega) (by decide)]; omega), show (1 : Int32) = Int32.ofNat 1 from rfl, o_ret1']
      · rw [if_neg q, if_pos (show Int32.ofNat (rc A (ht A 10 p) (dg n its) n 0) ≤ (1 : Int32) by rw [show (1 : Int32) = Int32.ofNat 1 from rfl, z_le (by omega) (by decide)]; omega), show (1 : Int32) = Int32.ofNat 1 from rfl, z_add]
  | succ k ih =>
    intro f μ fr hk hf R h27 L
    have C := R.c
    cases f with
    | zero => omega
    | succ f =>
      have F1 : Fr ScM μ (dtSI μ 143 k (Int32.ofNat (dg n its k))) := Fr.SI (Pmw.s (Or.inr rfl))
      obtain ⟨μ2, e2, F2, L2, m2⟩ := ih f _ _ (by omega) (by omega) (R.scF W F1) (by rw [m_I_SI, if_neg (by omega)]; exact h27) (fun j h1 h2 => by
        rw [m_I_SI]
        by_cases q : j = k
        · rw [if_pos ⟨rfl, q⟩, q]
        · rw [if_neg (fun x => q x.2)]; exact L j (by omega) h2)
      refine ⟨μ2, ?_, F1.tr F2, L2, m2⟩
      have hd : its / 4 ^ (n - (k + 1)) ≤ its := Nat.div_le_self _ _
      have ed : its / 4 ^ (n - (k + 1)) / 4 = its / 4 ^ (n - k) := by rw [Nat.div_div_eq_div_mul, show n - k = n - (k + 1) + 1 by omega, Nat.pow_succ]
      have eg : its / 4 ^ (n - (k + 1)) % 4 = dg n its k := by
        unfold dg
        rw [show n - 1 - k = n - (k + 1) by omega]
      rw [← e2, f_X12_laysDoubt_37, zP_s, if_neg (show ¬ Int32.ofNat k < 0 by rw [show (0 : Int32) = Int32.ofNat 0 from rfl, z_lt0 (by omega)]; exact id), C.g133_25, o_bind, show (4 : Int32) = Int32.ofNat 4 from rfl, z_rem (by omega) (by decide), o_bind, eg, o_SI C.s143 (show k < 24 by omega) (by decide), o_bind, z_div (by omega) (by decide), o_bind, ed, show (-1 : Int32) = -Int32.ofNat 1 from rfl, z_dec]
theorem ld22 {A : aH} {z : aZ} (W : dWF A (zD z)) {p n : Nat} (hp : p < hs A 3) (hn : n ≤ 7) (h1 : 1 ≤ n) (k4 : Nat → Int32 → Int32 → Int32 → dtM → Option (Int32 × dtM)) : ∀ (m f c : Nat) (μ : dtM) (fr : aF), c + m = 4 ^ n → m < f → RM μ fr A z → dtI μ 133 27 = Int32.ofNat n → ∃ μ', f_X12_laysDoubt_22 k4 f 133 (Int32.ofNat p) (Int32.ofNat (4 ^ n)) (Int32.ofNat n) (Int32.ofNat c) μ = (match scN A (ht A 10 p) n m c with
    | some _ => some (bI true, μ')
    | none => k4 133 (Int32.ofNat p) (Int32.ofNat (4 ^ n)) (Int32.ofNat (n + 1)) μ') ∧ Fr ScM μ μ' ∧ ∀ x, scN A (ht A 10 p) n m c = some x → LV μ' 143 n x ∧ dtI μ' 133 27 = Int32.ofNat n := by
  have h4 : 4 ^ n ≤ 16384 := Nat.pow_le_pow_right (n := 4) (by decide) hn
  intro m
  induction m with
  | zero =>
    intro f c μ fr e hf R h27
    cases f with
    | zero => omega
    | succ f =>
      refine ⟨μ, ?_, Fr.rf, fun x hx => by cases hx⟩
      rw [f_X12_laysDoubt_22, if_pos (show Int32.ofNat (4 ^ n) ≤ Int32.ofNat c by rw [z_le (by omega) (by omega)]; omega), show (1 : Int32) = Int32.ofNat 1 from rfl, z_add, scN]
  | succ m ih =>
    intro f c μ fr e hf R h27
    cases f with
    | zero => omega
    | succ f =>
      obtain ⟨μ1, e1, F1, L1, m1⟩ := ld37 W (its := c) (all := 4 ^ n) hp hn (by omega) k4 (f_X12_laysDoubt_22 k4 f) n dtFuel μ fr (Nat.le_refl _) (dtFuel_gt (by omega)) R h27 (fun j a b => by omega)
      rw [Nat.sub_self, Nat.pow_zero, Nat.div_one] at e1
      rw [f_X12_laysDoubt_22, if_neg (show ¬ Int32.ofNat (4 ^ n) ≤ Int32.ofNat c by rw [z_le (by omega) (by omega)]; omega), show (1 : Int32) = Int32.ofNat 1 from rfl, z_dec', o_bind, e1, scN]
      by_cases q : 1 < rc A (ht A 10 p) (dg n c) n 0
      · refine ⟨μ1, ?_, F1, fun x hx => ?_⟩
        · rw [if_pos q, if_pos q]
        · rw [if_pos q] at hx
          have : dg n c = x := Option.some.inj hx
          subst this
          exact ⟨L1, m1⟩
      · obtain ⟨μ2, e2, F2, x2⟩ := ih f (c + 1) μ1 _ (by omega) (by omega) (R.scF W F1) m1
        refine ⟨μ2, ?_, F1.tr F2, fun x hx => ?_⟩
        · rw [if_neg q, if_neg q, e2]
        · rw [if_neg q] at hx; exact x2 x hx
theorem ld4 {A : aH} {z : aZ} (W : dWF A (zD z)) {p : Nat} (hp : p < hs A 3) : ∀ (m f n : Nat) (μ : dtM) (fr : aF), n + m = 8 → 1 ≤ n → m < f → RM μ fr A z → ∃ μ', f_X12_laysDoubt_4 f 133 (Int32.ofNat p) (Int32.ofNat (4 ^ (n - 1))) (Int32.ofNat n) μ = some (bI (sdR A (ht A 10 p) m n).isSome, μ') ∧ Fr ScM μ μ' ∧ ∀ x, sdR A (ht A 10 p) m n = some x → LV μ' 143 x.1 x.2 ∧ dtI μ' 133 27 = Int32.ofNat x.1 := by
  intro m
  induction m with
  | zero =>
    intro f n μ fr e h1 hf R
    cases f with
    | zero => omega
    | succ f =>
      refine ⟨μ, ?_, Fr.rf, fun x hx => by cases hx⟩
      rw [f_X12_laysDoubt_4, if_pos (show (7 : Int32) < Int32.ofNat n by rw [show (7 : Int32) = Int32.ofNat 7 from rfl, z_lt (by decide) (by omega)]; omega), show (0 : Int32) = Int32.ofNat 0 from rfl, o_ret0']; rfl
  | succ m ih =>
    intro f n μ fr e h1 hf R
    cases f with
    | zero => omega
    | succ f =>
      have C := R.c
      have h4 : 4 ^ n ≤ 16384 := Nat.pow_le_pow_right (n := 4) (by decide) (show n ≤ 7 by omega)
      have F1 : Fr ScM μ (dtSI μ 133 27 (Int32.ofNat n)) := Fr.SI (Pmw.s (Or.inl ⟨rfl, rfl⟩))
      obtain ⟨μ2, e2, F2, x2⟩ := ld22 W hp (show n ≤ 7 by omega) h1 (f_X12_laysDoubt_4 f) (4 ^ n) dtFuel 0 _ _ (by omega) (dtFuel_gt (by omega)) (R.scF W F1) (by rw [m_I_SI, if_pos ⟨rfl, rfl⟩])
      have ep : 4 ^ (n - 1) * 4 = 4 ^ n := by
        have y : 4 ^ (n - 1 + 1) = 4 ^ (n - 1) * 4 := Nat.pow_succ 4 (n - 1)
        rw [show n - 1 + 1 = n by omega] at y
        exact y.symm
      rw [f_X12_laysDoubt_4, if_neg (show ¬ (7 : Int32) < Int32.ofNat n by rw [show (7 : Int32) = Int32.ofNat 7 from rfl, z_lt (by decide) (by omega)]; omega), show (4 : Int32) = Int32.ofNat 4 from rfl, z_mul, ep, o_bind, o_PI C.s133, o_bind, show (0 : Int32) = Int32.ofNat 0 from rfl, e2, sdR]
      cases hsc : scN A (ht A 10 p) n (4 ^ n) 0 with
      | some y =>
        refine ⟨μ2, rfl, F1.tr F2, fun x hx => ?_⟩
        have : (n, y) = x := Option.some.inj hx
        subst this
        exact x2 y hsc
      | none =>
        obtain ⟨μ3, e3, F3, x3⟩ := ih f (n + 1) μ2 _ (by omega) (by omega) (by omega) ((R.scF W F1).scF W F2)
        rw [show n + 1 - 1 = n by omega] at e3
        exact ⟨μ3, e3, (F1.tr F2).tr F3, x3⟩
theorem n_doubt {A : aH} {z : aZ} (W : dWF A (zD z)) {p : Nat} (hp : p < hs A 3) {μ : dtM} {fr : aF} (R : RM μ fr A z) : ∃ μ', f_X12_laysDoubt 133 (Int32.ofNat p) μ = some (bI (sdR A (ht A 10 p) 7 1).isSome, μ') ∧ Fr ScM μ μ' ∧ ∀ x, sdR A (ht A 10 p) 7 1 = some x → LV μ' 143 x.1 x.2 ∧ dtI μ' 133 27 = Int32.ofNat x.1 := by
  obtain ⟨μ1, e1, F1, x1⟩ := ld4 W hp 7 dtFuel 1 μ fr (by omega) (by omega) (dtFuel_gt (by decide)) R
  refine ⟨μ1, ?_, F1, x1⟩
  rw [f_X12_laysDoubt]
  exact e1
theorem Pdb.s {w : aW} {k j : Nat} (x : Pdb k j) : ScP w k j := by
  have y : (k = 124 ∧ j = 1) ∨ k = 125 ∨ k = 127 := x
  unfold ScP; omega
theorem cs37 {μ : dtM} {w : aW} {f : aF} {A : aH} {z : aZ} (HP : RP μ w f A z) (HM : RM μ f A z) (W : dWF A (zD z)) (x : Int32) : both (f_X11_doubt 0 x) (f_X12_doubt 133 x) μ := by
  have C := HP.c
  have HH := HP.ph
  have g5 := HP.g5
  have hnw := HH.nw
  have hnp := HH.np
  cases hq : inR x (hs A 3)
  · refine both.no HP HM W (-Int32.ofNat 1) (Int32.ofNat 1) ?_ (fun μ1 R1 => ?_)
    · rw [f_X11_doubt, g5, o_bind, HH.rv, o_bind, HH.hasPerson, hq, o_call, if_pos (by decide), C.v0, o_bind, show (1 : Int32) = Int32.ofNat 1 from rfl, p_fail C, o_call]
    · have C1 := R1.c
      rw [f_X12_doubt, C1.v133, o_bind, R1.mh.isPerson, hq, o_call, if_pos (by decide), C1.v133, o_bind, show (1 : Int32) = Int32.ofNat 1 from rfl, n_refuse C1, o_call]
  · obtain ⟨p, hp, rfl⟩ := inR_t (by omega) hq
    have h10 := (HH.pers hp).2.2.1
    have h2 : 2 ^ hs A 2 ≤ 128 := Nat.pow_le_pow_right (n := 2) (by decide) hnw
    refine both.out HP HM W (v := oN ((fdR A (ht A 10 p) 7 1).map (fun x => x.1))) (st := oS ((fdR A (ht A 10 p) 7 1).map (fun x => x.1))) ?_ (fun μ1 R1 => ?_)
    · obtain ⟨μ2, e2, F2, x2⟩ := HH.findDoubt HP.hh C (kn := ht A 10 p) (by omega)
      have C2 := C.kept F2
      refine ⟨μ2, ?_, F2.wide (fun _ _ x => Pdb.s x)⟩
      have hv : ∀ v, (fdR A (ht A 10 p) 7 1).map (fun x => x.1) = some v → v < 2147483648 := fun v hv => by
        cases hf : fdR A (ht A 10 p) 7 1 with
        | none => rw [hf] at hv; cases hv
        | some y =>
          rw [hf] at hv
          have e : y.1 = v := Option.some.inj hv
          have := (x2 y hf).2.2
          omega
      rw [f_X11_doubt, g5, o_bind, HH.rv, o_bind, HH.hasPerson, hq, o_call, if_neg (by decide), C.g0_15, o_bind, g5, o_bind, o_bind, HH.r16, o_bind, HH.l10 hp, o_bind, o_Rv C.s124, o_bind, e2, o_call, C2.v0, o_bind, p_found C2 hv, o_call]
    · have C1 := R1.c
      obtain ⟨μ2, e2, F2, x2⟩ := n_doubt W hp R1
      have C2 := C1.kept F2
      rcases sd_fd (A := A) (kn := ht A 10 p) 7 1 with ⟨o1, o2⟩ | ⟨k, a, b, o1, o2, o3, o4⟩
      · rw [o1] at e2
        rw [o2]
        refine ⟨μ2, ?_, F2⟩
        rw [f_X12_doubt, C1.v133, o_bind, R1.mh.isPerson, hq, o_call, if_neg (by decide), C1.v133, o_bind, e2, o_call, if_pos (show bI (none : Option (Nat × (Nat → Nat))).isSome = 0 from (by decide : bI false = 0)), C2.v133, o_bind, show (6 : Int32) = Int32.ofNat 6 from rfl, n_refuse C2, o_call, f_X12_doubt_39]; rfl
      · have y := x2 _ o1
        rw [o1] at e2
        rw [o2]
        refine ⟨μ2, ?_, F2⟩
        have m27 : dtI μ2 133 27 = Int32.ofNat k := y.2
        rw [f_X12_doubt, C1.v133, o_bind, R1.mh.isPerson, hq, o_call, if_neg (by decide), C1.v133, o_bind, e2, o_call, if_neg (show ¬ bI (some (k, a)).isSome = 0 from (by decide : ¬ bI true = 0)), o_GI C2.s133, m27, o_bind, C2.v133, o_bind, n_gives C2, o_call, f_X12_doubt_39]; rfl
def daO (o : Option (Nat × (Nat → Nat))) (k : Nat) : Option Nat := match o with
  | some x => if k < x.1 then some (x.2 k) else none
  | none => none
theorem cs38 {μ : dtM} {w : aW} {f : aF} {A : aH} {z : aZ} (HP : RP μ w f A z) (HM : RM μ f A z) (W : dWF A (zD z)) (x y : Int32) : both (f_X11_doubtAt 0 x y) (f_X12_doubtAt 133 x y) μ := by
  have C := HP.c
  have HH := HP.ph
  have g5 := HP.g5
  have hnw := HH.nw
  have hnp := HH.np
  have e15 : f_X11_doubtAt_15 0 μ = some (-Int32.ofNat 1, dtSI μ 0 0 (Int32.ofNat 1)) := by rw [f_X11_doubtAt_15, C.v0, o_bind, show (1 : Int32) = Int32.ofNat 1 from rfl, p_fail C, o_call]
  have e12 : ∀ μ1, RM μ1 f A z → f_X12_doubtAt_12 133 μ1 = some (-Int32.ofNat 1, dtSI μ1 133 2 (Int32.ofNat 1)) := fun μ1 R1 => by rw [f_X12_doubtAt_12, R1.c.v133, o_bind, show (1 : Int32) = Int32.ofNat 1 from rfl, n_refuse R1.c, o_call]
  cases hq : inR x (hs A 3)
  · refine both.no HP HM W (-Int32.ofNat 1) (Int32.ofNat 1) ?_ (fun μ1 R1 => ?_)
    · rw [f_X11_doubtAt, g5, o_bind, HH.rv, o_bind, HH.hasPerson, hq, o_call, if_pos (by decide), e15]
    · have C1 := R1.c
      rw [f_X12_doubtAt, C1.v133, o_bind, R1.mh.isPerson, hq, o_call, if_pos (by decide), e12 μ1 R1]
  · obtain ⟨p, hp, rfl⟩ := inR_t (by omega) hq
    have h10 := (HH.pers hp).2.2.1
    have h2 : 2 ^ hs A 2 ≤ 128 := Nat.pow_le_pow_right (n := 2) (by decide) hnw
    rcases z_cases y with hy | ⟨k, hk, rfl⟩
    · have n0 : ¬ (0 : Int32) ≤ y := Int32.not_le.mpr hy
      refine both.no HP HM W (-Int32.ofNat 1) (Int32.ofNat 1) ?_ (fun μ1 R1 => ?_)
      · rw [f_X11_doubtAt, g5, o_bind, HH.rv, o_bind, HH.hasPerson, hq, o_call, if_neg (by decide), if_neg n0, e15]
      · have C1 := R1.c
        rw [f_X12_doubtAt, C1.v133, o_bind, R1.mh.isPerson, hq, o_call, if_neg (by decide), if_neg n0, e12 μ1 R1]
    · have k0 : (0 : Int32) ≤ Int32.ofNat k := by rw [show (0 : Int32) = Int32.ofNat 0 from rfl, z_le (by decide) hk]; exact Nat.zero_le _
      refine both.out HP HM W (v := oN (daO (fdR A (ht A 10 p) 7 1) k)) (st := oS (daO (fdR A (ht A 10 p) 7 1) k)) ?_ (fun μ1 R1 => ?_)
      · obtain ⟨μ2, e2, F2, x2⟩ := HH.findDoubt HP.hh C (kn := ht A 10 p) (by omega)
        have C2 := C.kept F2
        refine ⟨μ2, ?_, F2.wide (fun _ _ x => Pdb.s x)⟩
        have e60 : ∀ o : Option Nat, (∀ v, o = some v → v < 2147483648) → f_X11_doubtAt_60 0 (oN o) μ2 = some (oN o, dtSI μ2 0 0 (oS o)) := fun o ho => by
          rw [f_X11_doubtAt_60, C2.v0, o_bind, p_found C2 ho, o_call]
        have no60 := e60 none (fun v hv => by cases hv)
        have st : f_X11_doubtAt 0 (Int32.ofNat p) (Int32.ofNat k) μ = if oN ((fdR A (ht A 10 p) 7 1).map (fun x => x.1)) ≤ Int32.ofNat k then (f_X11_doubtAt_60 0 (-1 : Int32) μ2) else ((opGR 11 15 μ2 0).bind fun x30 => (opRv 5 μ2 x30).bind fun _ => opCall (f_X5_soundAt x30 (Int32.ofNat k) μ2) fun x35 μ33 => f_X11_doubtAt_60 0 x35 μ33) := by
          rw [f_X11_doubtAt, g5, o_bind, HH.rv, o_bind, HH.hasPerson, hq, o_call, if_neg (by decide), if_pos k0, C.g0_15, o_bind, g5, o_bind, o_bind, HH.r16, o_bind, HH.l10 hp, o_bind, o_Rv C.s124, o_bind, e2, o_call]
        rw [st]
        rcases sd_fd (A := A) (kn := ht A 10 p) 7 1 with ⟨o1, o2⟩ | ⟨n, a, b, o1, o2, o3, o4⟩
        · rw [o2]
          have l : oN ((none : Option (Nat × (Nat → Nat))).map (fun x => x.1)) ≤ Int32.ofNat k := Int32.le_trans (show (-1 : Int32) ≤ 0 by decide) k0
          rw [if_pos l]
          exact no60
        · obtain ⟨L2, m2, _⟩ := x2 _ o2
          have m27 : dtI μ2 124 1 = Int32.ofNat n := m2
          have o : oN ((some (n, b)).map (fun x => x.1)) = Int32.ofNat n := rfl
          rw [o2, o]
          unfold daO
          by_cases q : k < n
          · have hb := (o3 k q).2
            have lk : opLI 1 μ2 125 (Int32.ofNat k) = some (Int32.ofNat (b k)) := by rw [o_LI C2.s125 (show k < 24 by omega) (by decide)]; exact congrArg some (L2 k q)
            have sa : f_X5_soundAt 124 (Int32.ofNat k) μ2 = some (Int32.ofNat (b k), μ2) := by
              rw [f_X5_soundAt, if_neg (show ¬ Int32.ofNat k < 0 by rw [show (0 : Int32) = Int32.ofNat 0 from rfl, z_lt0 hk]; exact id), o_GI C2.s124, m27, o_bind, if_neg (show ¬ Int32.ofNat n ≤ Int32.ofNat k by rw [z_le (by omega) hk]; omega), C2.g124_0, o_bind, lk, o_bind, f_X5_soundAt_22]
            have eo : (match (some (n, b) : Option (Nat × (Nat → Nat))) with | some x => if k < x.1 then some (x.2 k) else none | none => none) = some (b k) := if_pos q
            rw [if_neg (show ¬ Int32.ofNat n ≤ Int32.ofNat k by rw [z_le (by omega) hk]; omega), C2.g0_15, o_bind, o_Rv C2.s124, o_bind, sa, o_call, eo]
            exact e60 (some (b k)) (fun v hv => by
              have : b k = v := Option.some.inj hv
              omega)
          · have eo : (match (some (n, b) : Option (Nat × (Nat → Nat))) with | some x => if k < x.1 then some (x.2 k) else none | none => none) = none := if_neg q
            rw [if_pos (show Int32.ofNat n ≤ Int32.ofNat k by rw [z_le (by omega) hk]; omega), eo]
            exact no60
      · have C1 := R1.c
        obtain ⟨μ2, e2, F2, x2⟩ := n_doubt W hp R1
        have C2 := C1.kept F2
        refine ⟨μ2, ?_, F2⟩
        have e47 : f_X12_doubtAt_47 133 μ2 = some (-Int32.ofNat 1, dtSI μ2 133 2 (Int32.ofNat 6)) := by rw [f_X12_doubtAt_47, C2.v133, o_bind, show (6 : Int32) = Int32.ofNat 6 from rfl, n_refuse C2, o_call, f_X12_doubtAt_53]
        have st : f_X12_doubtAt 133 (Int32.ofNat p) (Int32.ofNat k) μ1 = if bI (sdR A (ht A 10 p) 7 1).isSome = 0 then (f_X12_doubtAt_47 133 μ2) else ((opGI 12 27 μ2 133).bind fun x18 => if x18 ≤ (Int32.ofNat k) then (f_X12_doubtAt_47 133 μ2) else ((opGR 12 25 μ2 133).bind fun x23 => (opLI 1 μ2 x23 (Int32.ofNat k)).bind fun x25 => (opRv 12 μ2 133).bind fun _ => opCall (f_X12_gives 133 x25 μ2) fun x30 μ28 => f_X12_doubtAt_53 x30 μ28)) := by
          rw [f_X12_doubtAt, C1.v133, o_bind, R1.mh.isPerson, hq, o_call, if_neg (by decide), if_pos k0, C1.v133, o_bind, e2, o_call]
        rw [st]
        rcases sd_fd (A := A) (kn := ht A 10 p) 7 1 with ⟨o1, o2⟩ | ⟨n, a, b, o1, o2, o3, o4⟩
        · rw [o1, o2, if_pos (show bI (none : Option (Nat × (Nat → Nat))).isSome = 0 from (by decide : bI false = 0)), e47]; rfl
        · obtain ⟨L2, m2⟩ := x2 _ o1
          have m27 : dtI μ2 133 27 = Int32.ofNat n := m2
          rw [o1, o2, if_neg (show ¬ bI (some (n, a)).isSome = 0 from (by decide : ¬ bI true = 0)), o_GI C2.s133, m27, o_bind]
          unfold daO
          by_cases q : k < n
          · have lk : opLI 1 μ2 143 (Int32.ofNat k) = some (Int32.ofNat (b k)) := by
              rw [o_LI C2.s143 (show k < 24 by omega) (by decide), ← (o3 k q).1]; exact congrArg some (L2 k q)
            have eo : (match (some (n, b) : Option (Nat × (Nat → Nat))) with | some x => if k < x.1 then some (x.2 k) else none | none => none) = some (b k) := if_pos q
            rw [if_neg (show ¬ Int32.ofNat n ≤ Int32.ofNat k by rw [z_le (by omega) hk]; omega), C2.g133_25, o_bind, lk, o_bind, C2.v133, o_bind, n_gives C2, o_call, f_X12_doubtAt_53, eo]; rfl
          · have eo : (match (some (n, b) : Option (Nat × (Nat → Nat))) with | some x => if k < x.1 then some (x.2 k) else none | none => none) = none := if_neg q
            rw [if_pos (show Int32.ofNat n ≤ Int32.ofNat k by rw [z_le (by omega) hk]; omega), e47, eo]; rfl
