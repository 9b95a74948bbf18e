/-! PURE 45: the game, the model's side -/
abbrev PLv (l : Nat) : Nat → Nat → Prop := fun k j => 146 ≤ k ∧ k ≤ 149 ∧ l ≤ j
theorem MH.kLv {μ μ' : dtM} {A : aH} {l : Nat} (H : MH μ 0 0 A) (F : Fr (PLv l) μ μ') : MH μ' 0 0 A := H.kept F ⟨fun _ x => absurd x.1 (by decide), fun _ x => absurd x.1 (by decide), fun _ x => absurd x.1 (by decide)⟩
def GS (μ : dtM) (l s d : Nat) (bg : Option Nat × Nat) : Prop := dtI μ 146 l = Int32.ofNat s ∧ dtI μ 147 l = zP d ∧ dtI μ 149 l = oN bg.1 ∧ (¬ bg.1 = none → dtI μ 148 l = Int32.ofNat bg.2)
def btq (l g v : Nat) : Bool := if l % 2 = 1 then decide (g < v) else decide (v < g)
theorem btq1 {l g v : Nat} (h : l % 2 = 1) : (btq l g v = true) = (g < v) := by
  unfold btq
  rw [if_pos h, decide_eq_true_iff]
theorem btq0 {l g v : Nat} (h : ¬ l % 2 = 1) : (btq l g v = true) = (v < g) := by
  unfold btq
  rw [if_neg h, decide_eq_true_iff]
def sett (l : Nat) (bg : Option Nat × Nat) (d v : Nat) : Option Nat × Nat := if bg.1 = none ∨ btq l bg.2 v = true then (some d, v) else bg
theorem sett_y {l d v : Nat} {bg : Option Nat × Nat} (h : bg.1 = none ∨ btq l bg.2 v = true) : sett l bg d v = (some d, v) := if_pos h
theorem sett_n {l d v : Nat} {bg : Option Nat × Nat} (h1 : ¬ bg.1 = none) (h2 : ¬ btq l bg.2 v = true) : sett l bg d v = bg := if_neg (fun y => y.elim h1 h2)
theorem f_roomsBy {μ : dtM} {A : aH} (H : MH μ 0 0 A) (C : CX μ) {p s : Nat} (hp : p < hs A 3) (hs' : s < 1024) : f_X12_roomsBy 133 (Int32.ofNat p) (Int32.ofNat s) μ = some (Int32.ofNat (rms A (ht A 8 p) s), μ) := by
  have hnr := H.nr
  have hr := (H.pers hp).1
  have h7 := p128 (show ht A 8 p < 7 by omega)
  have hl := hReach_lt H.2.2 (op := s) h7
  have p0 := H.personOf (k := 0) (by decide) hp
  simp (disch := omega) only [f_X12_roomsBy, C.v133, p0, o_bind, o_call, z_lit, Nat.add_zero, z_bit, H.reaches (show s < 2147483648 by omega) h7, hReachM_eq H.2.2 h7, f_bits]
  rfl
theorem f_settles {μ : dtM} (C : CX μ) {l s d v : Nat} {bg : Option Nat × Nat} (hl : l < 5) (hd : d ≤ 10) (hv : v ≤ 10) (hg : bg.2 ≤ 10) (hb : ∀ e, bg.1 = some e → e ≤ 10) (G : GS μ l s (d + 1) bg) : ∃ μ', f_X12_settles 133 (Int32.ofNat l) (Int32.ofNat v) μ = some μ' ∧ Fr (PLv l) μ μ' ∧ GS μ' l s (d + 1) (sett l bg d v) ∧ ∀ k j, ¬ ((k = 148 ∨ k = 149) ∧ j = l) → dtI μ' k j = dtI μ k j := by
  obtain ⟨g1, g2, g3, g4⟩ := G
  rw [zP_s] at g2
  have s51 : ∃ μ', f_X12_settles_51 133 (Int32.ofNat l) (Int32.ofNat v) μ = some μ' ∧ Fr (PLv l) μ μ' ∧ GS μ' l s (d + 1) (some d, v) ∧ ∀ k j, ¬ ((k = 148 ∨ k = 149) ∧ j = l) → dtI μ' k j = dtI μ k j := by
    have F1 : Fr (PLv l) μ (dtSI μ 148 l (Int32.ofNat v)) := Fr.SI ⟨by decide, by decide, Nat.le_refl _⟩
    have C1 := C.kept F1
    have x : dtI (dtSI μ 148 l (Int32.ofNat v)) 147 l = Int32.ofNat d := by rw [m_I_SI, if_neg (by omega)]; exact g2
    refine ⟨dtSI (dtSI μ 148 l (Int32.ofNat v)) 149 l (Int32.ofNat d), ?_, F1.tr (Fr.SI ⟨by decide, by decide, Nat.le_refl _⟩), ⟨?_, ?_, ?_, fun _ => ?_⟩, fun k j q => ?_⟩
    · simp only [f_X12_settles_51, C.g133_31, o_bind, o_SI C.s148 hl (by decide), C1.g133_32, C1.g133_30, o_LI C1.s147 hl (by decide), x, o_SI C1.s149 hl (by decide)]
    · rw [m_I_SI, if_neg (by omega), m_I_SI, if_neg (by omega)]; exact g1
    · rw [zP_s, m_I_SI, if_neg (by omega), m_I_SI, if_neg (by omega)]; exact g2
    · rw [m_I_SI, if_pos ⟨rfl, rfl⟩]; rfl
    · rw [m_I_SI, if_neg (by omega), m_I_SI, if_pos ⟨rfl, rfl⟩]
    · rw [m_I_SI, if_neg (by omega), m_I_SI, if_neg (by omega)]
  have nob : ∃ μ', (some μ : Option dtM) = some μ' ∧ Fr (PLv l) μ μ' ∧ GS μ' l s (d + 1) bg ∧ ∀ k j, ¬ ((k = 148 ∨ k = 149) ∧ j = l) → dtI μ' k j = dtI μ k j := ⟨μ, rfl, Fr.rf, ⟨g1, by rw [zP_s]; exact g2, g3, g4⟩, fun _ _ _ => rfl⟩
  have hoN := oN_none (o := bg.1) (fun e he => by have := hb e he; omega)
  simp only [f_X12_settles, C.g133_32, o_bind, o_LI C.s149 hl (by decide), g3, z_lit, hoN]
  by_cases q : bg.1 = none
  · rw [if_pos q, f_X12_settles_15, if_neg (by decide), sett_y (Or.inl q)]
    exact s51
  · have x8 := g4 q
    rw [if_neg q, f_X12_settles_15, if_pos (show Int32.ofNat 0 = 0 from rfl)]
    simp (disch := omega) only [z_lit, z_rem, o_bind, z_eq, C.g133_31, o_LI C.s148 hl (by decide), x8, z_lt, f_X12_settles_50]
    by_cases q1 : l % 2 = 1
    · rw [if_pos q1]
      by_cases q2 : bg.2 < v
      · rw [if_pos q2, sett_y (Or.inr (by rw [btq1 q1]; exact q2))]
        exact s51
      · rw [if_neg q2, sett_n q (by rw [btq1 q1]; exact q2)]
        exact nob
    · rw [if_neg q1]
      by_cases q2 : v < bg.2
      · rw [if_pos q2, sett_y (Or.inr (by rw [btq0 q1]; exact q2))]
        exact s51
      · rw [if_neg q2, sett_n q (by rw [btq0 q1]; exact q2)]
        exact nob
def thn (nd s d : Nat) : Nat := if d = nd then s else s ^^^ 2 ^ d
def stp (A : aH) (r m l s d : Nat) (bg : Option Nat × Nat) : Option Nat × Nat := if d = hs A 1 ∨ s.testBit d = decide (l % 2 = 0) then sett l bg d (Vg A r m (l + 1) (thn (hs A 1) s d)) else bg
def bgOk (bg : Option Nat × Nat) : Prop := bg.2 ≤ 10 ∧ ∀ e, bg.1 = some e → e ≤ 10
theorem sett_ok {l d v : Nat} {bg : Option Nat × Nat} (h : bgOk bg) (hd : d ≤ 10) (hv : v ≤ 10) : bgOk (sett l bg d v) := by
  unfold sett
  by_cases q : bg.1 = none ∨ btq l bg.2 v = true
  · rw [if_pos q]; exact ⟨hv, fun e he => by cases he; exact hd⟩
  · rw [if_neg q]; exact h
theorem stp_ok {A : aH} {r m l s d : Nat} {bg : Option Nat × Nat} (h : bgOk bg) (hd : d ≤ 10) : bgOk (stp A r m l s d bg) := by
  unfold stp
  by_cases q : d = hs A 1 ∨ s.testBit d = decide (l % 2 = 0)
  · rw [if_pos q]; exact sett_ok h hd (Vg_le _ _ _)
  · rw [if_neg q]; exact h
/-- the value that a level ends with -/
def gJ (l : Nat) (init acc : Nat) (bg : Option Nat × Nat) : Prop := (bg.1 = none ∧ acc = init) ∨ (¬ bg.1 = none ∧ acc = if l % 2 = 0 then min bg.2 init else max init bg.2)
theorem gJ_step {l init acc d v : Nat} {bg : Option Nat × Nat} (h : gJ l init acc bg) : gJ l init (if l % 2 = 0 then min v acc else max acc v) (sett l bg d v) := by
  right
  by_cases e : l % 2 = 0
  · have e1 : ¬ l % 2 = 1 := by omega
    rw [if_pos e, if_pos e]
    rcases h with ⟨h1, h2⟩ | ⟨h1, h2⟩
    · rw [sett_y (Or.inl h1)]
      exact ⟨fun y => (by cases y), by rw [h2]⟩
    · rw [if_pos e] at h2
      by_cases x : v < bg.2
      · rw [sett_y (Or.inr (by rw [btq0 e1]; exact x))]
        refine ⟨fun y => (by cases y), ?_⟩
        show min v acc = min v init
        omega
      · rw [sett_n h1 (by rw [btq0 e1]; exact x)]
        refine ⟨h1, ?_⟩
        omega
  · have e1 : l % 2 = 1 := by omega
    rw [if_neg e, if_neg e]
    rcases h with ⟨h1, h2⟩ | ⟨h1, h2⟩
    · rw [sett_y (Or.inl h1)]
      exact ⟨fun y => (by cases y), by rw [h2]⟩
    · rw [if_neg e] at h2
      by_cases x : bg.2 < v
      · rw [sett_y (Or.inr (by rw [btq1 e1]; exact x))]
        refine ⟨fun y => (by cases y), ?_⟩
        show max acc v = max init v
        omega
      · rw [sett_n h1 (by rw [btq1 e1]; exact x)]
        refine ⟨h1, ?_⟩
        omega
theorem gJ_all {A : aH} {r m l s init : Nat} : ∀ (n i acc : Nat) (bg : Option Nat × Nat), i + n ≤ hs A 1 → gJ l init acc bg → gJ l init (fo (vst l (fun u => Vg A r m (l + 1) u) s) n i acc) (fo (stp A r m l s) n i bg)
  | 0, _, _, _, _, h => h
  | n + 1, i, acc, bg, e, h => by
    rw [fo, fo]
    refine gJ_all n (i + 1) _ _ (by omega) ?_
    unfold vst stp
    by_cases q : s.testBit i = decide (l % 2 = 0)
    · rw [if_pos q, if_pos (Or.inr q), show thn (hs A 1) s i = s ^^^ 2 ^ i from if_neg (by omega)]
      exact gJ_step h
    · rw [if_neg q, if_neg (fun y => by rcases y with y | y; omega; exact q y)]
      exact h
theorem gval {A : aH} {r m l s : Nat} : ¬ (fo (stp A r m l s) (hs A 1 + 1) 0 (none, 0)).1 = none ∧ (fo (stp A r m l s) (hs A 1 + 1) 0 (none, 0)).2 = Vg A r (m + 1) l s := by
  have J := gJ_all (A := A) (r := r) (m := m) (l := l) (s := s) (hs A 1) 0 (Vg A r m (l + 1) s) (none, 0) (by omega) (Or.inl ⟨rfl, rfl⟩)
  have e : fo (stp A r m l s) (hs A 1 + 1) 0 (none, 0) = sett l (fo (stp A r m l s) (hs A 1) 0 (none, 0)) (hs A 1) (Vg A r m (l + 1) s) := by
    rw [fo_add, fo, fo, Nat.zero_add]
    unfold stp
    rw [if_pos (Or.inl rfl), show thn (hs A 1) s (hs A 1) = s from if_pos rfl]
  have ev : Vg A r (m + 1) l s = fo (vst l (fun u => Vg A r m (l + 1) u) s) (hs A 1) 0 (Vg A r m (l + 1) s) := rfl
  rw [e, ev]
  generalize fo (stp A r m l s) (hs A 1) 0 (none, 0) = bg at J ⊢
  generalize fo (vst l (fun u => Vg A r m (l + 1) u) s) (hs A 1) 0 (Vg A r m (l + 1) s) = acc at J ⊢
  generalize Vg A r m (l + 1) s = init at J ⊢
  rcases J with ⟨h1, h2⟩ | ⟨h1, h2⟩
  · rw [sett_y (Or.inl h1)]
    exact ⟨fun y => (by cases y), h2.symm⟩
  · by_cases e : l % 2 = 0
    · have e1 : ¬ l % 2 = 1 := by omega
      rw [if_pos e] at h2
      by_cases x : init < bg.2
      · rw [sett_y (Or.inr (by rw [btq0 e1]; exact x))]
        exact ⟨fun y => (by cases y), by show init = acc; omega⟩
      · rw [sett_n h1 (by rw [btq0 e1]; exact x)]
        exact ⟨h1, by omega⟩
    · have e1 : l % 2 = 1 := by omega
      rw [if_neg e] at h2
      by_cases x : bg.2 < init
      · rw [sett_y (Or.inr (by rw [btq1 e1]; exact x))]
        exact ⟨fun y => (by cases y), by show init = acc; omega⟩
      · rw [sett_n h1 (by rw [btq1 e1]; exact x)]
        exact ⟨h1, by omega⟩
def Cc : Nat → Nat
  | 0 => 0
  | m + 1 => 11 * (1 + Cc m) + 1
def pex (F : Nat) (p n : Int32) (l : Nat) (μ : dtM) : Option (Int32 × dtM) := match l with
  | 0 => some (dtI μ 148 0, μ)
  | l + 1 => (f_X12_settles 133 (Int32.ofNat l) (dtI μ 148 (l + 1)) μ).bind fun μ' => f_X12_playing_44 F 133 p n (Int32.ofNat l) μ'
theorem play {A : aH} {p n : Nat} (hp : p < hs A 3) (hn : n ≤ 4) : ∀ (m l s : Nat), l + m + 1 = n → s < 2 ^ hs A 1 → ∀ (k d : Nat) (bg : Option Nat × Nat) (F : Nat) (μ : dtM), d + k = hs A 1 + 1 → k * (1 + Cc m) + 1 ≤ F → bgOk bg → MH μ 0 0 A → CX μ → GS μ l s d bg → ∃ μ' F', f_X12_playing_44 F 133 (Int32.ofNat p) (Int32.ofNat n) (Int32.ofNat l) μ = pex F' (Int32.ofNat p) (Int32.ofNat n) l μ' ∧ F ≤ F' + (k * (1 + Cc m) + 1) ∧ Fr (PLv l) μ μ' ∧ dtI μ' 149 l = oN (fo (stp A (ht A 8 p) m l s) k d bg).1 ∧ (¬ (fo (stp A (ht A 8 p) m l s) k d bg).1 = none → dtI μ' 148 l = Int32.ofNat (fo (stp A (ht A 8 p) m l s) k d bg).2) := by
  intro m
  induction m with
  | zero =>
    intro l s hl hs' k
    induction k with
    | zero =>
      intro d bg F μ hd hF hbg H C G
      have hnd := H.nd
      have g1 := H.gj (j := 1) (by decide)
      cases F with
      | zero => omega
      | succ F =>
        obtain ⟨x1, x2, x3, x4⟩ := G
        have F1 : Fr (PLv l) μ (dtSI μ 147 l (Int32.ofNat d)) := Fr.SI ⟨by decide, by decide, Nat.le_refl _⟩
        have C1 := C.kept F1
        have H1 := H.kLv F1
        have g1' := H1.gj (j := 1) (by decide)
        have y : dtI (dtSI μ 147 l (Int32.ofNat d)) 147 l = Int32.ofNat d := by rw [m_I_SI, if_pos ⟨rfl, rfl⟩]
        refine ⟨dtSI μ 147 l (Int32.ofNat d), F, ?_, by omega, F1, ?_, ?_⟩
        · simp (disch := omega) only [f_X12_playing_44, C.g133_30, o_bind, o_LI C.s147 (show l < 5 by omega) (by decide), x2, z_lit, zP_inc, o_SI C.s147 (show l < 5 by omega) (by decide), C1.g133_30, o_LI C1.s147 (show l < 5 by omega) (by decide), y, C1.g133_0, g1', z_le, z_eq]
          rw [if_neg (by omega)]
          cases l with
          | zero =>
            rw [if_pos rfl]
            simp only [C1.g133_31, o_bind, o_LI C1.s148 (show 0 < 5 by decide) (by decide), pex]
          | succ l =>
            rw [if_neg (by omega)]
            simp only [z_dec, zP_s, z_add, C1.g133_31, o_bind, o_LI C1.s148 (show l + 1 < 5 by omega) (by decide), C1.v133, pex]
        · rw [m_I_SI, if_neg (by omega)]; exact x3
        · intro q
          rw [m_I_SI, if_neg (by omega)]; exact x4 q
    | succ k ihk =>
      intro d bg F μ hd hF hbg H C G
      have hnd := H.nd
      have h2' : 2 ^ hs A 1 ≤ 1024 := Nat.pow_le_pow_right (n := 2) (by decide) hnd
      cases F with
      | zero => omega
      | succ F =>
        obtain ⟨x1, x2, x3, x4⟩ := G
        have hl5 : l < 5 := by omega
        have F1 : Fr (PLv l) μ (dtSI μ 147 l (Int32.ofNat d)) := Fr.SI ⟨by decide, by decide, Nat.le_refl _⟩
        have C1 := C.kept F1
        have H1 := H.kLv F1
        have g1' := H1.gj (j := 1) (by decide)
        have y : dtI (dtSI μ 147 l (Int32.ofNat d)) 147 l = Int32.ofNat d := by rw [m_I_SI, if_pos ⟨rfl, rfl⟩]
        have y6 : dtI (dtSI μ 147 l (Int32.ofNat d)) 146 l = Int32.ofNat s := by rw [m_I_SI, if_neg (by omega)]; exact x1
        have G1 : GS (dtSI μ 147 l (Int32.ofNat d)) l s (d + 1) bg := ⟨y6, by rw [zP_s]; exact y, by rw [m_I_SI, if_neg (by omega)]; exact x3, fun q => by rw [m_I_SI, if_neg (by omega)]; exact x4 q⟩
        have ht' : thn (hs A 1) s d < 1024 := by
          unfold thn
          by_cases q : d = hs A 1
          · rw [if_pos q]; omega
          · rw [if_neg q]; exact Nat.lt_of_lt_of_le (xor_lt2 hs' (by omega)) h2'
        have lf : ∃ μ' F', f_X12_playing_170 (f_X12_playing_44 F) 133 (Int32.ofNat p) (Int32.ofNat n) (Int32.ofNat l) (Int32.ofNat (thn (hs A 1) s d)) (dtSI μ 147 l (Int32.ofNat d)) = pex F' (Int32.ofNat p) (Int32.ofNat n) l μ' ∧ F + 1 ≤ F' + ((k + 1) * (1 + Cc 0) + 1) ∧ Fr (PLv l) μ μ' ∧ dtI μ' 149 l = oN (fo (stp A (ht A 8 p) 0 l s) k (d + 1) (sett l bg d (Vg A (ht A 8 p) 0 (l + 1) (thn (hs A 1) s d)))).1 ∧ (¬ (fo (stp A (ht A 8 p) 0 l s) k (d + 1) (sett l bg d (Vg A (ht A 8 p) 0 (l + 1) (thn (hs A 1) s d)))).1 = none → dtI μ' 148 l = Int32.ofNat (fo (stp A (ht A 8 p) 0 l s) k (d + 1) (sett l bg d (Vg A (ht A 8 p) 0 (l + 1) (thn (hs A 1) s d)))).2) := by
          obtain ⟨μ2, e2, F2, G2, _⟩ := f_settles C1 hl5 (d := d) (v := Vg A (ht A 8 p) 0 (l + 1) (thn (hs A 1) s d)) (by omega) (Vg_le _ _ _) hbg.1 hbg.2 G1
          obtain ⟨μ3, F', e3, b3, F3, r3, s3⟩ := ihk (d + 1) _ F μ2 (by omega) (by unfold Cc at hF ⊢; omega) (sett_ok hbg (by omega) (Vg_le _ _ _)) (H1.kLv F2) (C1.kept F2) G2
          refine ⟨μ3, F', ?_, by unfold Cc at b3 ⊢; omega, (F1.tr F2).tr F3, r3, s3⟩
          rw [← e3]
          simp (disch := omega) only [f_X12_playing_170, f_X12_playing_219, z_lit, z_add, z_eq, C1.v133, o_bind, o_call, f_roomsBy H1 C1 hp ht']
          rw [if_pos (by omega)]
          rw [show rms A (ht A 8 p) (thn (hs A 1) s d) = Vg A (ht A 8 p) 0 (l + 1) (thn (hs A 1) s d) from rfl, e2, o_bind]
        have st0 : f_X12_playing_44 (F + 1) 133 (Int32.ofNat p) (Int32.ofNat n) (Int32.ofNat l) μ = if d = hs A 1 ∨ s.testBit d = decide (l % 2 = 0) then f_X12_playing_170 (f_X12_playing_44 F) 133 (Int32.ofNat p) (Int32.ofNat n) (Int32.ofNat l) (Int32.ofNat (thn (hs A 1) s d)) (dtSI μ 147 l (Int32.ofNat d)) else f_X12_playing_44 F 133 (Int32.ofNat p) (Int32.ofNat n) (Int32.ofNat l) (dtSI μ 147 l (Int32.ofNat d)) := by
          simp (disch := omega) only [f_X12_playing_44, C.g133_30, o_bind, o_LI C.s147 hl5 (by decide), x2, z_lit, zP_inc, o_SI C.s147 hl5 (by decide), C1.g133_30, o_LI C1.s147 hl5 (by decide), y, C1.g133_0, g1']
          rw [if_pos (show Int32.ofNat d ≤ Int32.ofNat (hs A 1) by rw [z_le (by omega) (by omega)]; omega)]
          unfold thn
          by_cases q : d = hs A 1
          · rw [if_pos (show Int32.ofNat (hs A 1) ≤ Int32.ofNat d by rw [z_le (by omega) (by omega)]; omega), if_pos q, if_pos (Or.inl q)]
            simp only [f_X12_playing_139, C1.g133_0, C1.g133_29, o_bind, z_lit, g1', o_LI C1.s146 hl5 (by decide), y6]
            rw [if_pos (by rw [q])]
          · rw [if_neg (show ¬ Int32.ofNat (hs A 1) ≤ Int32.ofNat d by rw [z_le (by omega) (by omega)]; omega), if_neg q]
            have go : f_X12_playing_139 (f_X12_playing_44 F) 133 (Int32.ofNat p) (Int32.ofNat n) (Int32.ofNat l) (Int32.ofNat d) (dtSI μ 147 l (Int32.ofNat d)) = f_X12_playing_170 (f_X12_playing_44 F) 133 (Int32.ofNat p) (Int32.ofNat n) (Int32.ofNat l) (Int32.ofNat (s ^^^ 2 ^ d)) (dtSI μ 147 l (Int32.ofNat d)) := by
              simp only [f_X12_playing_139, C1.g133_0, C1.g133_29, o_bind, z_lit, g1', o_LI C1.s146 hl5 (by decide), y6, z_bit (show d < 32 by omega), z_xor]
              rw [if_neg (by rw [z_eq (by omega) (by omega)]; exact q)]
            have yi := f_isIn (s := s) (d := d) (μ := dtSI μ 147 l (Int32.ofNat d)) (by omega) (by omega)
            have yr := z_rem (a := l) (b := 2) (by omega) (by decide)
            simp only [C1.g133_29, o_bind, o_call, o_LI C1.s146 hl5 (by decide), y6, C1.v133, yi, yr, f_X12_playing_133, b0, b1, go, z_eq (show l % 2 < 2147483648 by omega) (show 0 < 2147483648 by decide)]
            by_cases q2 : l % 2 = 0
            · rw [if_pos q2]
              cases q3 : s.testBit d
              · rw [if_neg (by decide), if_neg (by rw [decide_eq_true q2]; simp [q])]
              · rw [if_pos rfl, if_pos (by rw [decide_eq_true q2]; exact Or.inr rfl)]
            · rw [if_neg q2]
              cases q3 : s.testBit d
              · rw [if_pos rfl, if_pos (by rw [decide_eq_false q2]; exact Or.inr rfl)]
              · rw [if_neg (by decide), if_neg (by rw [decide_eq_false q2]; simp [q])]
        rw [st0, fo]
        by_cases q : d = hs A 1 ∨ s.testBit d = decide (l % 2 = 0)
        · rw [if_pos q, show stp A (ht A 8 p) 0 l s d bg = sett l bg d (Vg A (ht A 8 p) 0 (l + 1) (thn (hs A 1) s d)) from if_pos q]
          exact lf
        · rw [if_neg q, show stp A (ht A 8 p) 0 l s d bg = bg from if_neg q]
          obtain ⟨μ3, F', e3, b3, F3, r3, s3⟩ := ihk (d + 1) bg F _ (by omega) (by unfold Cc at hF ⊢; omega) hbg H1 C1 G1
          exact ⟨μ3, F', e3, by unfold Cc at b3 ⊢; omega, F1.tr F3, r3, s3⟩
  | succ m ihm =>
    intro l s hl hs' k
    induction k with
    | zero =>
      intro d bg F μ hd hF hbg H C G
      have hnd := H.nd
      cases F with
      | zero => omega
      | succ F =>
        obtain ⟨x1, x2, x3, x4⟩ := G
        have F1 : Fr (PLv l) μ (dtSI μ 147 l (Int32.ofNat d)) := Fr.SI ⟨by decide, by decide, Nat.le_refl _⟩
        have C1 := C.kept F1
        have H1 := H.kLv F1
        have g1' := H1.gj (j := 1) (by decide)
        have y : dtI (dtSI μ 147 l (Int32.ofNat d)) 147 l = Int32.ofNat d := by rw [m_I_SI, if_pos ⟨rfl, rfl⟩]
        refine ⟨dtSI μ 147 l (Int32.ofNat d), F, ?_, by omega, F1, ?_, ?_⟩
        · simp (disch := omega) only [f_X12_playing_44, C.g133_30, o_bind, o_LI C.s147 (show l < 5 by omega) (by decide), x2, z_lit, zP_inc, o_SI C.s147 (show l < 5 by omega) (by decide), C1.g133_30, o_LI C1.s147 (show l < 5 by omega) (by decide), y, C1.g133_0, g1', z_le, z_eq]
          rw [if_neg (by omega)]
          cases l with
          | zero =>
            rw [if_pos rfl]
            simp only [C1.g133_31, o_bind, o_LI C1.s148 (show 0 < 5 by decide) (by decide), pex]
          | succ l =>
            rw [if_neg (by omega)]
            simp only [z_dec, zP_s, z_add, C1.g133_31, o_bind, o_LI C1.s148 (show l + 1 < 5 by omega) (by decide), C1.v133, pex]
        · rw [m_I_SI, if_neg (by omega)]; exact x3
        · intro q
          rw [m_I_SI, if_neg (by omega)]; exact x4 q
    | succ k ihk =>
      intro d bg F μ hd hF hbg H C G
      have hnd := H.nd
      have h2' : 2 ^ hs A 1 ≤ 1024 := Nat.pow_le_pow_right (n := 2) (by decide) hnd
      cases F with
      | zero => omega
      | succ F =>
        obtain ⟨x1, x2, x3, x4⟩ := G
        have hl5 : l < 5 := by omega
        have eC : Cc (m + 1) = 11 * (1 + Cc m) + 1 := rfl
        rw [eC] at hF ⊢
        have em : (k + 1) * (1 + (11 * (1 + Cc m) + 1)) = k * (1 + (11 * (1 + Cc m) + 1)) + (1 + (11 * (1 + Cc m) + 1)) := Nat.succ_mul _ _
        have F1 : Fr (PLv l) μ (dtSI μ 147 l (Int32.ofNat d)) := Fr.SI ⟨by decide, by decide, Nat.le_refl _⟩
        have C1 := C.kept F1
        have H1 := H.kLv F1
        have g1' := H1.gj (j := 1) (by decide)
        have y : dtI (dtSI μ 147 l (Int32.ofNat d)) 147 l = Int32.ofNat d := by rw [m_I_SI, if_pos ⟨rfl, rfl⟩]
        have y6 : dtI (dtSI μ 147 l (Int32.ofNat d)) 146 l = Int32.ofNat s := by rw [m_I_SI, if_neg (by omega)]; exact x1
        have G1 : GS (dtSI μ 147 l (Int32.ofNat d)) l s (d + 1) bg := ⟨y6, by rw [zP_s]; exact y, by rw [m_I_SI, if_neg (by omega)]; exact x3, fun q => by rw [m_I_SI, if_neg (by omega)]; exact x4 q⟩
        have ht2 : thn (hs A 1) s d < 2 ^ hs A 1 ∨ ¬ d ≤ hs A 1 := by
          unfold thn
          by_cases q : d = hs A 1
          · rw [if_pos q]; exact Or.inl hs'
          · rw [if_neg q]
            by_cases q2 : d < hs A 1
            · exact Or.inl (xor_lt2 hs' q2)
            · right; omega
        have ht3 : thn (hs A 1) s d < 2 ^ hs A 1 := by rcases ht2 with q | q; exact q; omega
        have lf : ∃ μ' F', f_X12_playing_170 (f_X12_playing_44 F) 133 (Int32.ofNat p) (Int32.ofNat n) (Int32.ofNat l) (Int32.ofNat (thn (hs A 1) s d)) (dtSI μ 147 l (Int32.ofNat d)) = pex F' (Int32.ofNat p) (Int32.ofNat n) l μ' ∧ F + 1 ≤ F' + ((k + 1) * (1 + (11 * (1 + Cc m) + 1)) + 1) ∧ Fr (PLv l) μ μ' ∧ dtI μ' 149 l = oN (fo (stp A (ht A 8 p) (m + 1) l s) k (d + 1) (sett l bg d (Vg A (ht A 8 p) (m + 1) (l + 1) (thn (hs A 1) s d)))).1 ∧ (¬ (fo (stp A (ht A 8 p) (m + 1) l s) k (d + 1) (sett l bg d (Vg A (ht A 8 p) (m + 1) (l + 1) (thn (hs A 1) s d)))).1 = none → dtI μ' 148 l = Int32.ofNat (fo (stp A (ht A 8 p) (m + 1) l s) k (d + 1) (sett l bg d (Vg A (ht A 8 p) (m + 1) (l + 1) (thn (hs A 1) s d)))).2) := by
          have F2 : Fr (PLv (l + 1)) (dtSI μ 147 l (Int32.ofNat d)) (dtSI (dtSI (dtSI (dtSI μ 147 l (Int32.ofNat d)) 146 (l + 1) (Int32.ofNat (thn (hs A 1) s d))) 147 (l + 1) (-Int32.ofNat 1)) 149 (l + 1) (-Int32.ofNat 1)) := (Fr.SI (P := PLv (l + 1)) ⟨by decide, by decide, Nat.le_refl _⟩).tr ((Fr.SI (P := PLv (l + 1)) ⟨by decide, by decide, Nat.le_refl _⟩).tr (Fr.SI (P := PLv (l + 1)) ⟨by decide, by decide, Nat.le_refl _⟩))
          have C2a : CX (dtSI (dtSI μ 147 l (Int32.ofNat d)) 146 (l + 1) (Int32.ofNat (thn (hs A 1) s d))) := C1.SI
          have C2b : CX (dtSI (dtSI (dtSI μ 147 l (Int32.ofNat d)) 146 (l + 1) (Int32.ofNat (thn (hs A 1) s d))) 147 (l + 1) (-Int32.ofNat 1)) := C2a.SI
          have G2 : GS (dtSI (dtSI (dtSI (dtSI μ 147 l (Int32.ofNat d)) 146 (l + 1) (Int32.ofNat (thn (hs A 1) s d))) 147 (l + 1) (-Int32.ofNat 1)) 149 (l + 1) (-Int32.ofNat 1)) (l + 1) (thn (hs A 1) s d) 0 (none, 0) := by
            refine ⟨?_, ?_, ?_, fun q => absurd rfl q⟩
            · rw [m_I_SI, if_neg (by omega), m_I_SI, if_neg (by omega), m_I_SI, if_pos ⟨rfl, rfl⟩]
            · rw [m_I_SI, if_neg (by omega), m_I_SI, if_pos ⟨rfl, rfl⟩]; rfl
            · rw [m_I_SI, if_pos ⟨rfl, rfl⟩]; rfl
          have hk11 : (hs A 1 + 1) * (1 + Cc m) ≤ 11 * (1 + Cc m) := Nat.mul_le_mul_right _ (by omega)
          obtain ⟨μ3, F', e3, b3, F3, r3, s3⟩ := ihm (l + 1) (thn (hs A 1) s d) (by omega) ht3 (hs A 1 + 1) 0 (none, 0) F _ (by omega) (by omega) ⟨by decide, fun e he => by cases he⟩ (H1.kLv F2) (C1.kept F2) G2
          have gv := gval (A := A) (r := ht A 8 p) (m := m) (l := l + 1) (s := thn (hs A 1) s d)
          have r4 := s3 gv.1
          rw [gv.2] at r4
          have F23 := F2.tr F3
          have C3 := C1.kept F23
          have H3 := H1.kLv F23
          have k3 : ∀ k, dtI μ3 k l = dtI (dtSI μ 147 l (Int32.ofNat d)) k l := fun k => F23.i (fun x => by have := x.2.2; omega)
          have G3 : GS μ3 l s (d + 1) bg := ⟨by rw [k3]; exact G1.1, by rw [k3]; exact G1.2.1, by rw [k3]; exact G1.2.2.1, fun q => by rw [k3]; exact G1.2.2.2 q⟩
          obtain ⟨μ4, e4, F4, G4, _⟩ := f_settles C3 hl5 (d := d) (v := Vg A (ht A 8 p) (m + 1) (l + 1) (thn (hs A 1) s d)) (by omega) (Vg_le _ _ _) hbg.1 hbg.2 G3
          obtain ⟨μ5, F'', e5, b5, F5, r5, s5⟩ := ihk (d + 1) _ F' μ4 (by omega) (by rw [eC]; omega) (sett_ok hbg (by omega) (Vg_le _ _ _)) (H3.kLv F4) (C3.kept F4) G4
          refine ⟨μ5, F'', ?_, by rw [eC] at b5; omega, (F1.tr ((F23.wide (fun a b x => ⟨x.1, x.2.1, by have := x.2.2; omega⟩)).tr F4)).tr F5, r5, s5⟩
          rw [← e5]
          simp (disch := omega) only [f_X12_playing_170, f_X12_playing_219, z_lit, z_add, z_eq, C1.g133_29, C2a.g133_30, C2b.g133_32, o_bind, o_SI C1.s146 (show l + 1 < 5 by omega) (by decide), o_SI C2a.s147 (show l + 1 < 5 by omega) (by decide), o_SI C2b.s149 (show l + 1 < 5 by omega) (by decide)]
          rw [if_neg (by omega), e3]
          show (f_X12_settles 133 (Int32.ofNat l) (dtI μ3 148 (l + 1)) μ3).bind _ = _
          rw [r4, e4, o_bind]
        have st0 : f_X12_playing_44 (F + 1) 133 (Int32.ofNat p) (Int32.ofNat n) (Int32.ofNat l) μ = if d = hs A 1 ∨ s.testBit d = decide (l % 2 = 0) then f_X12_playing_170 (f_X12_playing_44 F) 133 (Int32.ofNat p) (Int32.ofNat n) (Int32.ofNat l) (Int32.ofNat (thn (hs A 1) s d)) (dtSI μ 147 l (Int32.ofNat d)) else f_X12_playing_44 F 133 (Int32.ofNat p) (Int32.ofNat n) (Int32.ofNat l) (dtSI μ 147 l (Int32.ofNat d)) := by
          simp (disch := omega) only [f_X12_playing_44, C.g133_30, o_bind, o_LI C.s147 hl5 (by decide), x2, z_lit, zP_inc, o_SI C.s147 hl5 (by decide), C1.g133_30, o_LI C1.s147 hl5 (by decide), y, C1.g133_0, g1']
          rw [if_pos (show Int32.ofNat d ≤ Int32.ofNat (hs A 1) by rw [z_le (by omega) (by omega)]; omega)]
          unfold thn
          by_cases q : d = hs A 1
          · rw [if_pos (show Int32.ofNat (hs A 1) ≤ Int32.ofNat d by rw [z_le (by omega) (by omega)]; omega), if_pos q, if_pos (Or.inl q)]
            simp only [f_X12_playing_139, C1.g133_0, C1.g133_29, o_bind, z_lit, g1', o_LI C1.s146 hl5 (by decide), y6]
            rw [if_pos (by rw [q])]
          · rw [if_neg (show ¬ Int32.ofNat (hs A 1) ≤ Int32.ofNat d by rw [z_le (by omega) (by omega)]; omega), if_neg q]
            have go : f_X12_playing_139 (f_X12_playing_44 F) 133 (Int32.ofNat p) (Int32.ofNat n) (Int32.ofNat l) (Int32.ofNat d) (dtSI μ 147 l (Int32.ofNat d)) = f_X12_playing_170 (f_X12_playing_44 F) 133 (Int32.ofNat p) (Int32.ofNat n) (Int32.ofNat l) (Int32.ofNat (s ^^^ 2 ^ d)) (dtSI μ 147 l (Int32.ofNat d)) := by
              simp only [f_X12_playing_139, C1.g133_0, C1.g133_29, o_bind, z_lit, g1', o_LI C1.s146 hl5 (by decide), y6, z_bit (show d < 32 by omega), z_xor]
              rw [if_neg (by rw [z_eq (by omega) (by omega)]; exact q)]
            have yi := f_isIn (s := s) (d := d) (μ := dtSI μ 147 l (Int32.ofNat d)) (by omega) (by omega)
            have yr := z_rem (a := l) (b := 2) (by omega) (by decide)
            simp only [C1.g133_29, o_bind, o_call, o_LI C1.s146 hl5 (by decide), y6, C1.v133, yi, yr, f_X12_playing_133, b0, b1, go, z_eq (show l % 2 < 2147483648 by omega) (show 0 < 2147483648 by decide)]
            by_cases q2 : l % 2 = 0
            · rw [if_pos q2]
              cases q3 : s.testBit d
              · rw [if_neg (by decide), if_neg (by rw [decide_eq_true q2]; simp [q])]
              · rw [if_pos rfl, if_pos (by rw [decide_eq_true q2]; exact Or.inr rfl)]
            · rw [if_neg q2]
              cases q3 : s.testBit d
              · rw [if_pos rfl, if_pos (by rw [decide_eq_false q2]; exact Or.inr rfl)]
              · rw [if_neg (by decide), if_neg (by rw [decide_eq_false q2]; simp [q])]
        rw [st0, fo]
        by_cases q : d = hs A 1 ∨ s.testBit d = decide (l % 2 = 0)
        · rw [if_pos q, show stp A (ht A 8 p) (m + 1) l s d bg = sett l bg d (Vg A (ht A 8 p) (m + 1) (l + 1) (thn (hs A 1) s d)) from if_pos q]
          exact lf
        · rw [if_neg q, show stp A (ht A 8 p) (m + 1) l s d bg = bg from if_neg q]
          obtain ⟨μ3, F', e3, b3, F3, r3, s3⟩ := ihk (d + 1) bg F _ (by omega) (by rw [eC]; omega) hbg H1 C1 G1
          exact ⟨μ3, F', e3, by rw [eC] at b3; omega, F1.tr F3, r3, s3⟩
/-- the best deed of the first level is the program's move -/
def mvR (nd : Nat) (b : Option Nat) (move : Option Nat) : Prop := (move = none ∧ b = some nd) ∨ (∃ d, move = some d ∧ b = some d ∧ d < nd)
def mvJ (nd init : Nat) (st : Nat × Option Nat) (bg : Option Nat × Nat) : Prop :=
  (bg.1 = none ∧ st = (init, none)) ∨ (∃ d, bg.1 = some d ∧ d < nd ∧ ((bg.2 ≤ init ∧ st = (bg.2, some d)) ∨ (init < bg.2 ∧ st = (init, none))))
theorem mvJ_step {A : aH} {r m s init : Nat} {d : Nat} {st : Nat × Option Nat} {bg : Option Nat × Nat} (hd : d < hs A 1) (h : mvJ (hs A 1) init st bg) : mvJ (hs A 1) init (bmS (Vg A r m 1) s d st) (stp A r m 0 s d bg) := by
  by_cases q : s.testBit d = true
  · have eb : bmS (Vg A r m 1) s d st = if Vg A r m 1 (s ^^^ 2 ^ d) < st.1 ∨ (Vg A r m 1 (s ^^^ 2 ^ d) = st.1 ∧ st.2 = none) then (Vg A r m 1 (s ^^^ 2 ^ d), some d) else st := if_pos q
    have es : stp A r m 0 s d bg = sett 0 bg d (Vg A r m 1 (s ^^^ 2 ^ d)) := by
      unfold stp
      rw [if_pos (Or.inr (by rw [q]; decide)), show thn (hs A 1) s d = s ^^^ 2 ^ d from if_neg (by omega)]
    rw [eb, es]
    generalize Vg A r m 1 (s ^^^ 2 ^ d) = v
    have e1 : ¬ 0 % 2 = 1 := by decide
    rcases h with ⟨h1, h2⟩ | ⟨e, h1, h2, ⟨h3, h4⟩ | ⟨h3, h4⟩⟩
    · rw [sett_y (Or.inl h1), h2]
      right
      refine ⟨d, rfl, hd, ?_⟩
      by_cases x : v ≤ init
      · left
        refine ⟨x, ?_⟩
        by_cases y : v < init
        · rw [if_pos (Or.inl y)]
        · rw [if_pos (Or.inr ⟨by show v = init; omega, rfl⟩)]
      · right
        refine ⟨by show init < v; omega, ?_⟩
        rw [if_neg (fun y => y.elim (fun y => x (Nat.le_of_lt y)) (fun y => x (Nat.le_of_eq y.1)))]
    · have hn : ¬ bg.1 = none := fun y => by rw [h1] at y; cases y
      rw [h4]
      right
      by_cases x : v < bg.2
      · rw [if_pos (Or.inl x), sett_y (Or.inr (by rw [btq0 e1]; exact x))]
        exact ⟨d, rfl, hd, Or.inl ⟨by show v ≤ init; omega, rfl⟩⟩
      · rw [if_neg (fun y => y.elim x (fun y => (by cases y.2))), sett_n hn (by rw [btq0 e1]; exact x)]
        exact ⟨e, h1, h2, Or.inl ⟨h3, rfl⟩⟩
    · have hn : ¬ bg.1 = none := fun y => by rw [h1] at y; cases y
      rw [h4]
      right
      by_cases x : v < bg.2
      · rw [sett_y (Or.inr (by rw [btq0 e1]; exact x))]
        refine ⟨d, rfl, hd, ?_⟩
        by_cases y : v ≤ init
        · left
          refine ⟨y, ?_⟩
          by_cases z : v < init
          · rw [if_pos (Or.inl z)]
          · rw [if_pos (Or.inr ⟨by show v = init; omega, rfl⟩)]
        · right
          refine ⟨by show init < v; omega, ?_⟩
          rw [if_neg (fun z => z.elim (fun z => y (Nat.le_of_lt z)) (fun z => y (Nat.le_of_eq z.1)))]
      · rw [sett_n hn (by rw [btq0 e1]; exact x)]
        refine ⟨e, h1, h2, Or.inr ⟨h3, ?_⟩⟩
        rw [if_neg (fun z => z.elim (fun z => x (Nat.lt_trans z h3)) (fun z => x (by have := z.1; show v < bg.2; omega)))]
  · have eb : bmS (Vg A r m 1) s d st = st := if_neg q
    have es : stp A r m 0 s d bg = bg := if_neg (fun y => y.elim (fun y => (by omega)) (fun y => q (y.trans (by decide))))
    rw [eb, es]
    exact h
theorem mvJ_all {A : aH} {r m s init : Nat} : ∀ (n i : Nat) (st : Nat × Option Nat) (bg : Option Nat × Nat), i + n ≤ hs A 1 → mvJ (hs A 1) init st bg → mvJ (hs A 1) init (fo (bmS (Vg A r m 1) s) n i st) (fo (stp A r m 0 s) n i bg)
  | 0, _, _, _, _, h => h
  | n + 1, i, st, bg, e, h => by
    rw [fo, fo]
    exact mvJ_all n (i + 1) _ _ (by omega) (mvJ_step (by omega) h)
theorem mv_eq {A : aH} {r m s : Nat} : mvR (hs A 1) (fo (stp A r m 0 s) (hs A 1 + 1) 0 (none, 0)).1 (fo (bmS (Vg A r m 1) s) (hs A 1) 0 (Vg A r m 1 s, none)).2 := by
  have J := mvJ_all (A := A) (r := r) (m := m) (s := s) (init := Vg A r m 1 s) (hs A 1) 0 (Vg A r m 1 s, none) (none, 0) (by omega) (Or.inl ⟨rfl, rfl⟩)
  have e : fo (stp A r m 0 s) (hs A 1 + 1) 0 (none, 0) = sett 0 (fo (stp A r m 0 s) (hs A 1) 0 (none, 0)) (hs A 1) (Vg A r m 1 s) := by
    rw [fo_add, fo, fo, Nat.zero_add]
    unfold stp
    rw [if_pos (Or.inl rfl), show thn (hs A 1) s (hs A 1) = s from if_pos rfl]
  rw [e]
  generalize fo (stp A r m 0 s) (hs A 1) 0 (none, 0) = bg at J ⊢
  generalize fo (bmS (Vg A r m 1) s) (hs A 1) 0 (Vg A r m 1 s, none) = st at J ⊢
  generalize Vg A r m 1 s = init at J ⊢
  have e1 : ¬ 0 % 2 = 1 := by decide
  rcases J with ⟨h1, h2⟩ | ⟨d, h1, h2, ⟨h3, h4⟩ | ⟨h3, h4⟩⟩
  · rw [sett_y (Or.inl h1), h2]
    exact Or.inl ⟨rfl, rfl⟩
  · have hn : ¬ bg.1 = none := fun y => by rw [h1] at y; cases y
    rw [sett_n hn (by rw [btq0 e1]; omega), h4]
    exact Or.inr ⟨d, rfl, h1, h2⟩
  · rw [sett_y (Or.inr (by rw [btq0 e1]; exact h3)), h4]
    exact Or.inl ⟨rfl, rfl⟩
abbrev P146 : Nat → Nat → Prop := fun k _ => 146 ≤ k ∧ k ≤ 149
theorem Cc4 : ∀ m, m < 4 → 11 * (1 + Cc m) + 1 ≤ 2000000 - 1 := by decide
theorem MH.playing {μ : dtM} {A : aH} (H : MH μ 0 0 A) (C : CX μ) {p n : Nat} (hp : p < hs A 3) (hn : n ≤ 4) : ∃ μ', f_X12_playing 133 (Int32.ofNat p) (Int32.ofNat n) μ = some (Int32.ofNat (Vg A (ht A 8 p) n 0 (hs A 5)), μ') ∧ Fr P146 μ μ' ∧ (1 ≤ n → dtI μ' 149 0 = oN (match mvP A (ht A 8 p) n with | none => some (hs A 1) | some d => some d)) := by
  have hnd := H.nd
  have hop := H.op1
  have g5 := H.gj (j := 5) (by decide)
  have fR := f_roomsBy H C hp hop
  cases n with
  | zero =>
    refine ⟨μ, ?_, Fr.rf, fun q => absurd q (by decide)⟩
    simp only [f_X12_playing, z_lit, C.g133_0, g5, C.v133, o_bind, o_call, fR]
    rw [if_pos trivial]; rfl
  | succ m =>
    have F1 : Fr (PLv 0) μ (dtSI (dtSI (dtSI μ 146 0 (Int32.ofNat (hs A 5))) 147 0 (-Int32.ofNat 1)) 149 0 (-Int32.ofNat 1)) := (Fr.SI (P := PLv 0) ⟨by decide, by decide, Nat.le_refl _⟩).tr ((Fr.SI (P := PLv 0) ⟨by decide, by decide, Nat.le_refl _⟩).tr (Fr.SI (P := PLv 0) ⟨by decide, by decide, Nat.le_refl _⟩))
    have Ca : CX (dtSI μ 146 0 (Int32.ofNat (hs A 5))) := C.SI
    have Cb : CX (dtSI (dtSI μ 146 0 (Int32.ofNat (hs A 5))) 147 0 (-Int32.ofNat 1)) := Ca.SI
    have G1 : GS (dtSI (dtSI (dtSI μ 146 0 (Int32.ofNat (hs A 5))) 147 0 (-Int32.ofNat 1)) 149 0 (-Int32.ofNat 1)) 0 (hs A 5) 0 (none, 0) := by
      refine ⟨?_, ?_, ?_, fun q => absurd rfl q⟩
      · rw [m_I_SI, if_neg (by omega), m_I_SI, if_neg (by omega), m_I_SI, if_pos ⟨rfl, rfl⟩]
      · rw [m_I_SI, if_neg (by omega), m_I_SI, if_pos ⟨rfl, rfl⟩]; rfl
      · rw [m_I_SI, if_pos ⟨rfl, rfl⟩]; rfl
    have hk11 : (hs A 1 + 1) * (1 + Cc m) ≤ 11 * (1 + Cc m) := Nat.mul_le_mul_right _ (by omega)
    have c4 := Cc4 m (by omega)
    obtain ⟨μ2, F', e2, b2, F2, r2, s2⟩ := play (A := A) (p := p) (n := m + 1) hp hn m 0 (hs A 5) (by omega) H.op (hs A 1 + 1) 0 (none, 0) dtFuel _ (by omega) (by unfold dtFuel; omega) ⟨by decide, fun e he => by cases he⟩ (H.kLv F1) (C.kept F1) G1
    have gv := gval (A := A) (r := ht A 8 p) (m := m) (l := 0) (s := hs A 5)
    have s3 := s2 gv.1
    rw [gv.2] at s3
    refine ⟨μ2, ?_, (F1.tr F2).wide (fun k j x => ⟨x.1, x.2.1⟩), fun _ => ?_⟩
    · simp (disch := omega) only [f_X12_playing, z_lit, z_eq, C.g133_29, C.g133_0, g5, Ca.g133_30, Cb.g133_32, o_bind, o_SI C.s146 (show 0 < 5 by decide) (by decide), o_SI Ca.s147 (show 0 < 5 by decide) (by decide), o_SI Cb.s149 (show 0 < 5 by decide) (by decide)]
      rw [if_neg (by omega), e2]
      show some (dtI μ2 148 0, μ2) = _
      rw [s3]
    · rw [r2]
      have R := mv_eq (A := A) (r := ht A 8 p) (m := m) (s := hs A 5)
      have em : mvP A (ht A 8 p) (m + 1) = (fo (bmS (Vg A (ht A 8 p) m 1) (hs A 5)) (hs A 1) 0 (Vg A (ht A 8 p) m 1 (hs A 5), none)).2 := rfl
      rw [em]
      rcases R with ⟨h1, h2⟩ | ⟨d, h1, h2, h3⟩
      · rw [h1, h2]
      · rw [h1, h2]
theorem mvP_lt {A : aH} {r n d : Nat} (h : mvP A r n = some d) : d < hs A 1 := by
  have R := mv_eq (A := A) (r := r) (m := n - 1) (s := hs A 5)
  have em : mvP A r n = (fo (bmS (Vg A r (n - 1) 1) (hs A 5)) (hs A 1) 0 (Vg A r (n - 1) 1 (hs A 5), none)).2 := rfl
  rw [← em, h] at R
  rcases R with ⟨h1, h2⟩ | ⟨e, h1, h2, h3⟩
  · cases h1
  · cases h1; exact h3
theorem inR1 {x : Int32} {n : Nat} (hn : n < 2147483647) : (inR x (n + 1) && !decide (x = Int32.ofNat 0)) = true ↔ ∃ k, 1 ≤ k ∧ k ≤ n ∧ x = Int32.ofNat k := by
  constructor
  · intro h
    rw [Bool.and_eq_true] at h
    obtain ⟨k, hk, rfl⟩ := inR_t (by omega) h.1
    refine ⟨k, ?_, by omega, rfl⟩
    have h2 := h.2
    simp only [Bool.not_eq_true', decide_eq_false_iff_not] at h2
    rw [z_eq (by omega) (by decide)] at h2
    omega
  · rintro ⟨k, h1, h2, rfl⟩
    have n0 : ¬ Int32.ofNat k = Int32.ofNat 0 := by rw [z_eq (by omega) (by decide)]; omega
    rw [inR_n (by omega) (by omega), decide_eq_true (by omega : k < n + 1), decide_eq_false n0]
    rfl
theorem f_within1 {x : Int32} {n : Nat} {μ : dtM} (hn : n < 2147483647) : f_X11_within x (Int32.ofNat 1) (Int32.ofNat n) μ = some (bI (inR x (n + 1) && !decide (x = Int32.ofNat 0)), μ) := by
  simp only [f_X11_within, f_X11_within_14, f_X11_within_15, o_ret0, o_ret1]
  rcases z_cases x with q | ⟨k, hk, rfl⟩
  · have : x < Int32.ofNat 1 := by
      rw [Int32.lt_iff_toInt_lt] at q ⊢
      have e1 : (Int32.ofNat 1).toInt = 1 := by decide
      have e0 : (Int32.ofNat 0).toInt = 0 := by decide
      omega
    rw [if_pos this, inR_neg q]; rfl
  · simp only [z_lt hk (show 1 < 2147483648 by decide), z_lt (show n < 2147483648 by omega) hk, inR_n (show n + 1 < 2147483648 by omega) hk, z_eq hk (show 0 < 2147483648 by decide)]
    by_cases h0 : k = 0
    · rw [if_pos (by omega), decide_eq_true h0]; simp [bI]
    · rw [if_neg (by omega), decide_eq_false h0]
      by_cases h : n < k
      · rw [if_pos h, decide_eq_false (by omega)]; rfl
      · rw [if_neg h, decide_eq_true (by omega)]; rfl
theorem f_isFrom1 {x : Int32} {n : Nat} {μ : dtM} (hn : n < 2147483647) : f_X12_isFrom x.toInt64 (Int64.ofNat 1) (Int64.ofNat n) μ = some (bI (inR x (n + 1) && !decide (x = Int32.ofNat 0)), μ) := by
  by_cases h0 : x = Int32.ofNat 0
  · subst h0
    simp only [f_X12_isFrom, f_X12_isFrom_17, f_X12_isFrom_18, o_ret0]
    rw [if_pos (by decide)]
    simp [bI]
  · have a := f_isFrom (x := x) (n := n) (μ := μ) hn
    have b : (lg_cmp x.toInt64 (Int64.ofNat 1) < 0) = (lg_cmp x.toInt64 (Int64.ofNat 0) < 0) := by
      rcases z_cases x with q | ⟨k, hk, rfl⟩
      · have l0 : x.toInt64 < Int64.ofNat 0 := by
          rw [Int64.lt_iff_toInt_lt, Int32.toInt_toInt64]
          exact Int32.lt_iff_toInt_lt.mp q
        have l1 : x.toInt64 < Int64.ofNat 1 := by
          rw [Int64.lt_iff_toInt_lt] at l0 ⊢
          have e1 : (Int64.ofNat 1).toInt = 1 := by decide
          have e0 : (Int64.ofNat 0).toInt = 0 := by decide
          omega
        have c : ∀ y : Int64, x.toInt64 < y → lg_cmp x.toInt64 y < 0 := by
          intro y hy
          unfold lg_cmp
          have h1 : ¬ x.toInt64 > y := by
            rw [gt_iff_lt, Int64.lt_iff_toInt_lt]
            rw [Int64.lt_iff_toInt_lt] at hy
            omega
          have h2 : ¬ x.toInt64 = y := by
            intro e
            rw [e, Int64.lt_iff_toInt_lt] at hy
            omega
          rw [if_neg h1, if_neg h2]
          decide
        exact propext ⟨fun _ => c _ l0, fun _ => c _ l1⟩
      · have hk0 : ¬ k = 0 := fun e => h0 (by rw [e])
        rw [j_of hk]
        have n1 : ¬ lg_cmp (Int64.ofNat k) (Int64.ofNat 1) < 0 := by
          unfold lg_cmp
          simp only [gt_iff_lt, j_lt (show 1 < 9223372036854775808 by decide) (show k < 9223372036854775808 by omega), j_eq (show k < 9223372036854775808 by omega) (show 1 < 9223372036854775808 by decide)]
          by_cases h : 1 < k
          · rw [if_pos h]; decide
          · rw [if_neg h, if_pos (by omega)]; decide
        have n0 : ¬ lg_cmp (Int64.ofNat k) (Int64.ofNat 0) < 0 := by
          unfold lg_cmp
          simp only [gt_iff_lt, j_lt (show 0 < 9223372036854775808 by decide) (show k < 9223372036854775808 by omega), j_eq (show k < 9223372036854775808 by omega) (show 0 < 9223372036854775808 by decide)]
          by_cases h : 0 < k
          · rw [if_pos h]; decide
          · rw [if_neg h, if_pos (by omega)]; decide
        exact propext ⟨fun x => absurd x n1, fun x => absurd x n0⟩
    simp only [f_X12_isFrom] at a ⊢
    simp only [b]
    rw [a, decide_eq_false h0]
    simp

theorem cs47 {μ : dtM} {w : aW} {f : aF} {A : aH} {z : aZ} (HP : RP μ w f A z) (HM : RM μ f A z) (W : dWF A (zD z)) (x y : Int32) : both (f_X11_game 0 x y) (f_X12_game 133 x y) μ := by
  have C := HP.c
  have HH := HP.ph
  have g5 := HP.g5
  have hnr := HH.nr
  have hnd := HH.nd
  have hnw := HH.nw
  have hnp := HH.np
  cases hq : inR x (hs A 3)
  · refine both.no HP HM W (-Int32.ofNat 1) (Int32.ofNat 1) ?_ (fun μ1 R1 => ?_)
    · simp only [f_X11_game, f_X11_game_20, g5, C.v0, HH.rv, HH.hasPerson, hq, p_fail C, o_bind, o_call, z_lit, b0, o_ret0', o_ret1', o_bI, Bool.true_eq_false, Bool.false_eq_true, eq_self, if_true, if_false]
    · have C1 := R1.c
      have M1 := R1.mh
      simp only [f_X12_game, f_X12_game_33, f_X12_game_38, C1.v133, M1.r0, M1.isPerson, hq, n_refuse C1, o_bind, o_call, z_lit, b0, o_ret0', o_ret1', o_bI, Bool.true_eq_false, Bool.false_eq_true, eq_self, if_true, if_false]
  · cases hq2 : inR y 5
    · refine both.no HP HM W (-Int32.ofNat 1) (Int32.ofNat 1) ?_ (fun μ1 R1 => ?_)
      · simp only [f_X11_game, f_X11_game_20, g5, C.v0, HH.rv, HH.hasPerson, hq, hq2, f_within0 (show 4 < 2147483647 by decide), p_fail C, o_bind, o_call, z_lit, b0, o_ret0', o_ret1', o_bI, Bool.true_eq_false, Bool.false_eq_true, eq_self, if_true, if_false]
      · have C1 := R1.c
        have M1 := R1.mh
        simp only [f_X12_game, f_X12_game_33, f_X12_game_38, C1.v133, M1.r0, M1.isPerson, hq, hq2, j_lit, f_isFrom (show 4 < 2147483647 by decide), n_refuse C1, o_bind, o_call, z_lit, b0, o_ret0', o_ret1', o_bI, Bool.true_eq_false, Bool.false_eq_true, eq_self, if_true, if_false]
    · obtain ⟨p, hp, rfl⟩ := inR_t (by omega) hq
      obtain ⟨n, hn, rfl⟩ := inR_t (by omega) hq2
      have pr := (HH.pers hp).1
      refine both.out HP HM W (v := Int32.ofNat (Vg A (ht A 8 p) n 0 (hs A 5))) (st := Int32.ofNat 0) ?_ (fun μ1 R1 => ?_)
      · obtain ⟨μ2, e2, F2⟩ := HH.outcome HP.hh C pr (show n ≤ 4 by omega)
        refine ⟨μ2, ?_, F2.wide (fun k j x => by have : k = 129 := x; unfold ScP; omega)⟩
        have C2 := C.kept F2
        simp only [f_X11_game, g5, C.v0, HH.rv, HH.hasPerson, hq, hq2, f_within0 (show 4 < 2147483647 by decide), C.g0_16, HH.r14, HH.l8 hp, o_Rv C.s128, e2, C2.v0, p_ans C2, o_bind, o_call, z_lit, b0, o_ret0', o_ret1', o_bI, Bool.true_eq_false, Bool.false_eq_true, eq_self, if_true, if_false]
      · have C1 := R1.c
        have M1 := R1.mh
        obtain ⟨μ2, e2, F2, _⟩ := M1.playing C1 hp (show n ≤ 4 by omega)
        have C2 := C1.kept F2
        refine ⟨μ2, ?_, F2.wide (fun k j x => by have := x.1; have := x.2; unfold ScM; omega)⟩
        simp only [f_X12_game, f_X12_game_38, C1.v133, M1.isPerson, hq, hq2, j_lit, f_isFrom (show 4 < 2147483647 by decide), e2, C2.v133, n_gives C2, o_bind, o_call, z_lit, b0, o_ret0', o_ret1', o_bI, Bool.true_eq_false, Bool.false_eq_true, eq_self, if_true, if_false]
theorem cs48 {μ : dtM} {w : aW} {f : aF} {A : aH} {z : aZ} (HP : RP μ w f A z) (HM : RM μ f A z) (W : dWF A (zD z)) (x y : Int32) : both (f_X11_moveOf 0 x y) (f_X12_moveOf 133 x y) μ := by
  have C := HP.c
  have HH := HP.ph
  have g5 := HP.g5
  have hnr := HH.nr
  have hnd := HH.nd
  have hnw := HH.nw
  have hnp := HH.np
  cases hq : inR x (hs A 3)
  · refine both.no HP HM W (-Int32.ofNat 1) (Int32.ofNat 1) ?_ (fun μ1 R1 => ?_)
    · simp only [f_X11_moveOf, f_X11_moveOf_20, g5, C.v0, HH.rv, HH.hasPerson, hq, p_fail C, o_bind, o_call, z_lit, b0, o_ret0', o_ret1', o_bI, Bool.true_eq_false, Bool.false_eq_true, eq_self, if_true, if_false]
    · have C1 := R1.c
      have M1 := R1.mh
      simp only [f_X12_moveOf, f_X12_moveOf_20, C1.v133, M1.r0, M1.isPerson, hq, n_refuse C1, o_bind, o_call, z_lit, b0, o_ret0', o_ret1', o_bI, Bool.true_eq_false, Bool.false_eq_true, eq_self, if_true, if_false]
  · cases hq2 : (inR y 5 && !decide (y = Int32.ofNat 0))
    · refine both.no HP HM W (-Int32.ofNat 1) (Int32.ofNat 1) ?_ (fun μ1 R1 => ?_)
      · simp only [f_X11_moveOf, f_X11_moveOf_20, g5, C.v0, HH.rv, HH.hasPerson, hq, hq2, f_within1 (show 4 < 2147483647 by decide), p_fail C, o_bind, o_call, z_lit, b0, o_ret0', o_ret1', o_bI, Bool.true_eq_false, Bool.false_eq_true, eq_self, if_true, if_false]
      · have C1 := R1.c
        have M1 := R1.mh
        simp only [f_X12_moveOf, f_X12_moveOf_20, C1.v133, M1.r0, M1.isPerson, hq, hq2, j_lit, f_isFrom1 (show 4 < 2147483647 by decide), n_refuse C1, o_bind, o_call, z_lit, b0, o_ret0', o_ret1', o_bI, Bool.true_eq_false, Bool.false_eq_true, eq_self, if_true, if_false]
    · obtain ⟨p, hp, rfl⟩ := inR_t (by omega) hq
      obtain ⟨n, hn1, hn, rfl⟩ := (inR1 (show 4 < 2147483647 by decide)).mp hq2
      have pr := (HH.pers hp).1
      refine both.out HP HM W (v := oN (mvP A (ht A 8 p) n)) (st := oS (mvP A (ht A 8 p) n)) ?_ (fun μ1 R1 => ?_)
      · obtain ⟨μ2, e2, F2⟩ := HH.bestMove HP.hh C pr hn hn1
        refine ⟨μ2, ?_, F2.wide (fun k j x => by have : k = 129 := x; unfold ScP; omega)⟩
        have C2 := C.kept F2
        have hv : ∀ v, mvP A (ht A 8 p) n = some v → v < 2147483648 := fun v e => by have := mvP_lt e; omega
        simp only [f_X11_moveOf, g5, C.v0, HH.rv, HH.hasPerson, hq, hq2, f_within1 (show 4 < 2147483647 by decide), C.g0_16, HH.r14, HH.l8 hp, o_Rv C.s128, e2, C2.v0, p_found C2 hv, o_bind, o_call, z_lit, b0, o_ret0', o_ret1', o_bI, Bool.true_eq_false, Bool.false_eq_true, eq_self, if_true, if_false]
      · have C1 := R1.c
        have M1 := R1.mh
        obtain ⟨μ2, e2, F2, b2⟩ := M1.playing C1 hp hn
        have C2 := C1.kept F2
        have b3 := b2 hn1
        have M2 := M1.kept F2 ⟨fun _ x => absurd x.1 (by decide), fun _ x => absurd x.1 (by decide), fun _ x => absurd x.1 (by decide)⟩
        have g1 := M2.gj (j := 1) (by decide)
        refine ⟨μ2, ?_, F2.wide (fun k j x => by have := x.1; have := x.2; unfold ScM; omega)⟩
        simp only [f_X12_moveOf, f_X12_moveOf_67, C1.v133, M1.isPerson, hq, hq2, j_lit, f_isFrom1 (show 4 < 2147483647 by decide), e2, C2.v133, C2.g133_32, C2.g133_0, o_LI C2.s149 (show 0 < 5 by decide) (by decide), b3, g1, n_gives C2, n_refuse C2, o_bind, o_call, z_lit, b0, o_ret0', o_ret1', o_bI, Bool.true_eq_false, Bool.false_eq_true, eq_self, if_true, if_false]
        cases e : mvP A (ht A 8 p) n with
        | none => simp only [oN, oS]; rw [if_pos trivial]
        | some d =>
          have := mvP_lt e
          simp (disch := omega) only [oN, oS, z_eq]
          rw [if_neg (by omega)]
