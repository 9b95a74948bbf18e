/-! PURE 10: the model's losses, its loops -/
abbrev P142 : Nat → Nat → Prop := fun k _ => k = 142
def mLs (μ : dtM) : Prop := dtR μ 133 24 = some 142 ∧ dtS μ 142 = (1, 49)
theorem mLs.kept {μ μ' : dtM} (h : mLs μ) (F : Fr P142 μ μ') : mLs μ' := by
  unfold mLs
  rw [F.S, F.R]
  exact h
theorem MH.k142 {μ μ' : dtM} {A : aH} (H : MH μ 0 0 A) (F : Fr P142 μ μ') : MH μ' 0 0 A := H.kept F ⟨fun _ => show ¬ 133 = 142 by decide, fun _ => show ¬ 134 = 142 by decide, fun _ => show ¬ 135 = 142 by decide⟩
theorem MH.r24 {μ : dtM} {A : aH} (H : MH μ 0 0 A) (G : mLs μ) : opGR 12 24 μ 133 = some 142 := o_GR H.1.1 G.1
theorem z_rem {a b : Nat} (ha : a < 2147483648) (hb : 0 < b ∧ b < 2147483648) : opRem (Int32.ofNat a) (Int32.ofNat b) = some (Int32.ofNat (a % b)) := by
  have hz : ¬ Int32.ofNat b = 0 := by
    rw [show (0 : Int32) = Int32.ofNat 0 from rfl, z_eq hb.2 (by decide)]; omega
  rw [opRem, if_pos hz, ← Int32.ofNat_div ha hb.2, z_mul, z_sub (Nat.div_mul_le_self a b)]
  congr 2
  have := Nat.div_add_mod a b
  rw [Nat.mul_comm] at this
  omega
theorem z_div {a b : Nat} (ha : a < 2147483648) (hb : 0 < b ∧ b < 2147483648) : opDiv (Int32.ofNat a) (Int32.ofNat b) = some (Int32.ofNat (a / b)) := by
  have hz : ¬ Int32.ofNat b = 0 := by
    rw [show (0 : Int32) = Int32.ofNat 0 from rfl, z_eq hb.2 (by decide)]; omega
  rw [opDiv, if_pos hz, ← Int32.ofNat_div ha hb.2]
def hB9 (G : Nat → Nat) : Prop := ∀ k, k < 49 → G k ≤ 1000000
theorem dtUp9 {G : Nat → Nat} {j x : Nat} (hG : hB9 G) (hx : x ≤ 1000000) : hB9 (dtUp G j x) := by
  intro v hv
  unfold dtUp
  by_cases h : v = j
  · rw [if_pos h]; exact hx
  · rw [if_neg h]; exact hG v hv
def flb (c a b : Nat) (G : Nat → Nat) : Nat → Nat := dtUp G (7 * a + b) (min (G (7 * a + c) + G (7 * c + b)) (G (7 * a + b)))
def fla (nr c a : Nat) (G : Nat → Nat) : Nat → Nat := fo (flb c a) nr 0 G
def flc (nr c : Nat) (G : Nat → Nat) : Nat → Nat := fo (fla nr c) nr 0 G
theorem flb_B {nr c a b : Nat} (hnr : nr ≤ 7) (ha : a < nr) (hb : b < nr) {G : Nat → Nat} (h : hB9 G) : hB9 (flb c a b G) := dtUp9 h (Nat.le_trans (Nat.min_le_right _ _) (h _ (by omega)))
theorem fla_B {nr c a : Nat} (hnr : nr ≤ 7) (ha : a < nr) {G : Nat → Nat} (h : hB9 G) : hB9 (fla nr c a G) := fo_ind (P := fun _ G => hB9 G) (fun _ _ hb q => flb_B hnr ha hb q) nr 0 G (by omega) h
theorem flc_B {nr c : Nat} (hnr : nr ≤ 7) {G : Nat → Nat} (h : hB9 G) : hB9 (flc nr c G) := fo_ind (P := fun _ G => hB9 G) (fun _ _ ha q => fla_B hnr ha q) nr 0 G (by omega) h
theorem ll199 {k181 : Nat → Int32 → Int32 → dtM → Option dtM} {k190 : Nat → Int32 → Int32 → Int32 → dtM → Option dtM} {A : aH} {nr c a : Nat} (hnr : nr ≤ 7) (hc : c < nr) (ha : a < nr) : ∀ (n f i : Nat) (G : Nat → Nat) (μ : dtM), i + n = nr → n < f → MH μ 0 0 A → mLs μ → LV μ 142 49 G → hB9 G →
    ∃ μ', f_X12_laysLoss_199 k181 k190 f 133 (Int32.ofNat nr) (Int32.ofNat c) (Int32.ofNat a) (Int32.ofNat i) μ = k190 133 (Int32.ofNat nr) (Int32.ofNat c) (Int32.ofNat (a + 1)) μ' ∧ Fr P142 μ μ' ∧ LV μ' 142 49 (fo (flb c a) n i G) := by
  intro n
  induction n with
  | zero =>
    intro f i G μ e hf H L hL hb
    cases f with
    | zero => omega
    | succ f =>
      simp only [f_X12_laysLoss_199, z_lit, z_le (show nr < 2147483648 by omega) (show i < 2147483648 by omega), z_add]
      rw [if_pos (by omega)]
      exact ⟨μ, rfl, Fr.rf, hL⟩
  | succ n ih =>
    intro f i G μ e hf H L hL hb
    cases f with
    | zero => omega
    | succ f =>
      have b1 := hb (7 * a + i) (by omega)
      have b2 := hb (7 * a + c) (by omega)
      have b3 := hb (7 * c + i) (by omega)
      have F1 : Fr P142 μ (dtSI μ 142 (7 * a + i) (Int32.ofNat (min (G (7 * a + c) + G (7 * c + i)) (G (7 * a + i))))) := Fr.SI rfl
      obtain ⟨μ2, e2, F2, hL2⟩ := ih f (i + 1) (flb c a i G) _ (by omega) (by omega) (H.k142 F1) (L.kept F1) hL.SI (flb_B hnr ha (by omega) hb)
      refine ⟨μ2, ?_, F1.tr F2, hL2⟩
      rw [← e2]
      simp only [f_X12_laysLoss_199, z_lit, z_le (show nr < 2147483648 by omega) (show i < 2147483648 by omega), z_add, z_mul, H.r24 L, o_bind, hL.get L.2 (by decide) (show 7 * a + i < 49 by omega), hL.get L.2 (by decide) (show 7 * a + c < 49 by omega), hL.get L.2 (by decide) (show 7 * c + i < 49 by omega), z_min (show G (7 * a + c) + G (7 * c + i) < 2147483648 by omega) (show G (7 * a + i) < 2147483648 by omega), o_SI L.2 (show 7 * a + i < 49 by omega) (by decide)]
      rw [if_neg (by omega)]
theorem ll190 {k181 : Nat → Int32 → Int32 → dtM → Option dtM} {A : aH} {nr c : Nat} (hnr : nr ≤ 7) (hc : c < nr) : ∀ (n f i : Nat) (G : Nat → Nat) (μ : dtM), i + n = nr → n < f → MH μ 0 0 A → mLs μ → LV μ 142 49 G → hB9 G →
    ∃ μ', f_X12_laysLoss_190 k181 f 133 (Int32.ofNat nr) (Int32.ofNat c) (Int32.ofNat i) μ = k181 133 (Int32.ofNat nr) (Int32.ofNat (c + 1)) μ' ∧ Fr P142 μ μ' ∧ LV μ' 142 49 (fo (fla nr c) n i G) := by
  intro n
  induction n with
  | zero =>
    intro f i G μ e hf H L hL hb
    cases f with
    | zero => omega
    | succ f =>
      simp only [f_X12_laysLoss_190, z_lit, z_le (show nr < 2147483648 by omega) (show i < 2147483648 by omega), z_add]
      rw [if_pos (by omega)]
      exact ⟨μ, rfl, Fr.rf, hL⟩
  | succ n ih =>
    intro f i G μ e hf H L hL hb
    cases f with
    | zero => omega
    | succ f =>
      obtain ⟨μ1, e1, F1, hL1⟩ := ll199 (k181 := k181) (k190 := f_X12_laysLoss_190 k181 f) (A := A) hnr hc (show i < nr by omega) nr dtFuel 0 G μ (by omega) (dtFuel_gt (by omega)) H L hL hb
      obtain ⟨μ2, e2, F2, hL2⟩ := ih f (i + 1) (fla nr c i G) μ1 (by omega) (by omega) (H.k142 F1) (L.kept F1) hL1 (fla_B hnr (by omega) hb)
      refine ⟨μ2, ?_, F1.tr F2, hL2⟩
      rw [← e2, ← e1]
      simp only [f_X12_laysLoss_190, z_lit, z_le (show nr < 2147483648 by omega) (show i < 2147483648 by omega)]
      rw [if_neg (by omega)]
theorem ll181 {A : aH} {nr : Nat} (hnr : nr ≤ 7) : ∀ (n f i : Nat) (G : Nat → Nat) (μ : dtM), i + n = nr → n < f → MH μ 0 0 A → mLs μ → LV μ 142 49 G → hB9 G →
    ∃ μ', f_X12_laysLoss_181 f 133 (Int32.ofNat nr) (Int32.ofNat i) μ = some μ' ∧ Fr P142 μ μ' ∧ LV μ' 142 49 (fo (flc nr) n i G) := by
  intro n
  induction n with
  | zero =>
    intro f i G μ e hf H L hL hb
    cases f with
    | zero => omega
    | succ f =>
      simp only [f_X12_laysLoss_181, z_lit, z_le (show nr < 2147483648 by omega) (show i < 2147483648 by omega)]
      rw [if_pos (by omega)]
      exact ⟨μ, rfl, Fr.rf, hL⟩
  | succ n ih =>
    intro f i G μ e hf H L hL hb
    cases f with
    | zero => omega
    | succ f =>
      obtain ⟨μ1, e1, F1, hL1⟩ := ll190 (k181 := f_X12_laysLoss_181 f) (A := A) hnr (show i < nr by omega) nr dtFuel 0 G μ (by omega) (dtFuel_gt (by omega)) H L hL hb
      obtain ⟨μ2, e2, F2, hL2⟩ := ih f (i + 1) (flc nr i G) μ1 (by omega) (by omega) (H.k142 F1) (L.kept F1) hL1 (flc_B hnr hb)
      refine ⟨μ2, ?_, F1.tr F2, hL2⟩
      rw [← e2, ← e1]
      simp only [f_X12_laysLoss_181, z_lit, z_le (show nr < 2147483648 by omega) (show i < 2147483648 by omega)]
      rw [if_neg (by omega)]
def md (A : aH) (more : Nat) (wo : Int32) (d : Nat) (G : Nat → Nat) : Nat → Nat :=
  if Int32.ofNat d = wo then G else dtUp (dtUp G (7 * ht A 0 d + ht A 1 d) (min (hC A more d) (G (7 * ht A 0 d + ht A 1 d)))) (7 * ht A 1 d + ht A 0 d) (min (hC A more d) (G (7 * ht A 0 d + ht A 1 d)))
theorem md_B {A : aH} (W : hWF A) {more : Nat} {wo : Int32} {d : Nat} (hd : d < hs A 1) {G : Nat → Nat} (h : hB9 G) : hB9 (md A more wo d G) := by
  have := W.1.1
  have := (W.2.1 d hd).1
  have := (W.2.1 d hd).2.1
  have := h (7 * ht A 0 d + ht A 1 d) (by omega)
  unfold md
  by_cases q : Int32.ofNat d = wo
  · rw [if_pos q]; exact h
  · rw [if_neg q]; exact dtUp9 (dtUp9 h (by omega)) (by omega)
theorem ll97 {k48 : Nat → Int32 → Int32 → Int32 → Int32 → dtM → Option dtM} {A : aH} {wo l2 l3 : Int32} {more d : Nat} (hd : d < hs A 1) (hs' : ¬ Int32.ofNat d = wo) {G : Nat → Nat} {μ : dtM} (H : MH μ 0 0 A) (L : mLs μ) (hL : LV μ 142 49 G) (hb : hB9 G) :
    ∃ μ', f_X12_laysLoss_97 k48 133 wo l2 l3 (Int32.ofNat d) (Int32.ofNat (hC A more d)) μ = k48 133 wo l2 l3 (Int32.ofNat (d + 1)) μ' ∧ Fr P142 μ μ' ∧ LV μ' 142 49 (md A more wo d G) := by
  have hr := H.nr
  have a7 := (H.door hd).1
  have b7 := (H.door hd).2.1
  have hc := hC_le (A := A) (more := more) (d := d)
  have b1 := hb (7 * ht A 0 d + ht A 1 d) (by omega)
  have hi : 7 * ht A 0 d + ht A 1 d < 49 := by omega
  have hi2 : 7 * ht A 1 d + ht A 0 d < 49 := by omega
  have F1 : Fr P142 μ (dtSI μ 142 (7 * ht A 0 d + ht A 1 d) (Int32.ofNat (min (hC A more d) (G (7 * ht A 0 d + ht A 1 d))))) := Fr.SI rfl
  have hL1 := hL.SI (j := 7 * ht A 0 d + ht A 1 d) (v := min (hC A more d) (G (7 * ht A 0 d + ht A 1 d)))
  have H1 := H.k142 F1
  have L1 := L.kept F1
  simp only [f_X12_laysLoss_97, f_X12_laysLoss_172, z_lit, H.rv, o_bind, o_call, H.doorOf (t := 0) (by decide) hd, H.doorOf (t := 1) (by decide) hd, z_mul, z_add, H.r24 L, hL.get L.2 (by decide) hi, z_min (show hC A more d < 2147483648 by omega) (show G (7 * ht A 0 d + ht A 1 d) < 2147483648 by omega), o_SI L.2 hi (by decide)]
  generalize dtSI μ 142 (7 * ht A 0 d + ht A 1 d) (Int32.ofNat (min (hC A more d) (G (7 * ht A 0 d + ht A 1 d)))) = μ1 at F1 hL1 H1 L1 ⊢
  have e1 := hL1.get L1.2 (by decide) hi
  rw [show dtUp G (7 * ht A 0 d + ht A 1 d) (min (hC A more d) (G (7 * ht A 0 d + ht A 1 d))) (7 * ht A 0 d + ht A 1 d) = min (hC A more d) (G (7 * ht A 0 d + ht A 1 d)) from if_pos rfl] at e1
  simp only [H1.r24 L1, o_bind, e1, o_SI L1.2 hi2 (by decide)]
  refine ⟨_, rfl, F1.tr (Fr.SI rfl), ?_⟩
  rw [md, if_neg hs']
  exact hL1.SI
theorem ll48 {A : aH} {wo : Int32} {more : Nat} (hm' : more ≤ 9) : ∀ (n f i : Nat) (G : Nat → Nat) (μ : dtM), i + n = hs A 1 → n < f → MH μ 0 0 A → mLs μ → LV μ 142 49 G → hB9 G →
    ∃ μ', f_X12_laysLoss_48 f 133 wo (Int32.ofNat more) (Int32.ofNat (hs A 0)) (Int32.ofNat i) μ = some μ' ∧ Fr P142 μ μ' ∧ LV μ' 142 49 (fo (flc (hs A 0)) (hs A 0) 0 (fo (md A more wo) n i G)) := by
  intro n
  induction n with
  | zero =>
    intro f i G μ e hf H L hL hb
    have hnd := H.nd
    have g1 := H.g1
    cases f with
    | zero => omega
    | succ f =>
      simp only [f_X12_laysLoss_48, z_lit, H.r0, g1, o_bind, z_le (show hs A 1 < 2147483648 by omega) (show i < 2147483648 by omega)]
      rw [if_pos (by omega)]
      exact ll181 H.nr (hs A 0) dtFuel 0 G μ (by omega) (dtFuel_gt (by have := H.nr; omega)) H L hL hb
  | succ n ih =>
    intro f i G μ e hf H L hL hb
    have hnd := H.nd
    have g1 := H.g1
    cases f with
    | zero => omega
    | succ f =>
      have hi : i < hs A 1 := by omega
      have hbz := (H.door hi).2.2.2
      have gb := md_B (more := more) (wo := wo) H.2.2 hi hb
      rw [fo]
      simp only [f_X12_laysLoss_48, f_X12_laysLoss_172, z_lit, H.r0, H.rv, g1, o_bind, o_call, z_le (show hs A 1 < 2147483648 by omega) (show i < 2147483648 by omega), H.isOpen (show i < 32 by omega), H.doorOf (t := 2) (by decide) hi, z_add, z_min (show ht A 2 i + more < 2147483648 by omega) (show 9 < 2147483648 by decide), b0]
      rw [if_neg (by omega)]
      by_cases q : Int32.ofNat i = wo
      · have em : md A more wo i G = G := if_pos q
        rw [em]
        rw [if_pos q]
        exact ih f (i + 1) G μ (by omega) (by omega) H L hL hb
      · rw [if_neg q]
        obtain ⟨μ1, e1, F1, hL1⟩ := ll97 (k48 := f_X12_laysLoss_48 f) (l2 := Int32.ofNat more) (l3 := Int32.ofNat (hs A 0)) (more := more) hi q H L hL hb
        obtain ⟨μ2, e2, F2, hL2⟩ := ih f (i + 1) (md A more wo i G) μ1 (by omega) (by omega) (H.k142 F1) (L.kept F1) hL1 gb
        refine ⟨μ2, ?_, F1.tr F2, hL2⟩
        rw [← e2, ← e1]
        unfold hC
        by_cases hb' : (hs A 5).testBit i = false
        · rw [if_pos hb', if_neg (by rw [hb']; decide)]
        · rw [if_neg hb', if_pos (by simpa using hb')]
def G0 (k : Nat) : Nat := if k % 8 = 0 then 0 else 1000000
theorem G0_B : hB9 G0 := by
  intro k _
  unfold G0
  by_cases h : k % 8 = 0
  · rw [if_pos h]; omega
  · rw [if_neg h]; omega
theorem ll10 {A : aH} {wo : Int32} {more : Nat} (hm' : more ≤ 9) : ∀ (n f i : Nat) (μ : dtM), i + n = 49 → n < f → MH μ 0 0 A → mLs μ → LV μ 142 i G0 →
    ∃ μ', f_X12_laysLoss_10 f 133 wo (Int32.ofNat more) (Int32.ofNat (hs A 0)) (Int32.ofNat i) μ = some μ' ∧ Fr P142 μ μ' ∧ LV μ' 142 49 (fo (flc (hs A 0)) (hs A 0) 0 (fo (md A more wo) (hs A 1) 0 G0)) := by
  intro n
  induction n with
  | zero =>
    intro f i μ e hf H L hL
    cases f with
    | zero => omega
    | succ f =>
      simp only [f_X12_laysLoss_10, z_lit, z_le (show 49 < 2147483648 by decide) (show i < 2147483648 by omega)]
      rw [if_pos (by omega)]
      rw [show i = 49 by omega] at hL
      exact ll48 hm' (hs A 1) dtFuel 0 G0 μ (by omega) (dtFuel_gt (by have := H.nd; omega)) H L hL G0_B
  | succ n ih =>
    intro f i μ e hf H L hL
    cases f with
    | zero => omega
    | succ f =>
      have F1 : Fr P142 μ (dtSI μ 142 i (Int32.ofNat (G0 i))) := Fr.SI rfl
      have hL1 : LV (dtSI μ 142 i (Int32.ofNat (G0 i))) 142 (i + 1) G0 := by
        intro j hj
        rw [m_I_SI]
        by_cases q : j = i
        · rw [if_pos ⟨rfl, q⟩, q]
        · rw [if_neg (fun q' => q q'.2)]; exact hL j (by omega)
      obtain ⟨μ2, e2, F2, hL2⟩ := ih f (i + 1) _ (by omega) (by omega) (H.k142 F1) (L.kept F1) hL1
      refine ⟨μ2, ?_, F1.tr F2, hL2⟩
      rw [← e2]
      simp only [f_X12_laysLoss_10, f_X12_laysLoss_38, z_lit, H.r24 L, o_bind, z_le (show 49 < 2147483648 by decide) (show i < 2147483648 by omega), z_rem (show i < 2147483648 by omega) (show 0 < 8 ∧ 8 < 2147483648 by decide), z_eq (show i % 8 < 2147483648 by omega) (show 0 < 2147483648 by decide), o_SI L.2 (show i < 49 by omega) (by decide), z_add]
      rw [if_neg (by omega)]
      unfold G0
      by_cases q : i % 8 = 0
      · rw [if_pos q, if_pos q]
      · rw [if_neg q, if_neg q]
def mG (A : aH) (more : Nat) (wo : Int32) : Nat → Nat := fo (flc (hs A 0)) (hs A 0) 0 (fo (md A more wo) (hs A 1) 0 G0)
theorem MH.laysLoss {μ : dtM} {A : aH} (H : MH μ 0 0 A) (L : mLs μ) {wo : Int32} {more : Nat} (hm' : more ≤ 9) : ∃ μ', f_X12_laysLoss 133 wo (Int32.ofNat more) μ = some μ' ∧ Fr P142 μ μ' ∧ LV μ' 142 49 (mG A more wo) := by
  have g0 := H.g0
  rw [f_X12_laysLoss]
  simp only [z_lit, H.r0, g0, o_bind]
  exact ll10 hm' 49 dtFuel 0 μ (by omega) (dtFuel_gt (by decide)) H L (fun j hj => absurd hj (Nat.not_lt_zero j))
