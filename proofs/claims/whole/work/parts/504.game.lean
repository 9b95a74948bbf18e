/-! PURE 44: the game -/
theorem LV.getN {μ : dtM} {k n N j : Nat} {g : Nat → Nat} (h : LV μ k n g) (hs : dtS μ k = (1, N)) (hN : N < 2147483648) (hj : j < n) (hn : n ≤ N) : opLI 1 μ k (Int32.ofNat j) = some (Int32.ofNat (g j)) := by
  rw [o_LI hs (by omega) hN, h j hj]
def zP (k : Nat) : Int32 := if k = 0 then -Int32.ofNat 1 else Int32.ofNat (k - 1)
theorem zP_s (k : Nat) : zP (k + 1) = Int32.ofNat k := if_neg (by omega)
theorem zP_inc (k : Nat) : zP k + Int32.ofNat 1 = Int32.ofNat k := by
  cases k with
  | zero => decide
  | succ k => rw [zP_s, z_add]
theorem z_dec (k : Nat) : Int32.ofNat k + (-Int32.ofNat 1) = zP k := by
  cases k with
  | zero => decide
  | succ k => rw [zP_s, ← z_add, Int32.add_assoc, show Int32.ofNat 1 + -Int32.ofNat 1 = 0 by decide, Int32.add_zero]
theorem z_dec' (k : Nat) : Int32.ofNat k - Int32.ofNat 1 = zP k := by rw [Int32.sub_eq_add_neg, z_dec]
def rms (A : aH) (r s : Nat) : Nat := pc (hReach A s (2 ^ r))
def vst (l : Nat) (f : Nat → Nat) (s d acc : Nat) : Nat := if s.testBit d = decide (l % 2 = 0) then (if l % 2 = 0 then min (f (s ^^^ 2 ^ d)) acc else max acc (f (s ^^^ 2 ^ d))) else acc
def vnx (A : aH) (l : Nat) (f : Nat → Nat) (s : Nat) : Nat := fo (vst l f s) (hs A 1) 0 (f s)
def Vg (A : aH) (r : Nat) : Nat → Nat → Nat → Nat
  | 0, _, s => rms A r s
  | m + 1, l, s => vnx A l (fun u => Vg A r m (l + 1) u) s
theorem vst_le {l : Nat} {f : Nat → Nat} {s d acc M : Nat} (h1 : acc ≤ M) (h2 : ∀ u, f u ≤ M) : vst l f s d acc ≤ M := by
  have := h2 (s ^^^ 2 ^ d)
  unfold vst
  by_cases q : s.testBit d = decide (l % 2 = 0)
  · rw [if_pos q]
    by_cases x : l % 2 = 0
    · rw [if_pos x]; omega
    · rw [if_neg x]; omega
  · rw [if_neg q]; exact h1
theorem vfo_le {l : Nat} {f : Nat → Nat} {s M : Nat} (h2 : ∀ u, f u ≤ M) : ∀ (n i acc : Nat), acc ≤ M → fo (vst l f s) n i acc ≤ M
  | 0, _, _, h => h
  | n + 1, i, acc, h => vfo_le h2 n (i + 1) _ (vst_le h h2)
theorem Vg_le {A : aH} {r : Nat} : ∀ (m l s : Nat), Vg A r m l s ≤ 10
  | 0, _, _ => pc_le
  | m + 1, l, s => vfo_le (fun u => Vg_le m (l + 1) u) (hs A 1) 0 _ (Vg_le m (l + 1) s)
theorem xor_lt2 {s d n : Nat} (hs' : s < 2 ^ n) (hd : d < n) : s ^^^ 2 ^ d < 2 ^ n := Nat.xor_lt_two_pow hs' (Nat.pow_lt_pow_right (by decide) hd)
theorem xor_dn : ∀ s, s < 1024 → ∀ d, d < 10 → s.testBit d = true → s ^^^ 2 ^ d < s := by decide +kernel
theorem xor_up : ∀ s, s < 1024 → ∀ d, d < 10 → s.testBit d = false → s < s ^^^ 2 ^ d ∧ s ||| 2 ^ d = s ^^^ 2 ^ d := by decide +kernel
/-! the program plays from the end -/
abbrev P129 : Nat → Nat → Prop := fun k _ => k = 129
theorem PH.k129 {μ μ' : dtM} {h : Nat} {A : aH} (H : PH μ h A) (hh : h + 12 < 123) (F : Fr P129 μ μ') : PH μ' h A := H.kept F (fun k _ q _ => by show ¬ k = 129; omega)
theorem sh11 {k4 : Nat → Nat → Int32 → dtM → Option dtM} {h : Nat} {A : aH} (hh : h + 12 < 123) {s : Nat} {f0 : Nat → Nat} (hs' : s < 2 ^ hs A 1) (hf0 : ∀ u, f0 u ≤ 10) : ∀ (n f i : Nat) (g : Nat → Nat) (μ : dtM), i + n = hs A 1 → n < f → PH μ h A → CX μ → LV μ 129 (2 ^ hs A 1) g → g s ≤ 10 → (∀ u, u < s → g u = f0 u) → ∃ μ', f_X10_shutterPlays_11 k4 f 128 h (Int32.ofNat s) (Int32.ofNat i) μ = k4 128 h (zP s) μ' ∧ Fr P129 μ μ' ∧ LV μ' 129 (2 ^ hs A 1) (dtUp g s (fo (vst 0 f0 s) n i (g s))) := by
  intro n
  induction n with
  | zero =>
    intro f i g μ e hf H C hL hg hu
    have hnd := H.nd
    cases f with
    | zero => omega
    | succ f =>
      simp (disch := omega) only [f_X10_shutterPlays_11, H.g1, o_bind, z_lit, z_le, z_dec]
      rw [if_pos (by omega)]
      refine ⟨μ, rfl, Fr.rf, fun j hj => ?_⟩
      rw [hL j hj]
      show _ = Int32.ofNat (if j = s then g s else g j)
      by_cases x : j = s
      · rw [if_pos x, x]
      · rw [if_neg x]
  | succ n ih =>
    intro f i g μ e hf H C hL hg hu
    have hnd := H.nd
    have h2 : 2 ^ hs A 1 ≤ 1024 := Nat.pow_le_pow_right (n := 2) (by decide) hnd
    cases f with
    | zero => omega
    | succ f =>
      rw [fo]
      cases q : s.testBit i
      · obtain ⟨μ2, e2, F2, hL2⟩ := ih f (i + 1) g μ (by omega) (by omega) H C hL hg hu
        refine ⟨μ2, ?_, F2, ?_⟩
        · rw [← e2]
          simp (disch := omega) only [f_X10_shutterPlays_11, f_X10_shutterPlays_55, H.g1, o_bind, o_call, z_lit, z_le, f_contains, q, b0, eq_self, if_true, z_add]
          rw [if_neg (by omega)]
        · rw [show vst 0 f0 s i (g s) = g s from if_neg (by rw [q]; decide)]; exact hL2
      · have hd := xor_dn s (by omega) i (by omega) q
        have hx2 := xor_lt2 (d := i) hs' (by omega)
        have x1 := hL.getN C.s129 (by decide) hs' h2
        have x2 := hL.getN C.s129 (by decide) hx2 h2
        have gu := hu _ hd
        have f1 := hf0 (s ^^^ 2 ^ i)
        have F1 : Fr P129 μ (dtSI μ 129 s (Int32.ofNat (min (g (s ^^^ 2 ^ i)) (g s)))) := Fr.SI rfl
        have eg : vst 0 f0 s i (g s) = min (g (s ^^^ 2 ^ i)) (g s) := by
          rw [gu]
          exact (if_pos (by rw [q]; decide)).trans (if_pos (by decide))
        obtain ⟨μ2, e2, F2, hL2⟩ := ih f (i + 1) (dtUp g s (min (g (s ^^^ 2 ^ i)) (g s))) _ (by omega) (by omega) (H.k129 hh F1) (C.kept F1) hL.SI (by show (if s = s then _ else _) ≤ 10; rw [if_pos rfl]; omega) (fun u hu' => by show (if u = s then _ else _) = _; rw [if_neg (by omega)]; exact hu u hu')
        refine ⟨μ2, ?_, F1.tr F2, ?_⟩
        · rw [← e2]
          simp (disch := omega) only [f_X10_shutterPlays_11, f_X10_shutterPlays_55, H.g1, o_bind, o_call, z_lit, z_le, f_contains, q, b0, Bool.true_eq_false, if_false, C.g128_0, x1, z_bit, z_xor, x2, z_min, o_SI C.s129 (show s < 1024 by omega) (by decide), z_add]
          rw [if_neg (by omega)]
        · intro j hj
          rw [hL2 j hj, eg]
          show Int32.ofNat (if j = s then fo (vst 0 f0 s) n (i + 1) (if s = s then _ else _) else (if j = s then _ else _)) = Int32.ofNat (if j = s then _ else _)
          by_cases x : j = s
          · rw [if_pos x, if_pos x, if_pos rfl]
          · rw [if_neg x, if_neg x, if_neg x]
theorem sh4 {h : Nat} {A : aH} (hh : h + 12 < 123) {f0 : Nat → Nat} (hf0 : ∀ u, f0 u ≤ 10) : ∀ (n f : Nat) (g : Nat → Nat) (μ : dtM), n ≤ 2 ^ hs A 1 → n < f → PH μ h A → CX μ → LV μ 129 (2 ^ hs A 1) g → (∀ u, u < n → g u = f0 u) → (∀ u, n ≤ u → u < 2 ^ hs A 1 → g u = vnx A 0 f0 u) → ∃ μ', f_X10_shutterPlays_4 f 128 h (zP n) μ = some μ' ∧ Fr P129 μ μ' ∧ LV μ' 129 (2 ^ hs A 1) (vnx A 0 f0) := by
  intro n
  induction n with
  | zero =>
    intro f g μ hn hf H C hL h1 h2
    cases f with
    | zero => omega
    | succ f =>
      rw [f_X10_shutterPlays_4, if_pos (by decide)]
      exact ⟨μ, rfl, Fr.rf, fun j hj => by rw [hL j hj, h2 j (by omega) hj]⟩
  | succ n ih =>
    intro f g μ hn hf H C hL h1 h2
    have hnd := H.nd
    have h2' : 2 ^ hs A 1 ≤ 1024 := Nat.pow_le_pow_right (n := 2) (by decide) hnd
    cases f with
    | zero => omega
    | succ f =>
      have hgn := h1 n (by omega)
      obtain ⟨μ1, e1, F1, hL1⟩ := sh11 (k4 := f_X10_shutterPlays_4 f) hh (s := n) (f0 := f0) (by omega) hf0 (hs A 1) dtFuel 0 g μ (by omega) (dtFuel_gt (by omega)) H C hL (by rw [hgn]; exact hf0 n) (fun u hu => h1 u (by omega))
      obtain ⟨μ2, e2, F2, hL2⟩ := ih f (dtUp g n (fo (vst 0 f0 n) (hs A 1) 0 (g n))) μ1 (by omega) (by omega) (H.k129 hh F1) (C.kept F1) hL1 (fun u hu => by show (if u = n then _ else _) = _; rw [if_neg (by omega)]; exact h1 u (by omega)) (fun u hu hu2 => by
        show (if u = n then _ else _) = _
        by_cases x : u = n
        · rw [if_pos x, x, hgn]; rfl
        · rw [if_neg x]; exact h2 u (by omega) hu2)
      refine ⟨μ2, ?_, F1.tr F2, hL2⟩
      rw [← e2, zP_s, f_X10_shutterPlays_4, z_lit]
      rw [if_neg (by rw [z_lt (by omega) (by decide)]; omega)]
      exact e1
theorem op10 {k2 : Nat → Nat → Int32 → Int32 → dtM → Option dtM} {h : Nat} {A : aH} (hh : h + 12 < 123) {s : Nat} {l2 : Int32} {f0 : Nat → Nat} (hs' : s < 2 ^ hs A 1) (hf0 : ∀ u, f0 u ≤ 10) : ∀ (n f i : Nat) (g : Nat → Nat) (μ : dtM), i + n = hs A 1 → n < f → PH μ h A → CX μ → LV μ 129 (2 ^ hs A 1) g → g s ≤ 10 → (∀ u, s < u → u < 2 ^ hs A 1 → g u = f0 u) → ∃ μ', f_X10_openerPlays_10 k2 f 128 h l2 (Int32.ofNat s) (Int32.ofNat i) μ = k2 128 h l2 (Int32.ofNat (s + 1)) μ' ∧ Fr P129 μ μ' ∧ LV μ' 129 (2 ^ hs A 1) (dtUp g s (fo (vst 1 f0 s) n i (g s))) := by
  intro n
  induction n with
  | zero =>
    intro f i g μ e hf H C hL hg hu
    have hnd := H.nd
    cases f with
    | zero => omega
    | succ f =>
      simp (disch := omega) only [f_X10_openerPlays_10, H.g1, o_bind, z_lit, z_le, z_add]
      rw [if_pos (by omega)]
      refine ⟨μ, rfl, Fr.rf, fun j hj => ?_⟩
      rw [hL j hj]
      show _ = Int32.ofNat (if j = s then g s else g j)
      by_cases x : j = s
      · rw [if_pos x, x]
      · rw [if_neg x]
  | succ n ih =>
    intro f i g μ e hf H C hL hg hu
    have hnd := H.nd
    have h2 : 2 ^ hs A 1 ≤ 1024 := Nat.pow_le_pow_right (n := 2) (by decide) hnd
    cases f with
    | zero => omega
    | succ f =>
      rw [fo]
      cases q : s.testBit i
      · obtain ⟨hd, hor⟩ := xor_up s (by omega) i (by omega) q
        have hx2 := xor_lt2 (d := i) hs' (by omega)
        have x1 := hL.getN C.s129 (by decide) hs' h2
        have x2 := hL.getN C.s129 (by decide) hx2 h2
        have gu := hu _ hd hx2
        have f1 := hf0 (s ^^^ 2 ^ i)
        have F1 : Fr P129 μ (dtSI μ 129 s (Int32.ofNat (max (g s) (g (s ^^^ 2 ^ i))))) := Fr.SI rfl
        have eg : vst 1 f0 s i (g s) = max (g s) (g (s ^^^ 2 ^ i)) := by
          rw [gu]
          exact (if_pos (by rw [q]; decide)).trans (if_neg (by decide))
        obtain ⟨μ2, e2, F2, hL2⟩ := ih f (i + 1) (dtUp g s (max (g s) (g (s ^^^ 2 ^ i)))) _ (by omega) (by omega) (H.k129 hh F1) (C.kept F1) hL.SI (by show (if s = s then _ else _) ≤ 10; rw [if_pos rfl]; omega) (fun u hu' hu2 => by show (if u = s then _ else _) = _; rw [if_neg (by omega)]; exact hu u hu' hu2)
        refine ⟨μ2, ?_, F1.tr F2, ?_⟩
        · rw [← e2]
          simp (disch := omega) only [f_X10_openerPlays_10, f_X10_openerPlays_54, H.g1, o_bind, o_call, z_lit, z_le, f_contains, q, b0, eq_self, if_true, C.g128_0, x1, z_bit, z_or, hor, x2, z_max, o_SI C.s129 (show s < 1024 by omega) (by decide), z_add]
          rw [if_neg (by omega)]
        · intro j hj
          rw [hL2 j hj, eg]
          show Int32.ofNat (if j = s then fo (vst 1 f0 s) n (i + 1) (if s = s then _ else _) else (if j = s then _ else _)) = Int32.ofNat (if j = s then _ else _)
          by_cases x : j = s
          · rw [if_pos x, if_pos x, if_pos rfl]
          · rw [if_neg x, if_neg x, if_neg x]
      · obtain ⟨μ2, e2, F2, hL2⟩ := ih f (i + 1) g μ (by omega) (by omega) H C hL hg hu
        refine ⟨μ2, ?_, F2, ?_⟩
        · rw [← e2]
          simp (disch := omega) only [f_X10_openerPlays_10, f_X10_openerPlays_54, H.g1, o_bind, o_call, z_lit, z_le, f_contains, q, b0, Bool.true_eq_false, if_false, z_add]
          rw [if_neg (by omega)]
        · rw [show vst 1 f0 s i (g s) = g s from if_neg (by rw [q]; decide)]; exact hL2
theorem op2 {h : Nat} {A : aH} (hh : h + 12 < 123) {f0 : Nat → Nat} (hf0 : ∀ u, f0 u ≤ 10) : ∀ (n f i : Nat) (g : Nat → Nat) (μ : dtM), i + n = 2 ^ hs A 1 → n < f → PH μ h A → CX μ → LV μ 129 (2 ^ hs A 1) g → (∀ u, u < i → g u = vnx A 1 f0 u) → (∀ u, i ≤ u → u < 2 ^ hs A 1 → g u = f0 u) → ∃ μ', f_X10_openerPlays_2 f 128 h (Int32.ofNat (2 ^ hs A 1)) (Int32.ofNat i) μ = some μ' ∧ Fr P129 μ μ' ∧ LV μ' 129 (2 ^ hs A 1) (vnx A 1 f0) := by
  intro n
  induction n with
  | zero =>
    intro f i g μ e hf H C hL h1 h2
    have hnd := H.nd
    have h2' : 2 ^ hs A 1 ≤ 1024 := Nat.pow_le_pow_right (n := 2) (by decide) hnd
    cases f with
    | zero => omega
    | succ f =>
      rw [f_X10_openerPlays_2, if_pos (by rw [z_le (by omega) (by omega)]; omega)]
      exact ⟨μ, rfl, Fr.rf, fun j hj => by rw [hL j hj, h1 j (by omega)]⟩
  | succ n ih =>
    intro f i g μ e hf H C hL h1 h2
    have hnd := H.nd
    have h2' : 2 ^ hs A 1 ≤ 1024 := Nat.pow_le_pow_right (n := 2) (by decide) hnd
    cases f with
    | zero => omega
    | succ f =>
      have hgn := h2 i (by omega) (by omega)
      obtain ⟨μ1, e1, F1, hL1⟩ := op10 (k2 := f_X10_openerPlays_2 f) hh (s := i) (l2 := Int32.ofNat (2 ^ hs A 1)) (f0 := f0) (by omega) hf0 (hs A 1) dtFuel 0 g μ (by omega) (dtFuel_gt (by omega)) H C hL (by rw [hgn]; exact hf0 i) (fun u hu hu2 => h2 u (by omega) hu2)
      obtain ⟨μ2, e2, F2, hL2⟩ := ih f (i + 1) (dtUp g i (fo (vst 1 f0 i) (hs A 1) 0 (g i))) μ1 (by omega) (by omega) (H.k129 hh F1) (C.kept F1) hL1 (fun u hu => by
        show (if u = i then _ else _) = _
        by_cases x : u = i
        · rw [if_pos x, x, hgn]; rfl
        · rw [if_neg x]; exact h1 u (by omega)) (fun u hu hu2 => by show (if u = i then _ else _) = _; rw [if_neg (by omega)]; exact h2 u (by omega) hu2)
      refine ⟨μ2, ?_, F1.tr F2, hL2⟩
      rw [← e2, f_X10_openerPlays_2, if_neg (by rw [z_le (by omega) (by omega)]; omega)]
      simp only [z_lit]
      exact e1
theorem vst_par {l l' : Nat} (h : l % 2 = l' % 2) : vst l = vst l' := by
  funext f s d acc
  unfold vst
  rw [h]
theorem Vg_s {A : aH} {r m l : Nat} (h : l % 2 = 0) : Vg A r (m + 1) l = vnx A 0 (Vg A r m (l + 1)) := by
  funext s
  show fo (vst l _ s) _ 0 _ = fo (vst 0 _ s) _ 0 _
  rw [vst_par (l := l) (l' := 0) (by omega)]
theorem Vg_o {A : aH} {r m l : Nat} (h : ¬ l % 2 = 0) : Vg A r (m + 1) l = vnx A 1 (Vg A r m (l + 1)) := by
  funext s
  show fo (vst l _ s) _ 0 _ = fo (vst 1 _ s) _ 0 _
  rw [vst_par (l := l) (l' := 1) (by omega)]
theorem pb48 {h : Nat} {A : aH} (hh : h + 12 < 123) {r T : Nat} (hT : T ≤ 4) {to : Nat} : ∀ (n f t : Nat) (μ : dtM), to + n = t → t ≤ T → n < f → PH μ h A → CX μ → LV μ 129 (2 ^ hs A 1) (Vg A r (T - t) t) → ∃ μ', f_X10_playBack_48 f 128 h (Int32.ofNat to) (Int32.ofNat (2 ^ hs A 1)) (zP t) μ = some μ' ∧ Fr P129 μ μ' ∧ LV μ' 129 (2 ^ hs A 1) (Vg A r (T - to) to) := by
  intro n
  induction n with
  | zero =>
    intro f t μ e ht' hf H C hL
    cases f with
    | zero => omega
    | succ f =>
      have hlt : zP t < Int32.ofNat to := by
        have : t = to := by omega
        subst this
        cases t with
        | zero => decide
        | succ t => rw [zP_s, z_lt (by omega) (by omega)]; omega
      rw [f_X10_playBack_48, if_pos hlt]
      have : to = t := by omega
      exact ⟨μ, rfl, Fr.rf, by rw [this]; exact hL⟩
  | succ n ih =>
    intro f t μ e ht' hf H C hL
    have hnd := H.nd
    have h2' : 2 ^ hs A 1 ≤ 1024 := Nat.pow_le_pow_right (n := 2) (by decide) hnd
    cases f with
    | zero => omega
    | succ f =>
      cases t with
      | zero => omega
      | succ t =>
        have eT : T - t = (T - (t + 1)) + 1 := by omega
        have hle := fun u => Vg_le (A := A) (r := r) (T - (t + 1)) (t + 1) u
        rw [zP_s, f_X10_playBack_48, if_neg (by rw [z_lt (by omega) (by omega)]; omega)]
        simp (disch := omega) only [z_lit, z_rem, o_bind, z_eq, o_Rv C.s128]
        by_cases q : t % 2 = 0
        · rw [if_pos q]
          obtain ⟨μ1, e1, F1, hL1⟩ := sh4 hh (A := A) (f0 := Vg A r (T - (t + 1)) (t + 1)) hle (2 ^ hs A 1) dtFuel _ μ (Nat.le_refl _) (dtFuel_gt (by omega)) H C hL (fun u _ => rfl) (fun u a b => by omega)
          obtain ⟨μ2, e2, F2, hL2⟩ := ih f t μ1 (by omega) (by omega) (by omega) (H.k129 hh F1) (C.kept F1) (by rw [eT, Vg_s q]; exact hL1)
          refine ⟨μ2, ?_, F1.tr F2, hL2⟩
          rw [f_X10_shutterPlays, z_lit, o_bind, z_dec', e1, o_bind, f_X10_playBack_79, z_lit, z_dec]
          exact e2
        · rw [if_neg q]
          obtain ⟨μ1, e1, F1, hL1⟩ := op2 hh (A := A) (f0 := Vg A r (T - (t + 1)) (t + 1)) hle (2 ^ hs A 1) dtFuel 0 _ μ (by omega) (dtFuel_gt (by omega)) H C hL (fun u a => by omega) (fun u _ _ => rfl)
          obtain ⟨μ2, e2, F2, hL2⟩ := ih f t μ1 (by omega) (by omega) (by omega) (H.k129 hh F1) (C.kept F1) (by rw [eT, Vg_o q]; exact hL1)
          refine ⟨μ2, ?_, F1.tr F2, hL2⟩
          rw [f_X10_openerPlays, z_lit, e1, o_bind, f_X10_playBack_79, z_lit, z_dec]
          exact e2
theorem pb11 {h : Nat} {A : aH} (hh : h + 12 < 123) {r T to : Nat} (hr : r < hs A 0) (hT : T ≤ 4) (hto : to ≤ T) : ∀ (n f i : Nat) (μ : dtM), i + n = 2 ^ hs A 1 → n < f → PH μ h A → CX μ → LV μ 129 i (rms A r) → ∃ μ', f_X10_playBack_11 f 128 h (Int32.ofNat r) (Int32.ofNat T) (Int32.ofNat to) (Int32.ofNat (2 ^ hs A 1)) (Int32.ofNat i) μ = some μ' ∧ Fr P129 μ μ' ∧ LV μ' 129 (2 ^ hs A 1) (Vg A r (T - to) to) := by
  intro n
  induction n with
  | zero =>
    intro f i μ e hf H C hL
    have hnd := H.nd
    have h2' : 2 ^ hs A 1 ≤ 1024 := Nat.pow_le_pow_right (n := 2) (by decide) hnd
    cases f with
    | zero => omega
    | succ f =>
      rw [f_X10_playBack_11, if_pos (by rw [z_le (by omega) (by omega)]; omega), z_lit, o_bind, z_dec']
      have : i = 2 ^ hs A 1 := by omega
      subst this
      exact pb48 hh hT (T - to) dtFuel T μ (by omega) (Nat.le_refl _) (dtFuel_gt (by omega)) H C (by rw [Nat.sub_self]; exact hL)
  | succ n ih =>
    intro f i μ e hf H C hL
    have hnd := H.nd
    have hnr := H.nr
    have h2' : 2 ^ hs A 1 ≤ 1024 := Nat.pow_le_pow_right (n := 2) (by decide) hnd
    have h7 := p128 (show r < 7 by omega)
    cases f with
    | zero => omega
    | succ f =>
      have hl := hReach_lt H.2.2 (op := i) h7
      have F1 : Fr P129 μ (dtSI μ 129 i (Int32.ofNat (rms A r i))) := Fr.SI rfl
      obtain ⟨μ2, e2, F2, hL2⟩ := ih f (i + 1) _ (by omega) (by omega) (H.k129 hh F1) (C.kept F1) (fun j hj => by
        rw [m_I_SI]
        by_cases q : j = i
        · rw [if_pos ⟨rfl, q⟩, q]
        · rw [if_neg (fun x => q x.2)]; exact hL j (by omega))
      refine ⟨μ2, ?_, F1.tr F2, hL2⟩
      rw [← e2]
      simp (disch := omega) only [f_X10_playBack_11, z_lit, z_le, C.g128_0, o_bind, o_call, z_bit, H.reach (show i < 2147483648 by omega) h7, f_bitCount, o_SI C.s129 (show i < 1024 by omega) (by decide), z_add]
      rw [if_neg (by omega)]
      rfl
theorem pbG {F : Nat → Nat → Int32 → Int32 → Int32 → Int32 → Int32 → dtM → Option dtM} {μ : dtM} {h : Nat} {A : aH} (H : PH μ h A) {a b c : Int32} : ((opGI 3 1 μ h).bind fun x1 => (some ((1 : Int32) <<< (x1 &&& 31))).bind fun x3 => F 128 h a b c x3 (0 : Int32) μ) = F 128 h a b c (Int32.ofNat (2 ^ hs A 1)) (Int32.ofNat 0) μ := by
  have hnd := H.nd
  simp (disch := omega) only [H.g1, o_bind, z_lit, z_bit]
theorem PH.pbE {μ : dtM} {h : Nat} {A : aH} (H : PH μ h A) {a b c : Int32} : f_X10_playBack 128 h a b c μ = f_X10_playBack_11 dtFuel 128 h a b c (Int32.ofNat (2 ^ hs A 1)) (Int32.ofNat 0) μ := pbG (F := f_X10_playBack_11 dtFuel) H
theorem pow_fuel {n : Nat} (h : n ≤ 10) : 2 ^ n < dtFuel := by
  have h2' : 2 ^ n ≤ 1024 := Nat.pow_le_pow_right (n := 2) (by decide) h
  exact dtFuel_gt (by omega)
theorem PH.playBack {μ : dtM} {h : Nat} {A : aH} (H : PH μ h A) (hh : h + 12 < 123) (C : CX μ) {r T to : Nat} (hr : r < hs A 0) (hT : T ≤ 4) (hto : to ≤ T) : ∃ μ', f_X10_playBack 128 h (Int32.ofNat r) (Int32.ofNat T) (Int32.ofNat to) μ = some μ' ∧ Fr P129 μ μ' ∧ LV μ' 129 (2 ^ hs A 1) (Vg A r (T - to) to) := by
  rw [H.pbE]
  have L0 : LV μ 129 0 (rms A r) := fun j hj => absurd hj (Nat.not_lt_zero j)
  exact pb11 hh hr hT hto (2 ^ hs A 1) dtFuel 0 μ (Nat.zero_add _) (pow_fuel H.nd) H C L0
theorem PH.outcome {μ : dtM} {h : Nat} {A : aH} (H : PH μ h A) (hh : h + 12 < 123) (C : CX μ) {r T : Nat} (hr : r < hs A 0) (hT : T ≤ 4) : ∃ μ', f_X10_outcome 128 h (Int32.ofNat r) (Int32.ofNat T) μ = some (Int32.ofNat (Vg A r T 0 (hs A 5)), μ') ∧ Fr P129 μ μ' := by
  have hnd := H.nd
  have h2' : 2 ^ hs A 1 ≤ 1024 := Nat.pow_le_pow_right (n := 2) (by decide) hnd
  obtain ⟨μ1, e1, F1, hL⟩ := H.playBack hh C hr hT (Nat.zero_le T)
  have C1 := C.kept F1
  have x := hL.getN C1.s129 (by decide) H.op h2'
  refine ⟨μ1, ?_, F1⟩
  simp only [f_X10_outcome, o_Rv C.s128, o_bind, z_lit, e1, C1.g128_0, (H.k129 hh F1).g5, x, Nat.sub_zero]
/-! the best move, the program's -/
def bmS (v : Nat → Nat) (op d : Nat) (st : Nat × Option Nat) : Nat × Option Nat := if op.testBit d = true then (if v (op ^^^ 2 ^ d) < st.1 ∨ (v (op ^^^ 2 ^ d) = st.1 ∧ st.2 = none) then (v (op ^^^ 2 ^ d), some d) else st) else st
theorem PH.bm25 {μ : dtM} {h : Nat} {A : aH} (H : PH μ h A) (C : CX μ) {v : Nat → Nat} (hL : LV μ 129 (2 ^ hs A 1) v) (hv : ∀ u, v u ≤ 10) : ∀ (n f i : Nat) (st : Nat × Option Nat), i + n = hs A 1 → n < f → st.1 ≤ 10 → (∀ d, st.2 = some d → d < 10) → f_X10_bestMove_25 f 128 h (Int32.ofNat st.1) (oN st.2) (Int32.ofNat i) μ = some (oN (fo (bmS v (hs A 5)) n i st).2, μ) := by
  have hnd := H.nd
  have hop := H.op
  have hop1 := H.op1
  have h2' : 2 ^ hs A 1 ≤ 1024 := Nat.pow_le_pow_right (n := 2) (by decide) hnd
  intro n
  induction n with
  | zero =>
    intro f i st e hf h1 h2
    cases f with
    | zero => omega
    | succ f =>
      simp (disch := omega) only [f_X10_bestMove_25, H.g1, o_bind, z_le]
      rw [if_pos (by omega)]; rfl
  | succ n ih =>
    intro f i st e hf h1 h2
    cases f with
    | zero => omega
    | succ f =>
      have hx2 := xor_lt2 (d := i) hop (by omega)
      have x := hL.getN C.s129 (by decide) hx2 h2'
      have vx := hv (hs A 5 ^^^ 2 ^ i)
      have ihn : f_X10_bestMove_25 f 128 h (Int32.ofNat (v (hs A 5 ^^^ 2 ^ i))) (Int32.ofNat i) (Int32.ofNat (i + 1)) μ = some (oN (fo (bmS v (hs A 5)) n (i + 1) (v (hs A 5 ^^^ 2 ^ i), some i)).2, μ) := ih f (i + 1) (v (hs A 5 ^^^ 2 ^ i), some i) (by omega) (by omega) vx (fun d hd => by cases hd; omega)
      have ihs := ih f (i + 1) st (by omega) (by omega) h1 h2
      have hoN : (oN st.2 = -Int32.ofNat 1) = (st.2 = none) := by
        cases q : st.2 with
        | none => exact propext ⟨fun _ => rfl, fun _ => rfl⟩
        | some d =>
          have := h2 d q
          show (Int32.ofNat d = -Int32.ofNat 1) = _
          rw [z_neg (by omega)]
          exact propext ⟨False.elim, fun y => by cases y⟩
      simp (disch := omega) only [f_X10_bestMove_25, f_X10_bestMove_79, f_X10_bestMove_87, H.g1, H.g5, H.rv, o_bind, o_call, z_le, z_lit, H.isOpen, b0, C.g128_0, z_bit, z_xor, x, z_lt, z_eq, z_add, hoN, ihn, ihs]
      rw [if_neg (by omega), fo]
      cases q : (hs A 5).testBit i
      · rw [if_pos rfl, show bmS v (hs A 5) i st = st from if_neg (by rw [q]; decide)]
      · rw [if_neg (by decide)]
        have e0 : bmS v (hs A 5) i st = if v (hs A 5 ^^^ 2 ^ i) < st.1 ∨ (v (hs A 5 ^^^ 2 ^ i) = st.1 ∧ st.2 = none) then (v (hs A 5 ^^^ 2 ^ i), some i) else st := if_pos q
        rw [e0]
        by_cases q1 : v (hs A 5 ^^^ 2 ^ i) < st.1
        · rw [if_pos q1, if_pos (Or.inl q1)]
        · rw [if_neg q1]
          by_cases q2 : v (hs A 5 ^^^ 2 ^ i) = st.1
          · rw [if_pos q2]
            by_cases q3 : st.2 = none
            · rw [if_pos q3, if_pos (Or.inr ⟨q2, q3⟩)]
            · rw [if_neg q3, if_neg (fun y => by rcases y with y | y; exact q1 y; exact q3 y.2)]
          · rw [if_neg q2, if_neg (fun y => by rcases y with y | y; exact q1 y; exact q2 y.1)]
def mvP (A : aH) (r T : Nat) : Option Nat := (fo (bmS (Vg A r (T - 1) 1) (hs A 5)) (hs A 1) 0 (Vg A r (T - 1) 1 (hs A 5), none)).2
theorem PH.bestMove {μ : dtM} {h : Nat} {A : aH} (H : PH μ h A) (hh : h + 12 < 123) (C : CX μ) {r T : Nat} (hr : r < hs A 0) (hT : T ≤ 4) (h1 : 1 ≤ T) : ∃ μ', f_X10_bestMove 128 h (Int32.ofNat r) (Int32.ofNat T) μ = some (oN (mvP A r T), μ') ∧ Fr P129 μ μ' := by
  have hnd := H.nd
  have h2' : 2 ^ hs A 1 ≤ 1024 := Nat.pow_le_pow_right (n := 2) (by decide) hnd
  obtain ⟨μ1, e1, F1, hL⟩ := H.playBack hh C hr hT h1
  have C1 := C.kept F1
  have H1 := H.k129 hh F1
  have x := hL.getN C1.s129 (by decide) H.op h2'
  refine ⟨μ1, ?_, F1⟩
  have b : f_X10_bestMove_25 dtFuel 128 h (Int32.ofNat (Vg A r (T - 1) 1 (hs A 5))) (-Int32.ofNat 1) (Int32.ofNat 0) μ1 = some (oN (mvP A r T), μ1) := H1.bm25 C1 hL (fun u => Vg_le _ _ u) (hs A 1) dtFuel 0 (Vg A r (T - 1) 1 (hs A 5), none) (by omega) (dtFuel_gt (by omega)) (Vg_le _ _ _) (fun d hd => by cases hd)
  simp only [f_X10_bestMove, o_Rv C.s128, o_bind, z_lit, e1, C1.g128_0, H1.g5, x, b]
