/-! PURE 12: who hears -/
def lou (s : Nat) : Nat := if s = 3 then 1 else 9 - 3 * s
theorem lou_le {s : Nat} : lou s ≤ 9 := by
  unfold lou
  by_cases h : s = 3
  · rw [if_pos h]; omega
  · rw [if_neg h]; omega
theorem o_loud {s : Nat} (h : s < 4) : opLoud (Int32.ofNat s) = some (Int32.ofNat (lou s)) := by
  have : s = 0 ∨ s = 1 ∨ s = 2 ∨ s = 3 := by omega
  rcases this with e | e | e | e <;> subst e <;> rfl
theorem f_loud {s : Nat} {μ : dtM} (h : s < 4) : f_X12_loud (Int32.ofNat s) μ = some (Int32.ofNat (lou s), μ) := by
  have : s = 0 ∨ s = 1 ∨ s = 2 ∨ s = 3 := by omega
  rcases this with e | e | e | e <;> subst e <;> rfl
def its (A : aH) (more d p : Nat) : Nat := min (mG A more (Int32.ofNat d) (7 * ht A 0 d + ht A 8 p)) (mG A more (Int32.ofNat d) (7 * ht A 1 d + ht A 8 p))
def hHd (A : aH) (more d p s : Nat) : Bool := decide (its A more d p + ht A 9 p < lou s)
theorem PH.comesTo {μ : dtM} {h : Nat} {A : aH} (H : PH μ h A) (G : hHr μ) {g : Nat → Nat} (hL : LV μ 123 7 g) {p s : Nat} (hp : p < hs A 3) (hs4 : s < 4) (hg : g (ht A 8 p) ≤ 1000000) : f_X2_comesTo 122 h (Int32.ofNat p) (Int32.ofNat s) μ = some (bI (decide (g (ht A 8 p) + ht A 9 p < lou s)), μ) := by
  have hr := H.nr
  have h8 := (H.pers hp).1
  have h9 := (H.pers hp).2.1
  have hd := lou_le (s := s)
  have e122 : opGR 2 0 μ 122 = some 123 := o_GR G.1 G.2.1
  simp only [f_X2_comesTo, f_X2_comesTo_31, z_lit, o_loud hs4, o_bind, e122, H.r14, H.r15, H.l8 hp, H.l9 hp, hL.get G.2.2 (by decide) (show ht A 8 p < 7 by omega), z_sub_le (show lou s < 1073741824 by omega) (show g (ht A 8 p) < 1073741824 by omega) (show ht A 9 p < 1073741824 by omega), o_ret0', o_ret1']
  by_cases q : g (ht A 8 p) + ht A 9 p < lou s
  · rw [if_neg (by omega), decide_eq_true q]
  · rw [if_pos (by omega), decide_eq_false q]
theorem its_le {A : aH} (W : hWF A) {more d p : Nat} (hd : d < hs A 1) (hp : p < hs A 3) : its A more d p ≤ 1000000 := by
  have := W.1.1
  have := (W.2.1 d hd).1
  have := (W.2.2.2.1 p hp).1
  have := (mG_E (more := more) (wo := Int32.ofNat d) W).1 (7 * ht A 0 d + ht A 8 p) (by omega)
  unfold its
  omega
theorem MH.isHeard {μ : dtM} {A : aH} (H : MH μ 0 0 A) (L : mLs μ) {more d p s : Nat} (hL : LV μ 142 49 (mG A more (Int32.ofNat d))) (hd : d < hs A 1) (hp : p < hs A 3) (hs4 : s < 4) : f_X12_isHeard 133 (Int32.ofNat p) (Int32.ofNat d) (Int32.ofNat s) μ = some (bI (hHd A more d p s), μ) := by
  have hr := H.nr
  have h8 := (H.pers hp).1
  have h9 := (H.pers hp).2.1
  have a7 := (H.door hd).1
  have b7 := (H.door hd).2.1
  have hdl := lou_le (s := s)
  have hi := its_le (more := more) H.2.2 hd hp
  have hb := (mG_E (more := more) (wo := Int32.ofNat d) H.2.2).1
  have b1 := hb (7 * ht A 0 d + ht A 8 p) (by omega)
  have b2 := hb (7 * ht A 1 d + ht A 8 p) (by omega)
  have p0 := H.personOf (k := 0) (by decide) hp
  have p1 := H.personOf (k := 1) (by decide) hp
  rw [show 8 + 0 = 8 from rfl] at p0
  rw [show 8 + 1 = 9 from rfl] at p1
  have em : min (mG A more (Int32.ofNat d) (7 * ht A 1 d + ht A 8 p)) (mG A more (Int32.ofNat d) (7 * ht A 0 d + ht A 8 p)) = its A more d p := by unfold its; omega
  simp only [f_X12_isHeard, f_X12_isHeard_75, f_X12_isHeard_76, z_lit, H.rv, o_bind, o_call, p0, p1, H.r24 L, H.doorOf (t := 0) (by decide) hd, H.doorOf (t := 1) (by decide) hd, z_mul, z_add, hL.get L.2 (by decide) (show 7 * ht A 0 d + ht A 8 p < 49 by omega), hL.get L.2 (by decide) (show 7 * ht A 1 d + ht A 8 p < 49 by omega), z_min (show mG A more (Int32.ofNat d) (7 * ht A 1 d + ht A 8 p) < 2147483648 by omega) (show mG A more (Int32.ofNat d) (7 * ht A 0 d + ht A 8 p) < 2147483648 by omega), em, z_le (show 1000000 < 2147483648 by decide) (show its A more d p < 2147483648 by omega), f_loud hs4, z_sub_le (show lou s < 1073741824 by omega) (show its A more d p < 1073741824 by omega) (show ht A 9 p < 1073741824 by omega), o_ret0', o_ret1']
  unfold hHd
  by_cases q : its A more d p + ht A 9 p < lou s
  · rw [if_neg (by omega), if_neg (by omega), decide_eq_true q]
  · by_cases q2 : 1000000 ≤ its A more d p
    · rw [if_pos q2, decide_eq_false q]
    · rw [if_neg q2, if_pos (by omega), decide_eq_false q]
/-- the program spreads from the door's rooms: what is lost to a person's room then -/
theorem PH.spreadAt {μ : dtM} {h : Nat} {A : aH} (H : PH μ h A) (G : hHr μ) (hh : h + 12 < 123) {more d : Nat} (hm' : more ≤ 9) (hd : d < hs A 1) : ∃ μ' g, f_X2_spread 122 h (Int32.ofNat (hBo A d)) (Int32.ofNat d) (Int32.ofNat more) μ = some μ' ∧ Fr P123 μ μ' ∧ LV μ' 123 7 g ∧ ∀ p, p < hs A 3 → g (ht A 8 p) = its A more d p := by
  obtain ⟨μ', e, F, hL⟩ := H.spread G hh (wo := Int32.ofNat d) (hBo_lt H.2.2 hd) hm'
  refine ⟨μ', _, e, F, hL, fun p hp => ?_⟩
  exact loss_eq H.2.2 (H.door hd).1 (H.door hd).2.1 (H.pers hp).1
def hS (A : aH) (d s : Nat) (mk : Int32) (p acc : Nat) : Nat := if Int32.ofNat p = mk then acc else if hHd A 0 d p s = true then acc ||| 2 ^ p else acc
def hSet (A : aH) (d s : Nat) (mk : Int32) : Nat := fo (hS A d s mk) (hs A 3) 0 0
theorem PH.k123 {μ μ' : dtM} {h : Nat} {A : aH} (H : PH μ h A) (hh : h + 12 < 123) (F : Fr P123 μ μ') : PH μ' h A := H.kept F (fun k _ q _ => by show ¬ k = 123; omega)
theorem PH.ho18 {μ : dtM} {h : Nat} {A : aH} (H : PH μ h A) (G : hHr μ) {g : Nat → Nat} (hL : LV μ 123 7 g) {d s : Nat} {mk : Int32} (hs4 : s < 4) (hd : d < hs A 1) (hg : ∀ p, p < hs A 3 → g (ht A 8 p) = its A 0 d p) : ∀ (n f i acc : Nat), i + n = hs A 3 → n < f → f_X2_hearersOf_18 f 122 h (Int32.ofNat s) mk (Int32.ofNat acc) (Int32.ofNat i) μ = some (Int32.ofNat (fo (hS A d s mk) n i acc), μ) := by
  have hnp := H.np
  intro n
  induction n with
  | zero =>
    intro f i acc e hf
    cases f with
    | zero => omega
    | succ f =>
      simp only [f_X2_hearersOf_18, H.g3, o_bind, z_lit, z_le (show hs A 3 < 2147483648 by omega) (show i < 2147483648 by omega)]
      rw [if_pos (by omega)]; rfl
  | succ n ih =>
    intro f i acc e hf
    cases f with
    | zero => omega
    | succ f =>
      have hi : i < hs A 3 := by omega
      have hit := its_le (more := 0) H.2.2 hd hi
      have hc := H.comesTo G hL hi hs4 (by rw [hg i hi]; exact hit)
      rw [hg i hi] at hc
      have hc' : f_X2_comesTo 122 h (Int32.ofNat i) (Int32.ofNat s) μ = some (bI (hHd A 0 d i s), μ) := hc
      rw [fo]
      simp only [f_X2_hearersOf_18, f_X2_hearersOf_54, H.g3, o_bind, o_call, z_lit, z_le (show hs A 3 < 2147483648 by omega) (show i < 2147483648 by omega), o_Rv G.1, hc', b0, z_bit (show i < 32 by omega), z_or, z_add]
      rw [if_neg (by omega)]
      unfold hS
      by_cases q : Int32.ofNat i = mk
      · rw [if_pos q, if_pos q]
        exact ih f (i + 1) acc (by omega) (by omega)
      · rw [if_neg q, if_neg q]
        cases hq : hHd A 0 d i s
        · rw [if_pos rfl, if_neg (by decide)]
          exact ih f (i + 1) acc (by omega) (by omega)
        · rw [if_neg (by decide), if_pos rfl]
          exact ih f (i + 1) _ (by omega) (by omega)
theorem PH.hearersOf {μ : dtM} {h : Nat} {A : aH} (H : PH μ h A) (G : hHr μ) (hh : h + 12 < 123) {d s : Nat} {mk : Int32} (hs4 : s < 4) (hd : d < hs A 1) : ∃ μ', f_X2_hearersOf 122 h (Int32.ofNat d) (Int32.ofNat s) mk μ = some (Int32.ofNat (hSet A d s mk), μ') ∧ Fr P123 μ μ' := by
  have hnp := H.np
  obtain ⟨μ', g, e, F, hL, hg⟩ := H.spreadAt G hh (more := 0) (by decide) hd
  refine ⟨μ', ?_, F⟩
  simp only [f_X2_hearersOf, H.rv, o_bind, o_call, H.roomsOfDoor hd, o_Rv G.1, z_lit, e]
  exact (H.k123 hh F).ho18 (G.kept F) hL hs4 hd hg (hs A 3) dtFuel 0 0 (by omega) (dtFuel_gt (by omega))
theorem MH.he12 {μ : dtM} {A : aH} (H : MH μ 0 0 A) (L : mLs μ) {d s : Nat} {mk : Int32} (hL : LV μ 142 49 (mG A 0 (Int32.ofNat d))) (hs4 : s < 4) (hd : d < hs A 1) : ∀ (n f i acc : Nat), i + n = hs A 3 → n < f → f_X12_hearing_12 f 133 (Int32.ofNat d) (Int32.ofNat s) mk (Int32.ofNat acc) (Int32.ofNat i) μ = some (Int32.ofNat (fo (hS A d s mk) n i acc), μ) := by
  have hnp := H.np
  have g3 := H.g3
  intro n
  induction n with
  | zero =>
    intro f i acc e hf
    cases f with
    | zero => omega
    | succ f =>
      simp only [f_X12_hearing_12, H.r0, g3, o_bind, z_lit, z_le (show hs A 3 < 2147483648 by omega) (show i < 2147483648 by omega)]
      rw [if_pos (by omega)]; rfl
  | succ n ih =>
    intro f i acc e hf
    cases f with
    | zero => omega
    | succ f =>
      have hi : i < hs A 3 := by omega
      rw [fo]
      simp only [f_X12_hearing_12, f_X12_hearing_49, f_X12_hearing_50, H.r0, H.rv, g3, o_bind, o_call, z_lit, z_le (show hs A 3 < 2147483648 by omega) (show i < 2147483648 by omega), H.isHeard L hL hd hi hs4, b0, z_bit (show i < 32 by omega), z_or, z_add]
      rw [if_neg (by omega)]
      unfold hS
      by_cases q : Int32.ofNat i = mk
      · rw [if_pos q, if_pos q, Nat.or_zero]
        exact ih f (i + 1) acc (by omega) (by omega)
      · rw [if_neg q, if_neg q]
        cases hq : hHd A 0 d i s
        · rw [if_pos rfl, if_neg (by decide), Nat.or_zero]
          exact ih f (i + 1) acc (by omega) (by omega)
        · rw [if_neg (by decide), if_pos rfl]
          exact ih f (i + 1) _ (by omega) (by omega)
theorem MH.hearing {μ : dtM} {A : aH} (H : MH μ 0 0 A) (L : mLs μ) {d s : Nat} {mk : Int32} (hs4 : s < 4) (hd : d < hs A 1) : ∃ μ', f_X12_hearing 133 (Int32.ofNat d) (Int32.ofNat s) mk μ = some (Int32.ofNat (hSet A d s mk), μ') ∧ Fr P142 μ μ' := by
  have hnp := H.np
  obtain ⟨μ', e, F, hL⟩ := H.laysLoss L (wo := Int32.ofNat d) (more := 0) (by decide)
  refine ⟨μ', ?_, F⟩
  simp only [f_X12_hearing, H.rv, o_bind, z_lit, e]
  exact (H.k142 F).he12 (L.kept F) hL hs4 hd (hs A 3) dtFuel 0 0 (by omega) (dtFuel_gt (by omega))
theorem or_two {acc p i : Nat} : (acc ||| 2 ^ p).testBit i = (acc.testBit i || decide (p = i)) := by rw [Nat.testBit_or, Nat.testBit_two_pow]
theorem hSet_bit {A : aH} {d s : Nat} {mk : Int32} (p : Nat) : (hSet A d s mk).testBit p = (decide (p < hs A 3) && (!decide (Int32.ofNat p = mk) && hHd A 0 d p s)) := by
  have := fo_ind (N := hs A 3) (f := hS A d s mk) (P := fun n acc => ∀ q, acc.testBit q = (decide (q < n) && (!decide (Int32.ofNat q = mk) && hHd A 0 d q s))) (fun i acc hi ha q => ?_) (hs A 3) 0 0 (by omega) (fun q => by rw [Nat.zero_testBit]; simp)
  · exact this p
  · unfold hS
    by_cases e : q = i
    · subst e
      by_cases q1 : Int32.ofNat q = mk
      · rw [if_pos q1, ha q]; simp [q1]
      · rw [if_neg q1]
        cases hq : hHd A 0 d q s
        · rw [if_neg (by decide), ha q, hq]; simp
        · rw [if_pos rfl, or_two]; simp [q1]
    · have e' : ¬ i = q := fun x => e x.symm
      have hlt : decide (q < i + 1) = decide (q < i) := decide_eq_decide.mpr (by omega)
      rw [hlt]
      by_cases q1 : Int32.ofNat i = mk
      · rw [if_pos q1]; exact ha q
      · rw [if_neg q1]
        by_cases hq : hHd A 0 d i s = true
        · rw [if_pos hq, or_two, decide_eq_false e', Bool.or_false]; exact ha q
        · rw [if_neg hq]; exact ha q
theorem hSet_lt {A : aH} (W : hWF A) {d s : Nat} {mk : Int32} : hSet A d s mk < 32 := by
  have hn := W.1.2.2.2.1
  refine fo_ind (N := hs A 3) (f := hS A d s mk) (P := fun _ acc => acc < 32) (fun i acc hi ha => ?_) (hs A 3) 0 0 (by omega) (by decide)
  unfold hS
  by_cases q1 : Int32.ofNat i = mk
  · rw [if_pos q1]; exact ha
  · rw [if_neg q1]
    by_cases hq : hHd A 0 d i s = true
    · rw [if_pos hq]; exact z_lt2 (k := 5) ha (by omega)
    · rw [if_neg hq]; exact ha
