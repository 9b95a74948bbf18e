/-! PURE 41: the way, on both sides; cases far, way, part -/
theorem dlF_oN {A : aH} {o r l : Nat} (hl : l ≤ 6) : (oN (diF A o 7 0 (2 ^ r)) = Int32.ofNat l) = (dlF A o r = l) := by
  unfold dlF
  cases h : diF A o 7 0 (2 ^ r) with
  | none =>
    show (-Int32.ofNat 1 = Int32.ofNat l) = (1000000 = l)
    rw [z_neg' (by omega)]
    exact propext ⟨False.elim, fun x => by omega⟩
  | some i =>
    obtain ⟨t, h1, h2, _⟩ := diF_some 7 0 _ i h
    exact z_eq (by omega) (by omega)
def nxS (A : aH) (o near left : Nat) : Nat → Nat → Option Nat
  | 0, _ => none
  | n + 1, r => if near.testBit r = true ∧ dlF A o r = left then some r else nxS A o near left n (r + 1)
def oD (d : Nat) (x : Option Nat) : Nat := match x with
  | none => d
  | some v => v
theorem PH.nw16 {μ : dtM} {h : Nat} {A : aH} (H : PH μ h A) {o near left at0 : Nat} (ho : o < hs A 0) (hn : near < 128) (hl : left ≤ 6) : ∀ (n f i : Nat), i + n = hs A 0 → n < f → f_X10_nextOnWay_16 f h (Int32.ofNat at0) (Int32.ofNat o) (Int32.ofNat left) (Int32.ofNat near) (Int32.ofNat i) μ = some (Int32.ofNat (oD at0 (nxS A o near left n i)), μ) := by
  have hnr := H.nr
  intro n
  induction n with
  | zero =>
    intro f i e hf
    cases f with
    | zero => omega
    | succ f =>
      simp (disch := omega) only [f_X10_nextOnWay_16, H.g0, o_bind, z_lit, z_le]
      rw [if_pos (by omega)]; rfl
  | succ n ih =>
    intro f i e hf
    cases f with
    | zero => omega
    | succ f =>
      have hi : i < hs A 0 := by omega
      simp (disch := omega) only [f_X10_nextOnWay_16, f_X10_nextOnWay_49, H.g0, o_bind, o_call, z_lit, z_le, f_contains, b0, H.distance hi ho, dlF_oN, z_add]
      rw [if_neg (by omega), nxS]
      cases q : near.testBit i
      · rw [if_pos rfl, if_neg (fun x => absurd x.1 (by decide))]
        exact ih f (i + 1) (by omega) (by omega)
      · rw [if_neg (by decide)]
        by_cases q2 : dlF A o i = left
        · rw [if_pos q2, if_pos ⟨rfl, q2⟩]; rfl
        · rw [if_neg q2, if_neg (fun x => q2 x.2)]
          exact ih f (i + 1) (by omega) (by omega)
def nx (A : aH) (o at0 : Nat) : Nat := oD at0 (nxS A o (hStep A (hs A 5) (2 ^ at0)) (dlF A o at0 - 1) (hs A 0) 0)
def wyF (A : aH) (o : Nat) : Nat → Nat → Nat
  | 0, at0 => at0
  | n + 1, at0 => wyF A o n (nx A o at0)
theorem nxS_some {A : aH} {o near left r : Nat} : ∀ (n i : Nat), nxS A o near left n i = some r → i ≤ r ∧ r < i + n ∧ near.testBit r = true ∧ dlF A o r = left
  | 0, _, h => by cases h
  | n + 1, i, h => by
    rw [nxS] at h
    by_cases q : near.testBit i = true ∧ dlF A o i = left
    · rw [if_pos q] at h
      cases h
      exact ⟨by omega, by omega, q.1, q.2⟩
    · rw [if_neg q] at h
      obtain ⟨a, b, c⟩ := nxS_some n (i + 1) h
      exact ⟨by omega, by omega, c⟩
theorem nxS_none {A : aH} {o near left : Nat} : ∀ (n i : Nat), nxS A o near left n i = none → ∀ r, i ≤ r → r < i + n → ¬ (near.testBit r = true ∧ dlF A o r = left)
  | 0, _, _, _, h1, h2 => by omega
  | n + 1, i, h, r, h1, h2 => by
    rw [nxS] at h
    by_cases q : near.testBit i = true ∧ dlF A o i = left
    · rw [if_pos q] at h; cases h
    · rw [if_neg q] at h
      by_cases e : r = i
      · rw [e]; exact q
      · exact nxS_none n (i + 1) h r (by omega) (by omega)
theorem nx_ok {A : aH} (W : hWF A) {o at0 l : Nat} (ha : at0 < hs A 0) (hd : dlF A o at0 = l + 1) (hl : l + 1 ≤ 6) : ∃ r, nxS A o (hStep A (hs A 5) (2 ^ at0)) l (hs A 0) 0 = some r ∧ nx A o at0 = r ∧ r < hs A 0 ∧ dlF A o r = l := by
  have nr := W.1.1
  obtain ⟨d, u, h1, h2, h3, h4, h5⟩ := dlF_pre W (by omega) hd hl
  have e : nx A o at0 = oD at0 (nxS A o (hStep A (hs A 5) (2 ^ at0)) l (hs A 0) 0) := by
    unfold nx
    rw [hd]; rfl
  cases q : nxS A o (hStep A (hs A 5) (2 ^ at0)) l (hs A 0) 0 with
  | none => exact absurd ⟨hStep_nb h1 h2 h3, h4⟩ (nxS_none _ _ q u (by omega) (by omega))
  | some r =>
    obtain ⟨a, b, c, x⟩ := nxS_some _ _ q
    exact ⟨r, rfl, by rw [e, q]; rfl, by omega, x⟩
theorem PH.nextOnWay {μ : dtM} {h : Nat} {A : aH} (H : PH μ h A) {o at0 l : Nat} (ho : o < hs A 0) (ha : at0 < hs A 0) (hd : dlF A o at0 = l + 1) (hl : l + 1 ≤ 6) : f_X10_nextOnWay h (Int32.ofNat at0) (Int32.ofNat o) (Int32.ofNat l) μ = some (Int32.ofNat (nx A o at0), μ) := by
  have hnr := H.nr
  have hop := H.op1
  have h7 := p128 (show at0 < 7 by omega)
  have hs' := hStep_lt (op := hs A 5) H.2.2 h7
  obtain ⟨r, e1, e2, e3, e4⟩ := nx_ok H.2.2 ha hd hl
  simp (disch := omega) only [f_X10_nextOnWay, H.g5, o_bind, o_call, z_lit, z_bit, H.stepOnce (show hs A 5 < 2147483648 by omega) h7]
  rw [H.nw16 ho hs' (by omega) (hs A 0) dtFuel 0 (by omega) (dtFuel_gt (by omega)), e1, e2]; rfl
theorem PH.rw28 {μ : dtM} {h : Nat} {A : aH} (H : PH μ h A) {o L k : Nat} (ho : o < hs A 0) (hL : L ≤ 6) (hk : k ≤ L) : ∀ (n f i at0 : Nat), i + n = k → n < f → at0 < hs A 0 → dlF A o at0 = L - i → f_X10_roomOnWay_28 f h (Int32.ofNat o) (Int32.ofNat k) (Int32.ofNat L) (Int32.ofNat at0) (Int32.ofNat i) μ = some (Int32.ofNat (wyF A o n at0), μ) := by
  intro n
  induction n with
  | zero =>
    intro f i at0 e hf ha hd
    cases f with
    | zero => omega
    | succ f =>
      simp (disch := omega) only [f_X10_roomOnWay_28, z_le]
      rw [if_pos (by omega)]; rfl
  | succ n ih =>
    intro f i at0 e hf ha hd
    cases f with
    | zero => omega
    | succ f =>
      obtain ⟨r, e1, e2, e3, e4⟩ := nx_ok H.2.2 (o := o) (l := L - i - 1) ha (by omega) (by omega)
      simp (disch := omega) only [f_X10_roomOnWay_28, z_le, z_lit, z_sub, H.nextOnWay (o := o) (l := L - i - 1) ho ha (by omega) (by omega), o_call, z_add]
      rw [if_neg (by omega), wyF]
      exact ih f (i + 1) _ (by omega) (by omega) (by rw [e2]; exact e3) (by rw [e2, e4]; omega)
def wyO (A : aH) (r o k : Nat) : Option Nat := if dlF A o r ≤ 6 ∧ k ≤ dlF A o r then some (wyF A o k r) else none
theorem wyF_lt {A : aH} (W : hWF A) {o : Nat} : ∀ (n at0 : Nat), at0 < hs A 0 → n ≤ dlF A o at0 → dlF A o at0 ≤ 6 → wyF A o n at0 < hs A 0
  | 0, _, h, _, _ => h
  | n + 1, at0, h, h1, h2 => by
    obtain ⟨r, e1, e2, e3, e4⟩ := nx_ok W (o := o) (l := dlF A o at0 - 1) h (by omega) (by omega)
    rw [wyF]
    exact wyF_lt W n _ (by rw [e2]; exact e3) (by rw [e2, e4]; omega) (by rw [e2, e4]; omega)
theorem PH.roomOnWay {μ : dtM} {h : Nat} {A : aH} (H : PH μ h A) {r o k : Nat} (hr : r < hs A 0) (ho : o < hs A 0) (hk : k < 2147483648) : f_X10_roomOnWay h (Int32.ofNat r) (Int32.ofNat o) (Int32.ofNat k) μ = some (oN (wyO A r o k), μ) := by
  have e : diF A o 7 0 (2 ^ r) = if dlF A o r ≤ 6 then some (dlF A o r) else none := by
    unfold dlF
    cases q : diF A o 7 0 (2 ^ r) with
    | none => rfl
    | some i =>
      obtain ⟨t, h1, h2, _⟩ := diF_some 7 0 _ i q
      show some i = if i ≤ 6 then some i else none
      rw [if_pos (by omega)]
  simp only [f_X10_roomOnWay, f_X10_roomOnWay_20, H.distance hr ho, o_call, e, wyO, z_lit]
  by_cases q : dlF A o r ≤ 6
  · have q' : ¬ (oN (some (dlF A o r)) = -Int32.ofNat 1) := fun x => (z_neg (show dlF A o r < 2147483648 by omega)).mp x
    have qz : (Int32.ofNat k ≤ oN (some (dlF A o r))) = (k ≤ dlF A o r) := z_le hk (by omega)
    rw [if_pos q, if_neg q']
    simp only [qz]
    by_cases q2 : k ≤ dlF A o r
    · rw [if_pos q2, if_pos ⟨q, q2⟩]
      show f_X10_roomOnWay_28 dtFuel h (Int32.ofNat o) (Int32.ofNat k) (Int32.ofNat (dlF A o r)) _ _ μ = _
      rw [H.rw28 ho q q2 k dtFuel 0 r (by omega) (dtFuel_gt (by omega)) hr (by omega)]
      rfl
    · rw [if_neg q2, if_neg (fun x => q2 x.2)]; rfl
  · rw [if_neg q, if_pos (show oN none = -Int32.ofNat 1 from rfl), if_neg (fun x => q x.1)]
    rfl
/-! the model's way -/
def exD (A : aH) (r at0 : Nat) : Nat → Nat → Bool
  | 0, _ => false
  | n + 1, d => if (hs A 5).testBit d = true ∧ hBo A d = 2 ^ r ||| 2 ^ at0 then true else exD A r at0 n (d + 1)
theorem MH.nt34 {μ : dtM} {A : aH} (H : MH μ 0 0 A) (C : CX μ) {k2 : Nat → Int32 → Int32 → dtM → Option (Int32 × dtM)} {r at0 : Nat} (hr : r < 7) (ha : at0 < 7) : ∀ (n f i : Nat), i + n = hs A 1 → n < f → f_X12_nextTo_34 k2 f 133 (Int32.ofNat at0) (Int32.ofNat r) (Int32.ofNat i) μ = if exD A r at0 n i = true then some (Int32.ofNat r, μ) else k2 133 (Int32.ofNat at0) (Int32.ofNat (r + 1)) μ := by
  have hnd := H.nd
  have hnr := H.nr
  have g1 := H.g1
  intro n
  induction n with
  | zero =>
    intro f i e hf
    cases f with
    | zero => omega
    | succ f =>
      simp (disch := omega) only [f_X12_nextTo_34, f_X12_nextTo_91, C.g133_0, g1, o_bind, z_lit, z_le, z_add]
      rw [if_pos (by omega), exD, if_neg (by decide)]
  | succ n ih =>
    intro f i e hf
    cases f with
    | zero => omega
    | succ f =>
      have hi : i < hs A 1 := by omega
      have a7 := (H.door hi).1
      have b7 := (H.door hi).2.1
      have d0 := H.doorOf (t := 0) (by decide) hi
      have d1 := H.doorOf (t := 1) (by decide) hi
      have hb := hBo_lt H.2.2 hi
      have hc := or128 (p128 hr) (p128 ha)
      have hb' : 2 ^ ht A 0 i ||| 2 ^ ht A 1 i = hBo A i := rfl
      simp (disch := omega) only [f_X12_nextTo_34, f_X12_nextTo_85, C.g133_0, C.v133, g1, d0, d1, o_bind, o_call, z_lit, z_le, z_add, z_bit, z_or, hb', H.isOpen, b0, z_eq]
      rw [if_neg (by omega), exD]
      cases q : (hs A 5).testBit i
      · rw [if_pos rfl, if_neg (c := _ ∧ _) (fun x => absurd x.1 (by decide))]
        exact ih f (i + 1) (by omega) (by omega)
      · rw [if_neg (by decide)]
        by_cases q2 : hBo A i = 2 ^ r ||| 2 ^ at0
        · rw [if_pos q2, if_pos (c := _ ∧ _) ⟨rfl, q2⟩, if_pos rfl]
        · rw [if_neg q2, if_neg (c := _ ∧ _) (fun x => q2 x.2)]
          exact ih f (i + 1) (by omega) (by omega)
def mxS (A : aH) (o left at0 : Nat) : Nat → Nat → Option Nat
  | 0, _ => none
  | n + 1, r => if dlF A o r = left ∧ exD A r at0 (hs A 1) 0 = true then some r else mxS A o left at0 n (r + 1)
theorem MH.nt2 {μ : dtM} {A : aH} (H : MH μ 0 0 A) (C : CX μ) {o left at0 : Nat} {g : Nat → Nat} (hL : LV μ 145 7 g) (hg : ∀ v, v < hs A 0 → g v = dlF A o v) (ha : at0 < hs A 0) (hd : dlF A o at0 = left + 1) (hl : left + 1 ≤ 6) : ∀ (n f i : Nat), i + n = hs A 0 → n < f → f_X12_nextTo_2 f 133 (Int32.ofNat at0) (Int32.ofNat i) μ = some (oN (mxS A o left at0 n i), μ) := by
  have hnd := H.nd
  have hnr := H.nr
  have g0 := H.gj (j := 0) (by decide)
  intro n
  induction n with
  | zero =>
    intro f i e hf
    cases f with
    | zero => omega
    | succ f =>
      simp (disch := omega) only [f_X12_nextTo_2, C.g133_0, g0, o_bind, z_lit, z_le]
      rw [if_pos (by omega)]; rfl
  | succ n ih =>
    intro f i e hf
    cases f with
    | zero => omega
    | succ f =>
      have hi : i < hs A 0 := by omega
      have x1 := hL.get C.s145 (by decide) (show i < 7 by omega)
      have x2 := hL.get C.s145 (by decide) (show at0 < 7 by omega)
      rw [hg _ hi] at x1
      rw [hg _ ha, hd] at x2
      have hle : dlF A o i < 2147483648 := by rcases dlF_le (A := A) (o := o) (v := i) with q | q <;> omega
      have n34 := H.nt34 C (k2 := f_X12_nextTo_2 f) (r := i) (at0 := at0) (by omega) (by omega) (hs A 1) dtFuel 0 (by omega) (dtFuel_gt (by omega))
      simp (disch := omega) only [f_X12_nextTo_2, f_X12_nextTo_91, C.g133_0, C.g133_28, g0, o_bind, z_lit, z_le, x1, x2, z_sub, Nat.add_sub_cancel, z_eq, n34, z_add]
      rw [if_neg (by omega), mxS]
      by_cases q : dlF A o i = left
      · rw [if_pos q]
        cases q2 : exD A i at0 (hs A 1) 0
        · rw [if_neg (by decide), if_neg (c := _ ∧ _) (fun x => absurd x.2 (by decide))]
          exact ih f (i + 1) (by omega) (by omega)
        · rw [if_pos rfl, if_pos (c := _ ∧ _) ⟨q, rfl⟩]; rfl
      · rw [if_neg q, if_neg (c := _ ∧ _) (fun x => q x.1)]
        exact ih f (i + 1) (by omega) (by omega)
theorem exD_iff {A : aH} {r at0 : Nat} : ∀ (n i : Nat), exD A r at0 n i = true ↔ ∃ d, i ≤ d ∧ d < i + n ∧ (hs A 5).testBit d = true ∧ hBo A d = 2 ^ r ||| 2 ^ at0
  | 0, i => ⟨fun h => (by unfold exD at h; cases h), fun ⟨d, h1, h2, _⟩ => (by omega)⟩
  | n + 1, i => by
    rw [exD]
    by_cases q : (hs A 5).testBit i = true ∧ hBo A i = 2 ^ r ||| 2 ^ at0
    · rw [if_pos q]
      exact ⟨fun _ => ⟨i, by omega, by omega, q⟩, fun _ => rfl⟩
    · rw [if_neg q, exD_iff n (i + 1)]
      constructor
      · rintro ⟨d, h1, h2, h3⟩
        exact ⟨d, by omega, by omega, h3⟩
      · rintro ⟨d, h1, h2, h3⟩
        by_cases e : d = i
        · rw [e] at h3; exact absurd h3 q
        · exact ⟨d, by omega, by omega, h3⟩
theorem hBo_two {A : aH} {d r s : Nat} (hrs : ¬ r = s) : hBo A d = 2 ^ r ||| 2 ^ s ↔ (ht A 0 d = r ∧ ht A 1 d = s) ∨ (ht A 1 d = r ∧ ht A 0 d = s) := by
  constructor
  · intro h
    have b1 : (hBo A d).testBit r = true := by rw [h, Nat.testBit_or, Nat.testBit_two_pow]; simp
    have b2 : (hBo A d).testBit s = true := by rw [h, Nat.testBit_or, Nat.testBit_two_pow, Nat.testBit_two_pow]; simp
    rw [hBo_bit] at b1 b2
    simp only [Bool.or_eq_true, decide_eq_true_eq] at b1 b2
    omega
  · rintro (⟨h1, h2⟩ | ⟨h1, h2⟩)
    · unfold hBo; rw [h1, h2]
    · unfold hBo; rw [h1, h2, Nat.or_comm]
theorem mxS_eq {A : aH} {o left at0 : Nat} (hd : dlF A o at0 = left + 1) : ∀ (n i : Nat), mxS A o left at0 n i = nxS A o (hStep A (hs A 5) (2 ^ at0)) left n i
  | 0, _ => rfl
  | n + 1, i => by
    rw [mxS, nxS, mxS_eq hd n (i + 1)]
    have key : (dlF A o i = left ∧ exD A i at0 (hs A 1) 0 = true) = ((hStep A (hs A 5) (2 ^ at0)).testBit i = true ∧ dlF A o i = left) := by
      apply propext
      by_cases q : dlF A o i = left
      · have hne : ¬ i = at0 := fun e => by rw [e] at q; omega
        rw [exD_iff, hStep_bit]
        constructor
        · rintro ⟨_, d, _, h2, h3, h4⟩
          rw [hBo_two hne] at h4
          refine ⟨Or.inr ⟨d, by omega, h3, ?_⟩, q⟩
          rcases h4 with ⟨a, b⟩ | ⟨a, b⟩
          · exact ⟨Or.inr (two_bit.mpr b.symm), Or.inl a⟩
          · exact ⟨Or.inl (two_bit.mpr b.symm), Or.inr a⟩
        · rintro ⟨h | ⟨d, h2, h3, h4, h5⟩, _⟩
          · exact absurd (two_bit.mp h).symm hne
          · refine ⟨q, d, by omega, by omega, h3, (hBo_two hne).mpr ?_⟩
            rcases h4 with h4 | h4 <;> have h4 := two_bit.mp h4 <;> rcases h5 with h5 | h5
            · omega
            · exact Or.inr ⟨h5, h4.symm⟩
            · exact Or.inl ⟨h5, h4.symm⟩
            · omega
      · exact ⟨fun x => absurd x.1 q, fun x => absurd x.2 q⟩
    simp only [key]
theorem MH.nextTo {μ : dtM} {A : aH} (H : MH μ 0 0 A) (C : CX μ) {o left at0 : Nat} {g : Nat → Nat} (hL : LV μ 145 7 g) (hg : ∀ v, v < hs A 0 → g v = dlF A o v) (ha : at0 < hs A 0) (hd : dlF A o at0 = left + 1) (hl : left + 1 ≤ 6) : f_X12_nextTo 133 (Int32.ofNat at0) μ = some (Int32.ofNat (nx A o at0), μ) := by
  have hnr := H.nr
  obtain ⟨r, e1, e2, e3, e4⟩ := nx_ok H.2.2 ha hd hl
  rw [f_X12_nextTo, z_lit, H.nt2 C hL hg ha hd hl (hs A 0) dtFuel 0 (by omega) (dtFuel_gt (by omega)), mxS_eq hd, e1, e2]; rfl
theorem MH.wy66 {μ : dtM} {A : aH} (H : MH μ 0 0 A) (C : CX μ) {o L k : Nat} {g : Nat → Nat} (hL : LV μ 145 7 g) (hg : ∀ v, v < hs A 0 → g v = dlF A o v) (hL6 : L ≤ 6) (hk : k ≤ L) : ∀ (n f i at0 : Nat), i + n = k → n < f → at0 < hs A 0 → dlF A o at0 = L - i → f_X12_way_66 f 133 (Int32.ofNat k) (Int32.ofNat at0) (Int32.ofNat i) μ = some (Int32.ofNat (wyF A o n at0), dtSI μ 133 2 (Int32.ofNat 0)) := by
  intro n
  induction n with
  | zero =>
    intro f i at0 e hf ha hd
    cases f with
    | zero => omega
    | succ f =>
      simp (disch := omega) only [f_X12_way_66, z_le, C.v133, o_bind, n_gives C, o_call]
      rw [if_pos (by omega)]; rfl
  | succ n ih =>
    intro f i at0 e hf ha hd
    cases f with
    | zero => omega
    | succ f =>
      obtain ⟨r, e1, e2, e3, e4⟩ := nx_ok H.2.2 (o := o) (l := L - i - 1) ha (by omega) (by omega)
      simp (disch := omega) only [f_X12_way_66, z_le, z_lit, C.v133, o_bind, H.nextTo C hL hg (left := L - i - 1) ha (by omega) (by omega), o_call, z_add]
      rw [if_neg (by omega), wyF]
      exact ih f (i + 1) _ (by omega) (by omega) (by rw [e2]; exact e3) (by rw [e2, e4]; omega)
theorem cs40 {μ : dtM} {w : aW} {f : aF} {A : aH} {z : aZ} (HP : RP μ w f A z) (HM : RM μ f A z) (W : dWF A (zD z)) (x y : Int32) : both (f_X11_far 0 x y) (f_X12_far 133 x y) μ := by
  have C := HP.c
  have HH := HP.ph
  have g5 := HP.g5
  have hnr := HH.nr
  have hnd := HH.nd
  have hnw := HH.nw
  have hnp := HH.np
  cases hq : inR x (hs A 0)
  · refine both.no HP HM W (-Int32.ofNat 1) (Int32.ofNat 1) ?_ (fun μ1 R1 => ?_)
    · simp only [f_X11_far, f_X11_far_22, g5, C.v0, HH.rv, HH.hasRoom, hq, p_fail C, o_bind, o_call, z_lit, b0, o_ret0', o_ret1', o_bI, Bool.true_eq_false, Bool.false_eq_true, eq_self, if_true, if_false]
    · have C1 := R1.c
      have M1 := R1.mh
      simp only [f_X12_far, f_X12_far_16, C1.v133, M1.r0, M1.isRoom, hq, n_refuse C1, o_bind, o_call, z_lit, b0, o_ret0', o_ret1', o_bI, Bool.true_eq_false, Bool.false_eq_true, eq_self, if_true, if_false]
  · cases hq2 : inR y (hs A 0)
    · refine both.no HP HM W (-Int32.ofNat 1) (Int32.ofNat 1) ?_ (fun μ1 R1 => ?_)
      · simp only [f_X11_far, f_X11_far_22, g5, C.v0, HH.rv, HH.hasRoom, hq, hq2, p_fail C, o_bind, o_call, z_lit, b0, o_ret0', o_ret1', o_bI, Bool.true_eq_false, Bool.false_eq_true, eq_self, if_true, if_false]
      · have C1 := R1.c
        have M1 := R1.mh
        simp only [f_X12_far, f_X12_far_16, C1.v133, M1.r0, M1.isRoom, hq, hq2, n_refuse C1, o_bind, o_call, z_lit, b0, o_ret0', o_ret1', o_bI, Bool.true_eq_false, Bool.false_eq_true, eq_self, if_true, if_false]
    · obtain ⟨r, hr, rfl⟩ := inR_t (by omega) hq
      obtain ⟨s, hs', rfl⟩ := inR_t (by omega) hq2
      refine both.out HP HM W (v := oN (diF A s 7 0 (2 ^ r))) (st := oS (diF A s 7 0 (2 ^ r))) ⟨μ, ?_, Fr.rf⟩ (fun μ1 R1 => ?_)
      · have hv : ∀ v, diF A s 7 0 (2 ^ r) = some v → v < 2147483648 := fun v e => by
          obtain ⟨t, h1, h2, _⟩ := diF_some 7 0 _ v e
          omega
        simp only [f_X11_far, g5, C.v0, HH.rv, HH.hasRoom, hq, hq2, HH.distance hr hs', p_found C hv, o_bind, o_call, z_lit, b0, o_ret0', o_ret1', o_bI, Bool.true_eq_false, Bool.false_eq_true, eq_self, if_true, if_false]
      · have C1 := R1.c
        have M1 := R1.mh
        obtain ⟨μ2, e2, F2, hL⟩ := M1.laysFar C1 (o := s) (by omega)
        have C2 := C1.kept F2
        have x1 := hL.get C2.s145 (by decide) (show r < 7 by omega)
        rw [frn_eq M1.2.2 hs' hr] at x1
        refine ⟨μ2, ?_, F2.wide (fun k j x => by unfold ScM; have : k = 145 := x; omega)⟩
        have hle : dlF A s r < 2147483648 := by rcases dlF_le (A := A) (o := s) (v := r) with q | q <;> omega
        simp only [f_X12_far, f_X12_far_58, C1.v133, M1.isRoom, hq, hq2, e2, C2.g133_28, x1, C2.v133, n_gives C2, n_refuse C2, z_lt hle (show 1000000 < 2147483648 by decide), o_bind, o_call, z_lit, b0, o_ret0', o_ret1', o_bI, Bool.true_eq_false, Bool.false_eq_true, eq_self, if_true, if_false]
        unfold dlF
        cases e : diF A s 7 0 (2 ^ r) with
        | none => rw [if_neg (by decide)]; rfl
        | some i =>
          obtain ⟨t, h1, h2, _⟩ := diF_some 7 0 _ i e
          simp only
          rw [if_pos (by omega)]; rfl
theorem cs41 {μ : dtM} {w : aW} {f : aF} {A : aH} {z : aZ} (HP : RP μ w f A z) (HM : RM μ f A z) (W : dWF A (zD z)) (x y k : Int32) : both (f_X11_way 0 x y k) (f_X12_way 133 x y k) μ := by
  have C := HP.c
  have HH := HP.ph
  have g5 := HP.g5
  have hnr := HH.nr
  have hnd := HH.nd
  have hnw := HH.nw
  have hnp := HH.np
  cases hq : inR x (hs A 0)
  · refine both.no HP HM W (-Int32.ofNat 1) (Int32.ofNat 1) ?_ (fun μ1 R1 => ?_)
    · simp only [f_X11_way, f_X11_way_26, g5, C.v0, HH.rv, HH.hasRoom, hq, p_fail C, o_bind, o_call, z_lit, b0, o_ret0', o_ret1', o_bI, Bool.true_eq_false, Bool.false_eq_true, eq_self, if_true, if_false]
    · have C1 := R1.c
      have M1 := R1.mh
      simp only [f_X12_way, f_X12_way_20, C1.v133, M1.r0, M1.isRoom, hq, n_refuse C1, o_bind, o_call, z_lit, b0, o_ret0', o_ret1', o_bI, Bool.true_eq_false, Bool.false_eq_true, eq_self, if_true, if_false]
  · cases hq2 : inR y (hs A 0)
    · refine both.no HP HM W (-Int32.ofNat 1) (Int32.ofNat 1) ?_ (fun μ1 R1 => ?_)
      · simp only [f_X11_way, f_X11_way_26, g5, C.v0, HH.rv, HH.hasRoom, hq, hq2, p_fail C, o_bind, o_call, z_lit, b0, o_ret0', o_ret1', o_bI, Bool.true_eq_false, Bool.false_eq_true, eq_self, if_true, if_false]
      · have C1 := R1.c
        have M1 := R1.mh
        simp only [f_X12_way, f_X12_way_20, C1.v133, M1.r0, M1.isRoom, hq, hq2, n_refuse C1, o_bind, o_call, z_lit, b0, o_ret0', o_ret1', o_bI, Bool.true_eq_false, Bool.false_eq_true, eq_self, if_true, if_false]
    · obtain ⟨r, hr, rfl⟩ := inR_t (by omega) hq
      obtain ⟨s, hs', rfl⟩ := inR_t (by omega) hq2
      rcases z_cases k with hk | ⟨k, hk, rfl⟩
      · refine both.no HP HM W (-Int32.ofNat 1) (Int32.ofNat 1) ?_ (fun μ1 R1 => ?_)
        · simp only [f_X11_way, f_X11_way_26, g5, C.v0, HH.rv, HH.hasRoom, hq, hq2, z_le0n hk, p_fail C, o_bind, o_call, z_lit, b0, o_ret0', o_ret1', o_bI, Bool.true_eq_false, Bool.false_eq_true, eq_self, if_true, if_false]
        · have C1 := R1.c
          have M1 := R1.mh
          simp only [f_X12_way, f_X12_way_20, C1.v133, M1.r0, M1.isRoom, hq, hq2, z_le0n hk, n_refuse C1, o_bind, o_call, z_lit, b0, o_ret0', o_ret1', o_bI, Bool.true_eq_false, Bool.false_eq_true, eq_self, if_true, if_false]
      · refine both.out HP HM W (v := oN (wyO A r s k)) (st := oS (wyO A r s k)) ⟨μ, ?_, Fr.rf⟩ (fun μ1 R1 => ?_)
        · have hv : ∀ v, wyO A r s k = some v → v < 2147483648 := fun v e => by
            unfold wyO at e
            by_cases q : dlF A s r ≤ 6 ∧ k ≤ dlF A s r
            · rw [if_pos q] at e
              have := wyF_lt HH.2.2 (o := s) k r hr q.2 q.1
              cases e; omega
            · rw [if_neg q] at e; cases e
          simp only [f_X11_way, g5, C.v0, HH.rv, HH.hasRoom, hq, hq2, z_le0 hk, HH.roomOnWay hr hs' hk, p_found C hv, o_bind, o_call, z_lit, b0, o_ret0', o_ret1', o_bI, Bool.true_eq_false, Bool.false_eq_true, eq_self, if_true, if_false]
        · have C1 := R1.c
          have M1 := R1.mh
          obtain ⟨μ2, e2, F2, hL⟩ := M1.laysFar C1 (o := s) (by omega)
          have C2 := C1.kept F2
          have M2 := M1.k145 F2
          have x1 := hL.get C2.s145 (by decide) (show r < 7 by omega)
          rw [frn_eq M1.2.2 hs' hr] at x1
          refine ⟨μ2, ?_, F2.wide (fun k j x => by unfold ScM; have : k = 145 := x; omega)⟩
          have hle : dlF A s r < 2147483648 := by rcases dlF_le (A := A) (o := s) (v := r) with q | q <;> omega
          simp only [f_X12_way, f_X12_way_53, C1.v133, M1.isRoom, hq, hq2, z_le0 hk, e2, C2.g133_28, x1, C2.v133, n_refuse C2, z_le (show 1000000 < 2147483648 by decide) hle, z_le hk hle, o_bind, o_call, z_lit, b0, o_ret0', o_ret1', o_bI, Bool.true_eq_false, Bool.false_eq_true, eq_self, if_true, if_false]
          unfold wyO
          by_cases q : dlF A s r ≤ 6
          · rw [if_neg (by omega)]
            by_cases q2 : k ≤ dlF A s r
            · rw [if_pos q2, if_pos ⟨q, q2⟩, M2.wy66 C2 hL (fun v hv => frn_eq M1.2.2 hs' hv) q q2 k dtFuel 0 r (by omega) (dtFuel_gt (by omega)) hr (by omega)]; rfl
            · rw [if_neg q2, if_neg (fun x => q2 x.2)]; rfl
          · rw [if_pos (by rcases dlF_le (A := A) (o := s) (v := r) with x | x <;> omega), if_neg (fun x => q x.1)]; rfl
theorem cs42 {μ : dtM} {w : aW} {f : aF} {A : aH} {z : aZ} (HP : RP μ w f A z) (HM : RM μ f A z) (W : dWF A (zD z)) (x : Int32) : both (f_X11_part 0 x) (f_X12_part 133 x) μ := by
  have C := HP.c
  have HH := HP.ph
  have g5 := HP.g5
  have hnr := HH.nr
  have hnd := HH.nd
  have hnw := HH.nw
  have hnp := HH.np
  have hop := HH.op1
  cases hq : inR x (hs A 0)
  · refine both.no HP HM W (-Int32.ofNat 1) (Int32.ofNat 1) ?_ (fun μ1 R1 => ?_)
    · simp only [f_X11_part, g5, C.v0, HH.rv, HH.hasRoom, hq, p_fail C, o_bind, o_call, z_lit, b0, o_ret0', o_ret1', o_bI, Bool.true_eq_false, Bool.false_eq_true, eq_self, if_true, if_false]
    · have C1 := R1.c
      have M1 := R1.mh
      simp only [f_X12_part, f_X12_part_33, C1.v133, M1.r0, M1.isRoom, hq, n_refuse C1, o_bind, o_call, z_lit, b0, o_ret0', o_ret1', o_bI, Bool.true_eq_false, Bool.false_eq_true, eq_self, if_true, if_false]
  · obtain ⟨r, hr, rfl⟩ := inR_t (by omega) hq
    have h7 := p128 (show r < 7 by omega)
    refine both.no HP HM W (Int32.ofNat (hReach A (hs A 5) (2 ^ r))) (Int32.ofNat 0) ?_ (fun μ1 R1 => ?_)
    · simp only [f_X11_part, g5, C.v0, HH.rv, HH.hasRoom, hq, HH.g5, z_bit (show r < 32 by omega), HH.reach (show hs A 5 < 2147483648 by omega) h7, p_ans C, o_bind, o_call, z_lit, b0, o_ret0', o_ret1', o_bI, Bool.true_eq_false, Bool.false_eq_true, eq_self, if_true, if_false]
    · have m5 := R1.mh.gj (j := 5) (by decide)
      have C1 := R1.c
      have M1 := R1.mh
      simp only [f_X12_part, f_X12_part_33, C1.v133, M1.r0, M1.isRoom, hq, z_bit (show r < 32 by omega), m5, M1.reaches (show hs A 5 < 2147483648 by omega) h7, hReachM_eq M1.2.2 h7, n_gives C1, o_bind, o_call, z_lit, b0, o_ret0', o_ret1', o_bI, Bool.true_eq_false, Bool.false_eq_true, eq_self, if_true, if_false]
