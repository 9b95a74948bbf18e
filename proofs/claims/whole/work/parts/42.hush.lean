/-! PURE 13: doors heard, hush, secret -/
def oN (o : Option Nat) : Int32 := match o with
  | none => -Int32.ofNat 1
  | some v => Int32.ofNat v
theorem m_gives {μ : dtM} (h : dtS μ 133 = (0, 12)) (v : Int32) : f_X12_gives 133 v μ = some (v, dtSI μ 133 2 0) := by
  simp only [f_X12_gives, o_PI h, o_bind]
theorem m_refuse {μ : dtM} (h : dtS μ 133 = (0, 12)) (w : Int32) : f_X12_refuse 133 w μ = some (-1, dtSI μ 133 2 w) := by
  simp only [f_X12_refuse, o_PI h, o_bind]
def hDs1 (A : aH) (p s d acc : Nat) : Nat := if hHd A 0 d p s = true then acc ||| 2 ^ d else acc
def hDs (A : aH) (p s : Nat) : Nat := fo (hDs1 A p s) (hs A 1) 0 0
theorem PH.dh6 {h : Nat} {A : aH} (hh : h + 12 < 123) {p s : Nat} (hp : p < hs A 3) (hs4 : s < 4) : ∀ (n f i acc : Nat) (μ : dtM), i + n = hs A 1 → n < f → PH μ h A → hHr μ → ∃ μ', f_X2_doorsHeard_6 f 122 h (Int32.ofNat p) (Int32.ofNat s) (Int32.ofNat acc) (Int32.ofNat i) μ = some (Int32.ofNat (fo (hDs1 A p s) n i acc), μ') ∧ Fr P123 μ μ' := by
  intro n
  induction n with
  | zero =>
    intro f i acc μ e hf H G
    have hnd := H.nd
    cases f with
    | zero => omega
    | succ f =>
      simp only [f_X2_doorsHeard_6, H.g1, o_bind, z_lit, z_le (show hs A 1 < 2147483648 by omega) (show i < 2147483648 by omega)]
      rw [if_pos (by omega)]; exact ⟨μ, rfl, Fr.rf⟩
  | succ n ih =>
    intro f i acc μ e hf H G
    have hnd := H.nd
    cases f with
    | zero => omega
    | succ f =>
      have hi : i < hs A 1 := by omega
      obtain ⟨μ1, g, e1, F1, hL, hg⟩ := H.spreadAt G hh (more := 0) (by decide) hi
      have H1 := H.k123 hh F1
      have G1 := G.kept F1
      have hit := its_le (more := 0) H.2.2 hi hp
      have hc := H1.comesTo G1 hL hp hs4 (by rw [hg p hp]; exact hit)
      rw [hg p hp] at hc
      have hc' : f_X2_comesTo 122 h (Int32.ofNat p) (Int32.ofNat s) μ1 = some (bI (hHd A 0 i p s), μ1) := hc
      obtain ⟨μ2, e2, F2⟩ := ih f (i + 1) (hDs1 A p s i acc) μ1 (by omega) (by omega) H1 G1
      refine ⟨μ2, ?_, F1.tr F2⟩
      rw [fo, ← e2]
      simp only [f_X2_doorsHeard_6, f_X2_doorsHeard_48, H.g1, H.rv, o_bind, o_call, z_lit, z_le (show hs A 1 < 2147483648 by omega) (show i < 2147483648 by omega), H.roomsOfDoor hi, o_Rv G.1, e1, o_Rv G1.1, hc', b0, z_bit (show i < 32 by omega), z_or, z_add]
      rw [if_neg (by omega)]
      unfold hDs1
      cases hq : hHd A 0 i p s
      · rw [if_pos rfl, if_neg (by decide)]
      · rw [if_neg (by decide), if_pos rfl]
theorem PH.doorsHeard {μ : dtM} {h : Nat} {A : aH} (H : PH μ h A) (G : hHr μ) (hh : h + 12 < 123) {p s : Nat} (hp : p < hs A 3) (hs4 : s < 4) : ∃ μ', f_X2_doorsHeard 122 h (Int32.ofNat p) (Int32.ofNat s) μ = some (Int32.ofNat (hDs A p s), μ') ∧ Fr P123 μ μ' := by
  have hnd := H.nd
  rw [f_X2_doorsHeard, z_lit]
  exact PH.dh6 hh hp hs4 (hs A 1) dtFuel 0 0 μ (by omega) (dtFuel_gt (by omega)) H G
theorem MH.hs26 {A : aH} {p s : Nat} (hp : p < hs A 3) (hs4 : s < 4) : ∀ (n f i acc : Nat) (μ : dtM), i + n = hs A 1 → n < f → MH μ 0 0 A → mLs μ → ∃ μ', f_X12_hears_26 f 133 (Int32.ofNat p) (Int32.ofNat s) (Int32.ofNat acc) (Int32.ofNat i) μ = some (Int32.ofNat (fo (hDs1 A p s) n i acc), dtSI μ' 133 2 0) ∧ Fr P142 μ μ' := by
  intro n
  induction n with
  | zero =>
    intro f i acc μ e hf H L
    have hnd := H.nd
    have g1 := H.g1
    cases f with
    | zero => omega
    | succ f =>
      simp only [f_X12_hears_26, H.r0, H.rv, g1, o_bind, z_lit, z_le (show hs A 1 < 2147483648 by omega) (show i < 2147483648 by omega), m_gives H.1.1, o_call]
      rw [if_pos (by omega)]; exact ⟨μ, rfl, Fr.rf⟩
  | succ n ih =>
    intro f i acc μ e hf H L
    have hnd := H.nd
    have hnp := H.np
    have g1 := H.g1
    cases f with
    | zero => omega
    | succ f =>
      have hi : i < hs A 1 := by omega
      obtain ⟨μ1, e1, F1⟩ := H.hearing L (d := i) (s := s) (mk := -Int32.ofNat 1) hs4 hi
      have H1 := H.k142 F1
      have hlt := hSet_lt H.2.2 (d := i) (s := s) (mk := -Int32.ofNat 1)
      obtain ⟨μ2, e2, F2⟩ := ih f (i + 1) (hDs1 A p s i acc) μ1 (by omega) (by omega) H1 (L.kept F1)
      refine ⟨μ2, ?_, F1.tr F2⟩
      rw [fo, ← e2]
      have hb : (hSet A i s (-Int32.ofNat 1)).testBit p = hHd A 0 i p s := by
        have hz : ¬ Int32.ofNat p = -Int32.ofNat 1 := fun q => (z_neg (show p < 2147483648 by omega)).mp q
        rw [hSet_bit, decide_eq_true hp, decide_eq_false hz]
        rfl
      simp only [f_X12_hears_26, f_X12_hears_62, H.r0, H.rv, g1, o_bind, o_call, z_lit, z_le (show hs A 1 < 2147483648 by omega) (show i < 2147483648 by omega), e1, H1.rv, f_isIn (show hSet A i s (-Int32.ofNat 1) < 2147483648 by omega) (show p < 32 by omega), hb, b0, z_bit (show i < 32 by omega), z_or, z_add]
      rw [if_neg (by omega)]
      unfold hDs1
      cases hq : hHd A 0 i p s
      · rw [if_pos rfl, if_neg (by decide), Nat.or_zero]
      · rw [if_neg (by decide), if_pos rfl]
def hu (A : aH) (d p s : Nat) : Nat → Nat → Option Nat
  | 0, _ => none
  | n + 1, i => if hHd A i d p s = true then hu A d p s n (i + 1) else some i
theorem PH.bh3 {h : Nat} {A : aH} (hh : h + 12 < 123) {d p s : Nat} (hd : d < hs A 1) (hp : p < hs A 3) (hs4 : s < 4) : ∀ (n f i : Nat) (μ : dtM), i + n = 10 → n < f → PH μ h A → hHr μ → ∃ μ', f_X2_baizeToHush_3 f 122 h (Int32.ofNat d) (Int32.ofNat s) (Int32.ofNat p) (Int32.ofNat i) μ = some (oN (hu A d p s n i), μ') ∧ Fr P123 μ μ' := by
  intro n
  induction n with
  | zero =>
    intro f i μ e hf H G
    cases f with
    | zero => omega
    | succ f =>
      simp only [f_X2_baizeToHush_3, z_lit, z_lt (show 9 < 2147483648 by decide) (show i < 2147483648 by omega)]
      rw [if_pos (by omega)]; exact ⟨μ, rfl, Fr.rf⟩
  | succ n ih =>
    intro f i μ e hf H G
    cases f with
    | zero => omega
    | succ f =>
      obtain ⟨μ1, g, e1, F1, hL, hg⟩ := H.spreadAt G hh (more := i) (by omega) hd
      have H1 := H.k123 hh F1
      have G1 := G.kept F1
      have hit := its_le (more := i) H.2.2 hd hp
      have hc := H1.comesTo G1 hL hp hs4 (by rw [hg p hp]; exact hit)
      rw [hg p hp] at hc
      have hc' : f_X2_comesTo 122 h (Int32.ofNat p) (Int32.ofNat s) μ1 = some (bI (hHd A i d p s), μ1) := hc
      obtain ⟨μ2, e2, F2⟩ := ih f (i + 1) μ1 (by omega) (by omega) H1 G1
      simp only [f_X2_baizeToHush_3, H.rv, o_bind, o_call, z_lit, z_lt (show 9 < 2147483648 by decide) (show i < 2147483648 by omega), H.roomsOfDoor hd, o_Rv G.1, e1, o_Rv G1.1, hc', b0, z_add]
      rw [if_neg (by omega), hu]
      cases hq : hHd A i d p s
      · rw [if_pos rfl, if_neg (by decide)]
        exact ⟨μ1, rfl, F1⟩
      · rw [if_neg (by decide), if_pos rfl]
        exact ⟨μ2, e2, F1.tr F2⟩
theorem PH.baizeToHush {μ : dtM} {h : Nat} {A : aH} (H : PH μ h A) (G : hHr μ) (hh : h + 12 < 123) {d p s : Nat} (hd : d < hs A 1) (hp : p < hs A 3) (hs4 : s < 4) : ∃ μ', f_X2_baizeToHush 122 h (Int32.ofNat d) (Int32.ofNat s) (Int32.ofNat p) μ = some (oN (hu A d p s 10 0), μ') ∧ Fr P123 μ μ' := by
  rw [f_X2_baizeToHush, z_lit]
  exact PH.bh3 hh hd hp hs4 10 dtFuel 0 μ (by omega) (dtFuel_gt (by decide)) H G
/-- the status behind an answer of which none says that there is none such -/
def oS (o : Option Nat) : Int32 := match o with
  | none => Int32.ofNat 6
  | some _ => Int32.ofNat 0
theorem MH.hu32 {A : aH} {d p s : Nat} (hd : d < hs A 1) (hp : p < hs A 3) (hs4 : s < 4) : ∀ (n f i : Nat) (μ : dtM), i + n = 10 → n < f → MH μ 0 0 A → mLs μ → ∃ μ', f_X12_hush_32 f 133 (Int32.ofNat d) (Int32.ofNat s) (Int32.ofNat p) (Int32.ofNat i) μ = some (oN (hu A d p s n i), dtSI μ' 133 2 (oS (hu A d p s n i))) ∧ Fr P142 μ μ' := by
  intro n
  induction n with
  | zero =>
    intro f i μ e hf H L
    cases f with
    | zero => omega
    | succ f =>
      simp only [f_X12_hush_32, H.rv, m_refuse H.1.1, o_bind, o_call, z_lit, z_lt (show 9 < 2147483648 by decide) (show i < 2147483648 by omega)]
      rw [if_pos (by omega)]; exact ⟨μ, rfl, Fr.rf⟩
  | succ n ih =>
    intro f i μ e hf H L
    cases f with
    | zero => omega
    | succ f =>
      obtain ⟨μ1, e1, F1, hL⟩ := H.laysLoss L (wo := Int32.ofNat d) (more := i) (by omega)
      have H1 := H.k142 F1
      have L1 := L.kept F1
      obtain ⟨μ2, e2, F2⟩ := ih f (i + 1) μ1 (by omega) (by omega) H1 L1
      simp only [f_X12_hush_32, H.rv, o_bind, o_call, z_lit, z_lt (show 9 < 2147483648 by decide) (show i < 2147483648 by omega), e1, H1.rv, H1.isHeard L1 hL hd hp hs4, m_gives H1.1.1, b0, z_add]
      rw [if_neg (by omega), hu]
      cases hq : hHd A i d p s
      · rw [if_pos rfl, if_neg (by decide)]
        exact ⟨μ1, rfl, F1⟩
      · rw [if_neg (by decide), if_pos rfl]
        exact ⟨μ2, e2, F1.tr F2⟩
def hSe (A : aH) (near to bt s : Nat) : Nat → Nat → Option Nat
  | 0, _ => none
  | n + 1, d => if (hs A 5).testBit d = true ∧ (near.testBit (ht A 0 d) = true ∨ near.testBit (ht A 1 d) = true) ∧ hHd A 0 d to s = true ∧ hHd A 0 d bt s = false then some d else hSe A near to bt s n (d + 1)
theorem and_hBo {A : aH} {X d : Nat} : (X &&& hBo A d = 0) = ¬ (X.testBit (ht A 0 d) = true ∨ X.testBit (ht A 1 d) = true) := by
  have h : hGo A (2 ^ d) d X = true ↔ (X.testBit (ht A 0 d) = true ∨ X.testBit (ht A 1 d) = true) := by
    rw [hGo_eq, Nat.testBit_two_pow, decide_eq_true rfl, Bool.true_and, Bool.or_eq_true]
  have h2 : hGo A (2 ^ d) d X = true ↔ ¬ X &&& hBo A d = 0 := by
    rw [hGo, Nat.testBit_two_pow, decide_eq_true rfl, Bool.true_and]
    simp
  apply propext
  rw [← h, h2]
  exact ⟨fun a b => b a, fun a => Classical.byContradiction a⟩
theorem PH.sd21 {h : Nat} {A : aH} (hh : h + 12 < 123) {near to bt s : Nat} (hn : near < 128) (hto : to < hs A 3) (hbt : bt < hs A 3) (hs4 : s < 4) : ∀ (n f i : Nat) (μ : dtM), i + n = hs A 1 → n < f → PH μ h A → hHr μ → ∃ μ', f_X2_secretDoor_21 f 122 h (Int32.ofNat to) (Int32.ofNat bt) (Int32.ofNat s) (Int32.ofNat near) (Int32.ofNat i) μ = some (oN (hSe A near to bt s n i), μ') ∧ Fr P123 μ μ' := by
  intro n
  induction n with
  | zero =>
    intro f i μ e hf H G
    have hnd := H.nd
    cases f with
    | zero => omega
    | succ f =>
      simp only [f_X2_secretDoor_21, H.g1, o_bind, z_lit, z_le (show hs A 1 < 2147483648 by omega) (show i < 2147483648 by omega)]
      rw [if_pos (by omega)]; exact ⟨μ, rfl, Fr.rf⟩
  | succ n ih =>
    intro f i μ e hf H G
    have hnd := H.nd
    cases f with
    | zero => omega
    | succ f =>
      have hi : i < hs A 1 := by omega
      have hb := hBo_lt H.2.2 hi
      have hx : near &&& hBo A i < 128 := Nat.and_lt_two_pow (n := 7) _ hb
      obtain ⟨μ1, g, e1, F1, hL, hg⟩ := H.spreadAt G hh (more := 0) (by decide) hi
      have H1 := H.k123 hh F1
      have G1 := G.kept F1
      have c1 := H1.comesTo G1 hL hto hs4 (by rw [hg to hto]; exact its_le (more := 0) H.2.2 hi hto)
      rw [hg to hto] at c1
      have c1' : f_X2_comesTo 122 h (Int32.ofNat to) (Int32.ofNat s) μ1 = some (bI (hHd A 0 i to s), μ1) := c1
      have c2 := H1.comesTo G1 hL hbt hs4 (by rw [hg bt hbt]; exact its_le (more := 0) H.2.2 hi hbt)
      rw [hg bt hbt] at c2
      have c2' : f_X2_comesTo 122 h (Int32.ofNat bt) (Int32.ofNat s) μ1 = some (bI (hHd A 0 i bt s), μ1) := c2
      obtain ⟨μ2, e2, F2⟩ := ih f (i + 1) μ1 (by omega) (by omega) H1 G1
      obtain ⟨μ3, e3, F3⟩ := ih f (i + 1) μ (by omega) (by omega) H G
      simp only [f_X2_secretDoor_21, f_X2_secretDoor_91, H.g1, H.rv, o_bind, o_call, z_lit, z_le (show hs A 1 < 2147483648 by omega) (show i < 2147483648 by omega), H.isOpen (show i < 32 by omega), H.roomsOfDoor hi, o_Rv G.1, e1, o_Rv G1.1, c1', c2', b0, z_add, z_and, z_eq (show near &&& hBo A i < 2147483648 by omega) (show 0 < 2147483648 by decide), and_hBo]
      rw [if_neg (by omega), hSe]
      by_cases q1 : (hs A 5).testBit i = false
      · rw [if_pos q1, if_neg (by rw [q1]; simp)]
        exact ⟨μ3, e3, F3⟩
      · rw [if_neg q1]
        by_cases q2 : near.testBit (ht A 0 i) = true ∨ near.testBit (ht A 1 i) = true
        · rw [if_neg (fun x => x q2)]
          by_cases q3 : hHd A 0 i to s = false
          · rw [if_pos q3, if_neg (by rw [q3]; simp)]
            exact ⟨μ2, e2, F1.tr F2⟩
          · rw [if_neg q3]
            by_cases q4 : hHd A 0 i bt s = false
            · rw [if_pos q4, if_pos ⟨by simpa using q1, q2, by simpa using q3, q4⟩]
              exact ⟨μ1, rfl, F1⟩
            · rw [if_neg q4, if_neg (fun x => q4 x.2.2.2)]
              exact ⟨μ2, e2, F1.tr F2⟩
        · rw [if_pos q2, if_neg (fun x => q2 x.2.1)]
          exact ⟨μ3, e3, F3⟩
