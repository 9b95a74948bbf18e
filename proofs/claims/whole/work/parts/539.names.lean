/-! PURE 79: names are one-to-one, and the words of the program's text -/
theorem l_eq0 (a b : Int64) : (lg_cmp a b = (0 : Int32)) = (a = b) := by
  have h1 := l_lt a b
  have h2 := l_gt a b
  apply propext
  constructor
  · intro e
    rw [e] at h1 h2
    have n1 : ¬ a < b := fun x => by
      have : (0 : Int32) < Int32.ofNat 0 := h1 ▸ x
      exact absurd this (by decide)
    have n2 : ¬ b < a := fun x => by
      have : Int32.ofNat 0 < (0 : Int32) := h2 ▸ x
      exact absurd this (by decide)
    exact Int64.le_antisymm (Int64.not_lt.mp n2) (Int64.not_lt.mp n1)
  · intro e
    have n1 : ¬ lg_cmp a b < Int32.ofNat 0 := fun x => by
      have : a < b := h1 ▸ x
      rw [e] at this
      exact Int64.lt_irrefl this
    have n2 : ¬ Int32.ofNat 0 < lg_cmp a b := fun x => by
      have : b < a := h2 ▸ x
      rw [e] at this
      exact Int64.lt_irrefl this
    exact Int32.le_antisymm (Int32.not_lt.mp n2) (Int32.not_lt.mp n1)
/-- digits from 1 on, the last one first -/
def vr (b o : Nat) : List Nat → Nat
  | [] => 0
  | c :: r => vr b o r * b + (o + c)
theorem vr_inj {b o : Nat} : ∀ (l1 l2 : List Nat), (∀ c, c ∈ l1 → 1 ≤ o + c ∧ o + c < b) → (∀ c, c ∈ l2 → 1 ≤ o + c ∧ o + c < b) → vr b o l1 = vr b o l2 → l1 = l2
  | [], [], _, _, _ => rfl
  | [], c :: r, _, h2, e => by
    have := (h2 c List.mem_cons_self).1
    rw [vr, vr] at e; omega
  | c :: r, [], h1, _, e => by
    have := (h1 c List.mem_cons_self).1
    rw [vr, vr] at e; omega
  | c :: r, d :: s, h1, h2, e => by
    have a := h1 c List.mem_cons_self
    have b' := h2 d List.mem_cons_self
    rw [vr, vr] at e
    have m1 : (vr b o r * b + (o + c)) % b = o + c := by rw [Nat.mul_comm, Nat.mul_add_mod, Nat.mod_eq_of_lt a.2]
    have m2 : (vr b o s * b + (o + d)) % b = o + d := by rw [Nat.mul_comm, Nat.mul_add_mod, Nat.mod_eq_of_lt b'.2]
    have ec : o + c = o + d := by rw [← m1, ← m2, e]
    have ed : c = d := by omega
    have hb : 0 < b := by omega
    have ev : vr b o r * b = vr b o s * b := by omega
    have ev' := Nat.eq_of_mul_eq_mul_right hb ev
    rw [ed, vr_inj r s (fun x hx => h1 x (List.mem_cons_of_mem _ hx)) (fun x hx => h2 x (List.mem_cons_of_mem _ hx)) ev']
theorem vr_lt {b o : Nat} : ∀ (l : List Nat), (∀ c, c ∈ l → o + c < b) → vr b o l < b ^ l.length
  | [], _ => by rw [vr, List.length_nil, Nat.pow_zero]; omega
  | c :: r, h => by
    have a := h c List.mem_cons_self
    have i := vr_lt r (fun x hx => h x (List.mem_cons_of_mem _ hx))
    rw [vr, List.length_cons, Nat.pow_succ]
    have : (vr b o r + 1) * b ≤ b ^ r.length * b := Nat.mul_le_mul_right b i
    rw [Nat.succ_mul] at this
    omega
theorem n32_vr (l : List Nat) : n32 l = Int64.ofNat (vr 32 0 l.reverse) := by
  unfold n32
  rw [List.foldl_eq_foldr_reverse]
  generalize l.reverse = r
  induction r with
  | nil => rfl
  | cons c r ih =>
    rw [List.foldr_cons, ih, vr, show (32 : Int64) = Int64.ofNat 32 from rfl, j_mul, j_add, Nat.zero_add]
theorem nOk_rev {l : List Nat} (h : nOk l) : l.reverse.length ≤ 8 ∧ ∀ c, c ∈ l.reverse → 1 ≤ c ∧ c ≤ 26 := ⟨by rw [List.length_reverse]; exact h.1, fun c hc => h.2 c (List.mem_reverse.mp hc)⟩
theorem vr32_lt {l : List Nat} (h : nOk l) : vr 32 0 l.reverse < 1099511627776 := by
  obtain ⟨a, b⟩ := nOk_rev h
  have := vr_lt (b := 32) (o := 0) l.reverse (fun c hc => by have := b c hc; omega)
  exact Nat.lt_of_lt_of_le this (Nat.le_trans (Nat.pow_le_pow_right (by decide) a) (by decide))
theorem n32_inj {l m : List Nat} (h : nOk l) (k : nOk m) : (n32 l = n32 m) = (l = m) := by
  apply propext
  refine ⟨fun e => ?_, fun e => by rw [e]⟩
  have a := vr32_lt h
  have b := vr32_lt k
  rw [n32_vr, n32_vr, j_eq (by omega) (by omega)] at e
  obtain ⟨_, h1⟩ := nOk_rev h
  obtain ⟨_, k1⟩ := nOk_rev k
  have := vr_inj (b := 32) (o := 0) l.reverse m.reverse (fun c hc => by have := h1 c hc; omega) (fun c hc => by have := k1 c hc; omega) e
  exact List.reverse_inj.mp this
theorem nOk_nil : nOk [] := ⟨Nat.zero_le _, fun c hc => by cases hc⟩
theorem n32_0 {l : List Nat} (h : nOk l) (h1 : 1 ≤ l.length) : ¬ n32 l = Int64.ofNat 0 := by
  have e : n32 [] = Int64.ofNat 0 := rfl
  rw [← e, n32_inj h nOk_nil]
  intro x
  rw [x] at h1
  exact absurd h1 (by decide)
theorem sh8 (v d : Nat) (hd : d < 256) : (Int64.ofNat v <<< (8 : Int64)) ||| Int64.ofNat d = Int64.ofNat (v * 256 + d) := by
  have e1 : (v * 256 + d) % 256 = d := by omega
  have e2 : (v * 256 + d) / 256 = v := by omega
  apply Int64.toBitVec_inj.mp
  apply BitVec.eq_of_toNat_eq
  have e8 : (8 : Int64).toBitVec.smod 64 = 8#64 := by decide
  rw [Int64.toBitVec_or, Int64.toBitVec_shiftLeft, e8, Int64.toBitVec_ofNat', Int64.toBitVec_ofNat', Int64.toBitVec_ofNat', BitVec.toNat_or]
  show (BitVec.ofNat 64 v <<< (8#64).toNat).toNat ||| (BitVec.ofNat 64 d).toNat = (BitVec.ofNat 64 (v * 256 + d)).toNat
  rw [show (8#64).toNat = 8 from rfl, BitVec.toNat_shiftLeft, BitVec.toNat_ofNat, BitVec.toNat_ofNat, BitVec.toNat_ofNat, Nat.shiftLeft_eq, show (2 : Nat) ^ 8 = 256 by decide, Nat.mod_eq_of_lt (show d < 2 ^ 64 by omega)]
  have a : (v % 2 ^ 64 * 256) % 2 ^ 64 = (v % 2 ^ 56) * 256 := by
    rw [Nat.mul_mod, Nat.mod_mod, ← Nat.mul_mod, show (2 : Nat) ^ 64 = 256 * 2 ^ 56 by decide, Nat.mul_comm v 256, Nat.mul_mod_mul_left, Nat.mul_comm]
  have b : (v * 256 + d) % 2 ^ 64 = (v % 2 ^ 56) * 256 + d := by
    rw [show (2 : Nat) ^ 64 = 256 * 2 ^ 56 by decide, Nat.mod_mul, e1, e2, Nat.add_comm, Nat.mul_comm]
  rw [a, b]
  have c := Nat.shiftLeft_add_eq_or_of_lt (i := 8) (b := d) (by omega) (v % 2 ^ 56)
  rw [Nat.shiftLeft_eq, show (2 : Nat) ^ 8 = 256 by decide] at c
  exact c.symm
theorem n256_vr {l : List Nat} (h : ∀ c, c ∈ l → c ≤ 26) : n256 l = Int64.ofNat (vr 256 96 l.reverse) := by
  unfold n256
  rw [List.foldl_eq_foldr_reverse]
  have h' : ∀ c, c ∈ l.reverse → c ≤ 26 := fun c hc => h c (List.mem_reverse.mp hc)
  generalize l.reverse = r at h'
  induction r with
  | nil => rfl
  | cons c r ih =>
    rw [List.foldr_cons, ih (fun x hx => h' x (List.mem_cons_of_mem _ hx)), vr]
    have := h' c List.mem_cons_self
    exact sh8 _ _ (by omega)
theorem n256_inj {l m : List Nat} (h : nOk l) (k : nOk m) : (n256 l = n256 m) = (l = m) := by
  apply propext
  refine ⟨fun e => ?_, fun e => by rw [e]⟩
  obtain ⟨h0, h1⟩ := nOk_rev h
  obtain ⟨k0, k1⟩ := nOk_rev k
  have a := vr_lt (b := 256) (o := 96) l.reverse (fun c hc => by have := h1 c hc; omega)
  have b := vr_lt (b := 256) (o := 96) m.reverse (fun c hc => by have := k1 c hc; omega)
  have a2 : vr 256 96 l.reverse < 2 ^ 64 := Nat.lt_of_lt_of_le a (Nat.le_trans (Nat.pow_le_pow_right (by decide) h0) (by decide))
  have b2 : vr 256 96 m.reverse < 2 ^ 64 := Nat.lt_of_lt_of_le b (Nat.le_trans (Nat.pow_le_pow_right (by decide) k0) (by decide))
  rw [n256_vr (fun c hc => (h.2 c hc).2), n256_vr (fun c hc => (k.2 c hc).2)] at e
  have e2 := congrArg (fun x => x.toBitVec.toNat) e
  have e3 : (vr 256 96 l.reverse) % 2 ^ 64 = (vr 256 96 m.reverse) % 2 ^ 64 := e2
  rw [Nat.mod_eq_of_lt a2, Nat.mod_eq_of_lt b2] at e3
  have := vr_inj (b := 256) (o := 96) l.reverse m.reverse (fun c hc => by have := h1 c hc; omega) (fun c hc => by have := k1 c hc; omega) e3
  exact List.reverse_inj.mp this
/-! the texts -/
def chB (T : List Int32) : List Nat → Nat → Bool
  | [], i => decide (T.getD i 0 = (32 : Int32))
  | c :: r, i => decide (T.getD i 0 = Int32.ofNat (96 + c)) && (decide (1 ≤ c) && (decide (c ≤ 26) && chB T r (i + 1)))
def chA (T : List Int32) (N : Nat) : List (List Nat) → Nat → Bool
  | [], i => decide (i = N)
  | w :: ws, i => chB T w i && (decide (i + w.length < N) && chA T N ws (i + w.length + 1))
theorem ch_0 : chA dtTxt0 123 kwS 0 = true := by decide +kernel
theorem ch_1 : chA dtTxt1 124 kwSM 1 = true := by decide +kernel
theorem o_ch0 {i : Nat} (h : i < 123) : opChar 1000002 (Int32.ofNat i) = some (dtTxt0.getD i 0) := by
  have n0 : ¬ Int32.ofNat i < 0 := by rw [show (0 : Int32) = Int32.ofNat 0 from rfl, z_lt0 (by omega)]; exact id
  unfold opChar
  rw [if_pos ⟨Or.inl rfl, fun x => x.elim n0 (fun y => by rw [z_cl (by omega)] at y; omega)⟩, z_cl (by omega)]; rfl
theorem o_ch1 {i : Nat} (h : i < 124) : opChar 1000003 (Int32.ofNat i) = some (dtTxt1.getD i 0) := by
  have n0 : ¬ Int32.ofNat i < 0 := by rw [show (0 : Int32) = Int32.ofNat 0 from rfl, z_lt0 (by omega)]; exact id
  unfold opChar
  rw [if_pos ⟨Or.inr rfl, fun x => x.elim n0 (fun y => by rw [z_cl (by omega)] at y; omega)⟩, z_cl (by omega)]; rfl
theorem o_len0 : opLen 1000002 = some (Int32.ofNat 123) := if_pos (Or.inl rfl)
theorem o_len1 : opLen 1000003 = some (Int32.ofNat 124) := if_pos (Or.inr rfl)
theorem ch_nil {T : List Int32} {i : Nat} (h : chB T [] i = true) : T.getD i 0 = (32 : Int32) := of_decide_eq_true h
theorem ch_cons {T : List Int32} {c i : Nat} {r : List Nat} (h : chB T (c :: r) i = true) : T.getD i 0 = Int32.ofNat (96 + c) ∧ (1 ≤ c ∧ c ≤ 26) ∧ chB T r (i + 1) = true := by
  rw [chB, Bool.and_eq_true, Bool.and_eq_true, Bool.and_eq_true, decide_eq_true_iff, decide_eq_true_iff, decide_eq_true_iff] at h
  exact ⟨h.1, ⟨h.2.1, h.2.2.1⟩, h.2.2.2⟩
theorem fk0 {c F : Nat} {μ : dtM} (g2 : opGI 8 2 μ c = some (Int32.ofNat F)) : ∀ (r : List Nat) (f i num : Nat) (a : Int32), chB dtTxt0 r i = true → i + r.length < 123 → f_X8_findKeyword_12 (f + r.length + 1) c (Int32.ofNat num) a (Int32.ofNat 0) (Int32.ofNat i) μ = f_X8_findKeyword_12 f c (Int32.ofNat (num + 1)) (Int32.ofNat F) (Int32.ofNat 1) (Int32.ofNat (i + r.length + 1)) μ
  | [], f, i, num, a, h, hi => by
    rw [List.length_nil] at hi
    rw [f_X8_findKeyword_12, o_len0, o_bind, if_neg (show ¬ Int32.ofNat 123 ≤ Int32.ofNat i by rw [z_le (by decide) (by omega)]; omega), o_ch0 (by omega), o_bind, if_pos (ch_nil h), if_pos (show Int32.ofNat 0 = (0 : Int32) from rfl), f_X8_findKeyword_52, g2, o_bind, f_X8_findKeyword_96, show (1 : Int32) = Int32.ofNat 1 from rfl, z_add, z_add]; rfl
  | d :: r, f, i, num, a, h, hi => by
    rw [List.length_cons] at hi
    obtain ⟨h1, h2, h3⟩ := ch_cons h
    rw [List.length_cons, show f + (r.length + 1) + 1 = (f + r.length + 1) + 1 by omega, f_X8_findKeyword_12, o_len0, o_bind, if_neg (show ¬ Int32.ofNat 123 ≤ Int32.ofNat i by rw [z_le (by decide) (by omega)]; omega), o_ch0 (by omega), o_bind, h1, if_neg (show ¬ Int32.ofNat (96 + d) = (32 : Int32) by rw [show (32 : Int32) = Int32.ofNat 32 from rfl, z_eq (by omega) (by decide)]; omega), if_pos (show Int32.ofNat 0 = (0 : Int32) from rfl), f_X8_findKeyword_94, f_X8_findKeyword_96, show (1 : Int32) = Int32.ofNat 1 from rfl, z_add]
    have := fk0 g2 r f (i + 1) num a h3 (by omega)
    rw [show i + (r.length + 1) + 1 = i + 1 + r.length + 1 by omega]
    exact this
theorem fk1 {c n F E : Nat} {B : Nat → Int32} {μ : dtM} (T : TXP μ c n B) (g2 : dtI μ c 2 = Int32.ofNat F) (g3 : dtI μ c 3 = Int32.ofNat E) (hE : E ≤ n) : ∀ (r : List Nat) (f i num a : Nat), (∀ j, a ≤ j → j < E → isLo (tx B j) = true) → a ≤ E → chB dtTxt0 r i = true → i + r.length < 123 → f_X8_findKeyword_12 (f + r.length + 1) c (Int32.ofNat num) (Int32.ofNat a) (Int32.ofNat 1) (Int32.ofNat i) μ = if r = wdL (tx B) (E - a) a then some (Int32.ofNat num, μ) else f_X8_findKeyword_12 f c (Int32.ofNat (num + 1)) (Int32.ofNat F) (Int32.ofNat 1) (Int32.ofNat (i + r.length + 1)) μ
  | [], f, i, num, a, lo, ha, h, hi => by
    have n9 := T.2.1
    have o2 : opGI 8 2 μ c = some (Int32.ofNat F) := by rw [T.g 2, g2]
    rw [List.length_nil] at hi
    rw [f_X8_findKeyword_12, o_len0, o_bind, if_neg (show ¬ Int32.ofNat 123 ≤ Int32.ofNat i by rw [z_le (by decide) (by omega)]; omega), o_ch0 (by omega), o_bind, if_pos (ch_nil h), if_neg (show ¬ Int32.ofNat 1 = (0 : Int32) by decide), T.g 3, g3, o_bind]
    by_cases q : a = E
    · rw [if_pos (show Int32.ofNat a = Int32.ofNat E by rw [q]), if_pos (by rw [q, Nat.sub_self]; rfl)]
    · rw [if_neg (show ¬ Int32.ofNat a = Int32.ofNat E by rw [z_eq (by omega) (by omega)]; exact q), if_neg (by rw [show E - a = (E - a - 1) + 1 by omega, wdL]; intro x; cases x), f_X8_findKeyword_52, o2, o_bind, f_X8_findKeyword_96, show (1 : Int32) = Int32.ofNat 1 from rfl, z_add, z_add]; rfl
  | d :: r, f, i, num, a, lo, ha, h, hi => by
    have n9 := T.2.1
    have o2 : opGI 8 2 μ c = some (Int32.ofNat F) := by rw [T.g 2, g2]
    rw [List.length_cons] at hi
    obtain ⟨h1, h2, h3⟩ := ch_cons h
    have z0 := fk0 o2 r f (i + 1) num (Int32.ofNat a) h3 (by omega)
    have e94 : f_X8_findKeyword_94 (f_X8_findKeyword_12 (f + r.length + 1)) c (Int32.ofNat num) (Int32.ofNat a) (Int32.ofNat i) μ = f_X8_findKeyword_12 f c (Int32.ofNat (num + 1)) (Int32.ofNat F) (Int32.ofNat 1) (Int32.ofNat (i + (r.length + 1) + 1)) μ := by
      rw [f_X8_findKeyword_94, f_X8_findKeyword_96, show (1 : Int32) = Int32.ofNat 1 from rfl, z_add, show i + (r.length + 1) + 1 = i + 1 + r.length + 1 by omega]
      exact z0
    rw [List.length_cons, show f + (r.length + 1) + 1 = (f + r.length + 1) + 1 by omega, f_X8_findKeyword_12, o_len0, o_bind, if_neg (show ¬ Int32.ofNat 123 ≤ Int32.ofNat i by rw [z_le (by decide) (by omega)]; omega), o_ch0 (by omega), o_bind, h1, if_neg (show ¬ Int32.ofNat (96 + d) = (32 : Int32) by rw [show (32 : Int32) = Int32.ofNat 32 from rfl, z_eq (by omega) (by decide)]; omega), if_neg (show ¬ Int32.ofNat 1 = (0 : Int32) by decide), T.g 3, g3, o_bind]
    by_cases q : a = E
    · rw [if_pos (show Int32.ofNat E ≤ Int32.ofNat a by rw [z_le (by omega) (by omega)]; omega), e94, if_neg (by rw [q, Nat.sub_self, wdL]; intro x; cases x)]
    · have li := isLo_t (lo a (Nat.le_refl _) (by omega))
      have hb : B a = Int32.ofNat (tx B a) := isB_lo (T.b (show a < n by omega)) (show bU (B a) < 128 by have : tx B a = bU (B a) := rfl; omega)
      rw [if_neg (show ¬ Int32.ofNat E ≤ Int32.ofNat a by rw [z_le (by omega) (by omega)]; omega), T.r0, o_bind, T.l (show a < n by omega), o_bind, hb, show E - a = (E - (a + 1)) + 1 by omega, wdL]
      by_cases m : tx B a = 96 + d
      · have ih := fk1 T g2 g3 hE r f (i + 1) num (a + 1) (fun j x y => lo j (by omega) y) (by omega) h3 (by omega)
        rw [if_pos (show Int32.ofNat (tx B a) = Int32.ofNat (96 + d) by rw [m]), f_X8_findKeyword_96, show (1 : Int32) = Int32.ofNat 1 from rfl, z_add, z_add, ih, show i + (r.length + 1) + 1 = i + 1 + r.length + 1 by omega]
        by_cases w : r = wdL (tx B) (E - (a + 1)) (a + 1)
        · rw [if_pos w, if_pos (by rw [← w, m, show 96 + d - 96 = d by omega])]
        · rw [if_neg w, if_neg (fun x => w (List.cons.inj x).2)]
      · rw [if_neg (show ¬ Int32.ofNat (tx B a) = Int32.ofNat (96 + d) by rw [z_eq (by omega) (by omega)]; exact m), e94, if_neg (fun x => m (by have := (List.cons.inj x).1; omega))]
theorem fkA {c n F E : Nat} {B : Nat → Int32} {μ : dtM} (T : TXP μ c n B) (g2 : dtI μ c 2 = Int32.ofNat F) (g3 : dtI μ c 3 = Int32.ofNat E) (hE : E ≤ n) (hF : F ≤ E) (lo : ∀ j, F ≤ j → j < E → isLo (tx B j) = true) : ∀ (ws : List (List Nat)) (f i num : Nat), chA dtTxt0 123 ws i = true → i ≤ 123 → 123 < f + i → f_X8_findKeyword_12 f c (Int32.ofNat num) (Int32.ofNat F) (Int32.ofNat 1) (Int32.ofNat i) μ = some (oN (kwGo ws num (wdL (tx B) (E - F) F)), μ)
  | [], f, i, num, h, hi, hf => by
    have e : i = 123 := of_decide_eq_true h
    cases f with
    | zero => omega
    | succ f =>
      rw [f_X8_findKeyword_12, o_len0, o_bind, e, if_pos (by decide), kwGo]; rfl
  | w :: ws, f, i, num, h, hi, hf => by
    rw [chA, Bool.and_eq_true, Bool.and_eq_true, decide_eq_true_iff] at h
    obtain ⟨h1, h2, h3⟩ := h
    have s := fk1 T g2 g3 hE w (f - (w.length + 1)) i num F lo hF h1 h2
    rw [show f - (w.length + 1) + w.length + 1 = f by omega] at s
    rw [s, kwGo]
    by_cases q : w = wdL (tx B) (E - F) F
    · rw [if_pos q, if_pos q]; rfl
    · rw [if_neg q, if_neg q]
      exact fkA T g2 g3 hE hF lo ws (f - (w.length + 1)) (i + w.length + 1) (num + 1) h3 (by omega) (by omega)
theorem p_key {c n F E : Nat} {B : Nat → Int32} {μ : dtM} (T : TXP μ c n B) (g2 : dtI μ c 2 = Int32.ofNat F) (g3 : dtI μ c 3 = Int32.ofNat E) (hE : E ≤ n) (hF : F ≤ E) (lo : ∀ j, F ≤ j → j < E → isLo (tx B j) = true) : f_X8_findKeyword c μ = some (oN (kwGo kwS 0 (wdL (tx B) (E - F) F)), μ) := by
  rw [f_X8_findKeyword, T.g 2, g2, o_bind]
  exact fkA T g2 g3 hE hF lo kwS dtFuel 0 0 ch_0 (by decide) (by have := dtFuel_gt (n := 123) (by decide); omega)
