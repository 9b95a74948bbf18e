/-! PURE 82: words and names of a token, the model; and what both sides find among names -/
def lxM (u : Nat → Nat) (n e : Nat) : Option Nat := (lxK u n e).map (fun k => kwM.getD k 99)
theorem kwM_lt : ∀ k, k < 24 → kwM.getD k 99 < 24 := by decide
theorem lxM_lt {u : Nat → Nat} {n e k : Nat} (h : lxM u n e = some k) : k < 24 := by
  unfold lxM at h
  cases q : lxK u n e with
  | none => rw [q] at h; cases h
  | some j =>
    rw [q] at h
    have : kwM.getD j 99 = k := Option.some.inj h
    have := kwM_lt j (lxK_lt q)
    omega
theorem in25 {k14 : Nat → Nat → Int32 → Int32 → dtM → Option (Int32 × dtM)} {μ : dtM} {nu k E F : Nat} (hk : k < 2000) (g14 : opGI 12 14 μ 133 = some (Int32.ofNat E)) (g13 : opGI 12 13 μ 133 = some (Int32.ofNat F)) (hE : E < 2000) (hF : F ≤ E) : ∀ (r : List Nat) (f i : Nat), k ≤ i → chB dtTxt1 r i = true → i + r.length < 124 → f_X12_inWords_25 k14 (f + r.length + 1) 133 1000003 (Int32.ofNat nu) (Int32.ofNat k) (Int32.ofNat i) μ = if i + r.length - k = E - F then f_X12_inWords_63 k14 133 1000003 (Int32.ofNat nu) (Int32.ofNat k) (Int32.ofNat (i + r.length)) (Int32.ofNat 1) μ else f_X12_inWords_63 k14 133 1000003 (Int32.ofNat nu) (Int32.ofNat k) (Int32.ofNat (i + r.length)) (Int32.ofNat 0) μ
  | [], f, i, hki, h, hi => by
    rw [List.length_nil] at hi
    rw [List.length_nil, f_X12_inWords_25, o_ch1 (by omega), o_bind, if_pos (ch_nil h), g14, o_bind, g13, o_bind, z_sub hki, z_sub hF]
    by_cases q : i - k = E - F
    · rw [if_pos (show Int32.ofNat (i - k) = Int32.ofNat (E - F) by rw [q]), if_pos (by omega)]; rfl
    · rw [if_neg (show ¬ Int32.ofNat (i - k) = Int32.ofNat (E - F) by rw [z_eq (by omega) (by omega)]; exact q), if_neg (by omega)]; rfl
  | d :: r, f, i, hki, h, hi => by
    rw [List.length_cons] at hi
    obtain ⟨h1, h2, h3⟩ := ch_cons h
    have ih := in25 (k14 := k14) (nu := nu) hk g14 g13 hE hF r f (i + 1) (by omega) h3 (by omega)
    rw [List.length_cons, show f + (r.length + 1) + 1 = (f + r.length + 1) + 1 by omega, f_X12_inWords_25, o_ch1 (by omega), o_bind, h1, if_neg (show ¬ Int32.ofNat (96 + d) = (32 : Int32) by rw [show (32 : Int32) = Int32.ofNat 32 from rfl, z_eq (by omega) (by decide)]; omega), show (1 : Int32) = Int32.ofNat 1 from rfl, z_add, ih, show i + 1 + r.length = i + (r.length + 1) by omega]
theorem in68z {k14 : Nat → Nat → Int32 → Int32 → dtM → Option (Int32 × dtM)} {μ : dtM} {nu E : Nat} {k i : Int32} {f : Nat} : f_X12_inWords_68 k14 (f + 1) 133 1000003 (Int32.ofNat nu) k (Int32.ofNat E) (Int32.ofNat 0) i μ = k14 133 1000003 (Int32.ofNat (nu + 1)) (Int32.ofNat (E + 1)) μ := by
  have e115 : f_X12_inWords_115 k14 133 1000003 (Int32.ofNat nu) (Int32.ofNat E) (Int32.ofNat 0) μ = k14 133 1000003 (Int32.ofNat (nu + 1)) (Int32.ofNat (E + 1)) μ := by
    rw [f_X12_inWords_115, if_pos (show Int32.ofNat 0 = (0 : Int32) from rfl), show (1 : Int32) = Int32.ofNat 1 from rfl, z_add, o_bind, z_add]
  rw [f_X12_inWords_68]
  by_cases q : Int32.ofNat E ≤ i
  · rw [if_pos q, e115]
  · rw [if_neg q, if_pos (show Int32.ofNat 0 = (0 : Int32) from rfl), e115]
theorem in68 {k14 : Nat → Nat → Int32 → Int32 → dtM → Option (Int32 × dtM)} {μ : dtM} {n nu p e F : Nat} {B : Nat → Int32} (T : TXM μ n B) (g13 : dtI μ 133 13 = Int32.ofNat F) (hF : F < 2000) (he : e < 124) : ∀ (r : List Nat) (f i : Nat), p ≤ i → i + r.length = e → F + (i - p) + r.length ≤ n → (∀ j, F + (i - p) ≤ j → j < F + (i - p) + r.length → isLo (tx B j) = true) → chB dtTxt1 r i = true → f_X12_inWords_68 k14 (f + r.length + 1) 133 1000003 (Int32.ofNat nu) (Int32.ofNat p) (Int32.ofNat e) (Int32.ofNat 1) (Int32.ofNat i) μ = if r = wdL (tx B) r.length (F + (i - p)) then some (Int32.ofNat nu, μ) else k14 133 1000003 (Int32.ofNat (nu + 1)) (Int32.ofNat (e + 1)) μ
  | [], f, i, hp, ei, hn, lo, h => by
    rw [List.length_nil] at ei
    rw [List.length_nil, f_X12_inWords_68, if_pos (show Int32.ofNat e ≤ Int32.ofNat i by rw [z_le (by omega) (by omega)]; omega), f_X12_inWords_115, if_neg (show ¬ Int32.ofNat 1 = (0 : Int32) by decide), wdL, if_pos rfl]
  | d :: r, f, i, hp, ei, hn, lo, h => by
    have n9 := T.2.1
    rw [List.length_cons] at ei hn lo
    obtain ⟨h1, h2, h3⟩ := ch_cons h
    have li := isLo_t (lo (F + (i - p)) (Nat.le_refl _) (by omega))
    have ih := in68 (k14 := k14) (nu := nu) (p := p) (e := e) T g13 hF he r f (i + 1) (by omega) (by omega) (by omega) (fun j a b => lo j (by omega) (by omega)) h3
    rw [show F + (i + 1 - p) = F + (i - p) + 1 by omega] at ih
    rw [List.length_cons, wdL, show f + (r.length + 1) + 1 = (f + r.length + 1) + 1 by omega, f_X12_inWords_68, if_neg (show ¬ Int32.ofNat e ≤ Int32.ofNat i by rw [z_le (by omega) (by omega)]; omega), if_neg (show ¬ Int32.ofNat 1 = (0 : Int32) by decide), o_ch1 (by omega), o_bind, h1, T.g 13, g13, o_bind, T.1.v133, o_bind, z_add, z_sub (by omega), show F + i - p = F + (i - p) by omega, n_byte T (by omega), o_call, byt_in (by omega)]
    by_cases m : tx B (F + (i - p)) = 96 + d
    · rw [if_pos (show Int32.ofNat (96 + d) = Int32.ofNat (tx B (F + (i - p))) by rw [m]), f_X12_inWords_107, show (1 : Int32) = Int32.ofNat 1 from rfl, z_add, ih]
      by_cases w : r = wdL (tx B) r.length (F + (i - p) + 1)
      · rw [if_pos w, if_pos (by rw [← w, m, show 96 + d - 96 = d by omega])]
      · rw [if_neg w, if_neg (fun x => w (List.cons.inj x).2)]
    · rw [if_neg (show ¬ Int32.ofNat (96 + d) = Int32.ofNat (tx B (F + (i - p))) by rw [z_eq (by omega) (by omega)]; exact fun x => m x.symm), if_neg (fun x => m (by have := (List.cons.inj x).1; omega)), f_X12_inWords_107]
      exact in68z
theorem in14 {n F E : Nat} {B : Nat → Int32} {μ : dtM} (T : TXM μ n B) (g13 : dtI μ 133 13 = Int32.ofNat F) (g14 : dtI μ 133 14 = Int32.ofNat E) (hE : E ≤ n) (hF : F ≤ E) (lo : ∀ j, F ≤ j → j < E → isLo (tx B j) = true) : ∀ (ws : List (List Nat)) (f i nu : Nat), chA dtTxt1 124 ws i = true → i ≤ 124 → ws.length < f → f_X12_inWords_14 f 133 1000003 (Int32.ofNat nu) (Int32.ofNat i) μ = some (oN (kwGo ws nu (wdL (tx B) (E - F) F)), μ)
  | [], f, i, nu, h, hi, hf => by
    have e : i = 124 := of_decide_eq_true h
    cases f with
    | zero => omega
    | succ f =>
      rw [f_X12_inWords_14, o_len1, o_bind, e, if_pos (by decide), kwGo]; rfl
  | w :: ws, f, i, nu, h, hi, hf => by
    have n9 := T.2.1
    rw [chA, Bool.and_eq_true, Bool.and_eq_true, decide_eq_true_iff] at h
    obtain ⟨h1, h2, h3⟩ := h
    rw [List.length_cons] at hf
    cases f with
    | zero => omega
    | succ f =>
      have ih := in14 T g13 g14 hE hF lo ws f (i + w.length + 1) (nu + 1) h3 (by omega) (by omega)
      obtain ⟨g, hg⟩ : ∃ g, dtFuel = g + w.length + 1 := ⟨dtFuel - (w.length + 1), by have := dtFuel_gt (n := 200) (by decide); omega⟩
      have s25 := in25 (k14 := f_X12_inWords_14 f) (nu := nu) (k := i) (show i < 2000 by omega) (by rw [T.g 14, g14]) (by rw [T.g 13, g13]) (show E < 2000 by omega) hF w g i (Nat.le_refl _) h1 h2
      rw [← hg] at s25
      rw [f_X12_inWords_14, o_len1, o_bind, if_neg (show ¬ Int32.ofNat 124 ≤ Int32.ofNat i by rw [z_le (by decide) (by omega)]; omega), s25, kwGo]
      by_cases q : i + w.length - i = E - F
      · have ew : w.length = E - F := by omega
        have s68 := in68 (k14 := f_X12_inWords_14 f) (nu := nu) (p := i) (e := i + w.length) T g13 (show F < 2000 by omega) h2 w g i (Nat.le_refl _) rfl (by omega) (fun j a b => lo j (by omega) (by omega)) h1
        rw [← hg, Nat.sub_self, Nat.add_zero, ew] at s68
        rw [if_pos q, f_X12_inWords_63, ew, s68]
        by_cases y : w = wdL (tx B) (E - F) F
        · rw [if_pos y, if_pos y]; rfl
        · rw [if_neg y, if_neg y, show i + (E - F) + 1 = i + w.length + 1 by omega, ih]
      · have nw : ¬ w = wdL (tx B) (E - F) F := fun x => q (by
          have := congrArg List.length x
          rw [wdL_len] at this
          omega)
        obtain ⟨g2, hg2⟩ : ∃ g2, dtFuel = g2 + 1 := ⟨dtFuel - 1, by have := dtFuel_gt (n := 200) (by decide); omega⟩
        rw [if_neg q, f_X12_inWords_63, hg2, in68z, if_neg nw, ih]
theorem MTk.words {μ : dtM} {n e : Nat} {B : Nat → Int32} (H : MTk μ n B e) : f_X12_inWords 133 1000003 μ = some (oN (lxM (tx B) n e), μ) := by
  obtain ⟨T, he, g13, g14, g12, _, _⟩ := H
  have n9 := T.2.1
  rw [f_X12_inWords, T.g 12, g12, o_bind]
  unfold lxM lxK
  by_cases q : lxT (tx B) n e = 1
  · obtain ⟨k1, k2, k3⟩ := lxT_1 q
    have lo : ∀ j, lxF (tx B) n e ≤ j → j < lxE (tx B) n e → isLo (tx B j) = true := fun j x y => rnn_all (n := n) x (by rw [← k3]; exact y)
    have s := in14 T g13 g14 (lxE_le he) lxE_ge lo kwSM dtFuel 1 0 ch_1 (by decide) (by have := dtFuel_gt (n := 200) (by decide); have : kwSM.length = 24 := rfl; omega)
    rw [q, if_pos (show Int32.ofNat (mkT 1) = (2 : Int32) by decide), if_pos rfl, ← kw_both]
    exact s
  · have h4 := lxT_4 (tx := tx B) (n := n) (e := e)
    have nm : ¬ mkT (lxT (tx B) n e) = 2 := by
      have : lxT (tx B) n e = 0 ∨ lxT (tx B) n e = 2 ∨ lxT (tx B) n e = 3 ∨ lxT (tx B) n e = 4 := by omega
      rcases this with x | x | x | x <;> rw [x] <;> decide
    have hm : mkT (lxT (tx B) n e) < 5 := by
      have : lxT (tx B) n e = 0 ∨ lxT (tx B) n e = 2 ∨ lxT (tx B) n e = 3 ∨ lxT (tx B) n e = 4 := by omega
      rcases this with x | x | x | x <;> rw [x] <;> decide
    rw [if_neg (show ¬ Int32.ofNat (mkT (lxT (tx B) n e)) = (2 : Int32) by rw [show (2 : Int32) = Int32.ofNat 2 from rfl, z_eq (by omega) (by decide)]; exact nm), if_neg q]; rfl
theorem mkT_b {k : Nat} (h : k ≤ 4) : mkT k < 5 ∧ (mkT k = 0 ↔ k = 0) ∧ (mkT k = 2 ↔ k = 1) ∧ (mkT k = 3 ↔ k = 2) ∧ (mkT k = 4 ↔ k = 3) ∧ (mkT k = 1 ↔ k = 4) := by
  have : k = 0 ∨ k = 1 ∨ k = 2 ∨ k = 3 ∨ k = 4 := by omega
  rcases this with rfl | rfl | rfl | rfl | rfl <;> decide
theorem oN_m1 {o : Option Nat} (h : ∀ k, o = some k → k < 24) : (oN o = (-1 : Int32)) = (o = none) := oN_none (fun d hd => by have := h d hd; omega)
theorem MTk.isName {μ : dtM} {n e : Nat} {B : Nat → Int32} (H : MTk μ n B e) : f_X12_isName 133 1000003 μ = some (bI (lxN (tx B) n e).isSome, μ) := by
  have W := H.words
  obtain ⟨T, he, g13, g14, g12, _, _⟩ := H
  have n9 := T.2.1
  have hE := lxE_le (tx := tx B) he
  have ge := lxE_ge (tx := tx B) (n := n) (e := e)
  obtain ⟨m5, _, m2, _, _, _⟩ := mkT_b (lxT_4 (tx := tx B) (n := n) (e := e))
  have e35 : f_X12_isName_35 μ = some (bI false, μ) := by rw [f_X12_isName_35, f_X12_isName_36, show (0 : Int32) = Int32.ofNat 0 from rfl, o_ret0']
  rw [f_X12_isName, T.g 12, g12, o_bind]
  unfold lxN
  by_cases q : lxT (tx B) n e = 1
  · rw [if_pos (show Int32.ofNat (mkT (lxT (tx B) n e)) = (2 : Int32) by rw [m2.mpr q]; rfl), T.g 14, g14, o_bind, T.g 13, g13, o_bind, z_sub ge]
    by_cases l8 : lxE (tx B) n e - lxF (tx B) n e ≤ 8
    · rw [if_neg (show ¬ (8 : Int32) < Int32.ofNat (lxE (tx B) n e - lxF (tx B) n e) by rw [show (8 : Int32) = Int32.ofNat 8 from rfl, z_lt (by decide) (by omega)]; omega), T.1.v133, o_bind, W, o_call]
      have em := oN_m1 (o := lxM (tx B) n e) (fun k h => lxM_lt h)
      cases hk : lxK (tx B) n e with
      | none =>
        have hm : lxM (tx B) n e = none := by unfold lxM; rw [hk]; rfl
        rw [if_pos (Eq.mpr em hm), if_pos ⟨q, rfl, l8⟩, f_X12_isName_36, show (1 : Int32) = Int32.ofNat 1 from rfl, o_ret1']; rfl
      | some k =>
        have hm : ¬ lxM (tx B) n e = none := by unfold lxM; rw [hk]; exact fun x => by cases x
        rw [if_neg (fun x => hm (Eq.mp em x)), if_neg (fun x => by cases x.2.1), e35]; rfl
    · rw [if_pos (show (8 : Int32) < Int32.ofNat (lxE (tx B) n e - lxF (tx B) n e) by rw [show (8 : Int32) = Int32.ofNat 8 from rfl, z_lt (by decide) (by omega)]; omega), if_neg (fun x => l8 x.2.2), e35]; rfl
  · rw [if_neg (show ¬ Int32.ofNat (mkT (lxT (tx B) n e)) = (2 : Int32) by rw [show (2 : Int32) = Int32.ofNat 2 from rfl, z_eq (by omega) (by decide)]; exact fun x => q (m2.mp x)), if_neg (fun x => q x.1), e35]; rfl
theorem nh7 {μ : dtM} {n E : Nat} {B : Nat → Int32} (T : TXM μ n B) (hE : E ≤ n) (g14 : dtI μ 133 14 = Int32.ofNat E) : ∀ (m f i : Nat) (v : Int64), i + m = E → m < f → (∀ j, i ≤ j → j < E → isLo (tx B j) = true) → f_X12_nameHere_7 f 133 v (Int32.ofNat i) μ = some ((wdL (tx B) m i).foldl (fun (v : Int64) (c : Nat) => (v <<< 8) ||| Int64.ofNat (96 + c)) v, μ) := by
  have n9 := T.2.1
  intro m
  induction m with
  | zero =>
    intro f i v e hf d
    cases f with
    | zero => omega
    | succ f =>
      rw [f_X12_nameHere_7, T.g 14, g14, o_bind, if_pos (show Int32.ofNat E ≤ Int32.ofNat i by rw [z_le (by omega) (by omega)]; omega), wdL, List.foldl_nil]
  | succ m ih =>
    intro f i v e hf d
    cases f with
    | zero => omega
    | succ f =>
      have dl := isLo_t (d i (Nat.le_refl _) (by omega))
      rw [f_X12_nameHere_7, T.g 14, g14, o_bind, if_neg (show ¬ Int32.ofNat E ≤ Int32.ofNat i by rw [z_le (by omega) (by omega)]; omega), T.1.v133, o_bind, n_byte T (by omega), o_call, byt_in (by omega), j_of (by omega), show ((8 : Int32).toInt64 &&& 63) = (8 : Int64) by decide, o_bind, show (1 : Int32) = Int32.ofNat 1 from rfl, z_add, wdL, List.foldl_cons, show 96 + (tx B i - 96) = tx B i by omega]
      exact ih f (i + 1) _ (by omega) (by omega) (fun j a b => d j (by omega) b)
theorem MTk.name {μ : dtM} {n e : Nat} {B : Nat → Int32} (H : MTk μ n B e) {l : List Nat} (hl : lxN (tx B) n e = some l) : f_X12_nameHere 133 μ = some (n256 l, μ) := by
  obtain ⟨T, he, g13, g14, g12, _, _⟩ := H
  have n9 := T.2.1
  obtain ⟨_, _, el, k1, _, _⟩ := lxN_ok hl
  obtain ⟨_, _, k3⟩ := lxT_1 k1
  have ge := lxE_ge (tx := tx B) (n := n) (e := e)
  have hE := lxE_le (tx := tx B) he
  have s := nh7 T hE g14 (lxE (tx B) n e - lxF (tx B) n e) dtFuel (lxF (tx B) n e) (0 : Int64) (by omega) (dtFuel_gt (by omega)) (fun j x y => rnn_all (n := n) x (by rw [← k3]; exact y))
  rw [f_X12_nameHere, T.g 13, g13, o_bind, s, el]; rfl
/-! what is found among names -/
def fnd (N : Nat → List Nat) (l : List Nat) : Nat → Nat → Option Nat
  | 0, _ => none
  | m + 1, i => if N i = l then some i else fnd N l m (i + 1)
theorem fnd_lt {N : Nat → List Nat} {l : List Nat} : ∀ (m i k : Nat), fnd N l m i = some k → k < i + m
  | 0, _, _, h => by cases h
  | m + 1, i, k, h => by
    rw [fnd] at h
    by_cases q : N i = l
    · rw [if_pos q] at h
      have : i = k := Option.some.inj h
      omega
    · rw [if_neg q] at h
      have := fnd_lt m (i + 1) k h
      omega
theorem fh2 {μ : dtM} {n e base many : Nat} {B : Nat → Int32} (H : MTk μ n B e) {l : List Nat} (hl : lxN (tx B) n e = some l) {N : Nat → List Nat} (hb : base + many ≤ 114) (hN : ∀ k, k < many → dtJ μ 135 (base + k) = n256 (N k) ∧ nOk (N k)) : ∀ (m f i : Nat), i + m = many → m < f → f_X12_findHere_2 f 133 (Int32.ofNat base) (Int32.ofNat many) (Int32.ofNat i) μ = some (oN (fnd N l m i), μ) := by
  have C := H.1.1
  have ok := (lxN_ok hl).1
  intro m
  induction m with
  | zero =>
    intro f i ei hf
    cases f with
    | zero => omega
    | succ f =>
      rw [f_X12_findHere_2, if_pos (show Int32.ofNat many ≤ Int32.ofNat i by rw [z_le (by omega) (by omega)]; omega), fnd]; rfl
  | succ m ih =>
    intro f i ei hf
    cases f with
    | zero => omega
    | succ f =>
      obtain ⟨j1, j2⟩ := hN i (by omega)
      rw [f_X12_findHere_2, if_neg (show ¬ Int32.ofNat many ≤ Int32.ofNat i by rw [z_le (by omega) (by omega)]; omega), C.g133_1, o_bind, z_add, o_LJ C.s135 (show base + i < 114 by omega) (by decide), j1, o_bind, C.v133, o_bind, H.name hl, o_call, fnd]
      have cond : (lg_cmp (n256 (N i)) (n256 l) = (0 : Int32)) = (N i = l) := (l_eq0 _ _).trans (n256_inj j2 ok)
      by_cases q : N i = l
      · rw [if_pos (Eq.mpr cond q), if_pos q]; rfl
      · rw [if_neg (fun x => q (Eq.mp cond x)), if_neg q, show (1 : Int32) = Int32.ofNat 1 from rfl, z_add, ih f (i + 1) (by omega) (by omega)]
theorem MTk.find {μ : dtM} {n e base many : Nat} {B : Nat → Int32} (H : MTk μ n B e) {l : List Nat} (hl : lxN (tx B) n e = some l) {N : Nat → List Nat} (hb : base + many ≤ 114) (hN : ∀ k, k < many → dtJ μ 135 (base + k) = n256 (N k) ∧ nOk (N k)) : f_X12_findHere 133 (Int32.ofNat base) (Int32.ofNat many) μ = some (oN (fnd N l many 0), μ) := by
  rw [f_X12_findHere]
  exact fh2 H hl hb hN many dtFuel 0 (by omega) (dtFuel_gt (by omega))
theorem nu2 {μ : dtM} {c n e nc L many : Nat} {B : Nat → Int32} (H : PTk μ c n B e) {l : List Nat} (hl : lxN (tx B) n e = some l) {N : Nat → List Nat} (hs' : dtS μ nc = (3, L)) (hL : many ≤ L ∧ L < 2147483648) (hN : ∀ k, k < many → dtJ μ nc k = n32 (N k) ∧ nOk (N k)) : ∀ (m f i : Nat), i + m = many → m < f → f_X8_numberOf_2 f c nc (Int32.ofNat many) (Int32.ofNat i) μ = some (oN (fnd N l m i), μ) := by
  have T := H.1
  have ok := (lxN_ok hl).1
  have hJ : opGJ 8 7 μ c = some (n32 l) := by
    have h7 := H.2.2.2.2.2.2.2.2
    have e1 : lxJ (tx B) n e = n32 l := by unfold lxJ; rw [hl]
    rw [o_GJ T.1.1, h7, e1]
  intro m
  induction m with
  | zero =>
    intro f i ei hf
    cases f with
    | zero => omega
    | succ f =>
      rw [f_X8_numberOf_2, if_pos (show Int32.ofNat many ≤ Int32.ofNat i by rw [z_le (by omega) (by omega)]; omega), f_X8_numberOf_32, fnd]; rfl
  | succ m ih =>
    intro f i ei hf
    cases f with
    | zero => omega
    | succ f =>
      obtain ⟨j1, j2⟩ := hN i (by omega)
      rw [f_X8_numberOf_2, if_neg (show ¬ Int32.ofNat many ≤ Int32.ofNat i by rw [z_le (by omega) (by omega)]; omega), o_AL hs' (by decide), o_bind, if_neg (show ¬ Int32.ofNat L ≤ Int32.ofNat i by rw [z_le (by omega) (by omega)]; omega), o_LJ hs' (show i < L by omega) hL.2, j1, o_bind, hJ, o_bind, fnd]
      have cond : (lg_cmp (n32 (N i)) (n32 l) = (0 : Int32)) = (N i = l) := (l_eq0 _ _).trans (n32_inj j2 ok)
      by_cases q : N i = l
      · rw [if_pos (Eq.mpr cond q), if_pos q]; rfl
      · rw [if_neg (fun x => q (Eq.mp cond x)), if_neg q, show (1 : Int32) = Int32.ofNat 1 from rfl, z_add, ih f (i + 1) (by omega) (by omega)]
theorem PTk.find {μ : dtM} {c n e nc L many : Nat} {B : Nat → Int32} (H : PTk μ c n B e) {l : List Nat} (hl : lxN (tx B) n e = some l) {N : Nat → List Nat} (hs' : dtS μ nc = (3, L)) (hL : many ≤ L ∧ L < 1000) (hN : ∀ k, k < many → dtJ μ nc k = n32 (N k) ∧ nOk (N k)) : f_X8_numberOf c nc (Int32.ofNat many) μ = some (oN (fnd N l many 0), μ) := by
  rw [f_X8_numberOf]
  exact nu2 H hl hs' ⟨hL.1, by omega⟩ hN many dtFuel 0 (by omega) (dtFuel_gt (by omega))
