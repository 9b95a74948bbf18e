/-! PURE 31: the whole state, both sides -/
abbrev aT : Type := (Nat → Nat) × (Nat → Nat) × (Nat → Nat → Int64)
abbrev aB : Type := Nat × (Nat → Int32) × Int32 × Int32
abbrev aD : Type := Nat × Nat × (Nat → Nat → Nat)
abbrev aK : Type := Nat × (Nat → aH × aD)
abbrev aV : Type := Nat × (Nat → Int32)
abbrev aZ : Type := aT × aB × aD × aK × aV × (Nat → Nat)
def zT (z : aZ) : aT := z.1
def zB (z : aZ) : aB := z.2.1
def zD (z : aZ) : aD := z.2.2.1
def zK (z : aZ) : aK := z.2.2.2.1
def zV (z : aZ) : aV := z.2.2.2.2.1
def zL (z : aZ) : Nat → Nat := z.2.2.2.2.2
def taS (T : aT) (i : Nat) : Nat := T.1 i
def taN (T : aT) (i : Nat) : Nat := T.2.1 i
def taV (T : aT) (i j : Nat) : Int64 := T.2.2 i j
def PT (μ : dtM) (T : aT) : Prop := ∀ i, i < 4 → (taS T i ≤ 3 ∧ taN T i ≤ 61) ∧ dtI μ (2 + 2 * i) 0 = (if taN T i = 0 then Int32.ofNat 0 else Int32.ofNat 1) ∧ (0 < taN T i → dtI μ (2 + 2 * i) 1 = Int32.ofNat (taS T i) ∧ dtI μ (2 + 2 * i) 2 = Int32.ofNat (taN T i - 1) ∧ ∀ j, j + 1 < taN T i → dtJ μ (3 + 2 * i) j = taV T i j)
def MT (μ : dtM) (T : aT) : Prop := ∀ i, i < 4 → (taS T i ≤ 3 ∧ taN T i ≤ 61) ∧ (taN T i = 0 → dtI μ 137 i = -Int32.ofNat 1) ∧ (0 < taN T i → dtI μ 136 i = Int32.ofNat (taS T i) ∧ dtI μ 137 i = Int32.ofNat (taN T i - 1) ∧ ∀ j, j + 1 < taN T i → dtJ μ 138 (60 * i + j) = taV T i j)
def bWF (B : aB) : Prop := B.1 ≤ 900 ∧ ∀ j, j < B.1 → ∃ x, B.2.1 j = vp_nar .byte x
def PB (μ : dtM) (B : aB) : Prop := bWF B ∧ dtI μ 10 1 = Int32.ofNat B.1 ∧ (∀ j, j < B.1 → dtI μ 11 j = B.2.1 j) ∧ dtI μ 10 2 = B.2.2.1 ∧ dtI μ 10 3 = B.2.2.2
def MB (μ : dtM) (B : aB) : Prop := bWF B ∧ dtI μ 133 10 = Int32.ofNat B.1 ∧ (∀ j, j < B.1 → dtI μ 139 j = B.2.1 j) ∧ dtI μ 133 16 = B.2.2.1 ∧ dtI μ 133 17 = B.2.2.2
/-! days: 0 kind (4 open, 15 close, 16 go, 17 forget, 18 any, 19 when, 21 loop, 22 end, 23 stop), 1 who, 2 what, 3 how, 4 test (4 open, 12 in, 20 heard), 5 partner -/
def dd (D : aD) (t k : Nat) : Nat := D.2.2 t k
def dLen (D : aD) : Nat := D.2.1
def dWho (D : aD) (k : Nat) : Prop := dd D 0 k = 15 ∨ dd D 0 k = 4 ∨ dd D 0 k = 16 ∨ dd D 0 k = 17 ∨ (dd D 0 k = 19 ∧ ¬ dd D 4 k = 4)
def dTwo (D : aD) (k : Nat) : Prop := dd D 0 k = 15 ∨ dd D 0 k = 4 ∨ dd D 0 k = 16 ∨ (dd D 0 k = 19 ∧ ¬ dd D 4 k = 4)
def dOne (D : aD) (k : Nat) : Prop := dd D 0 k = 21 ∨ (dd D 0 k = 19 ∧ dd D 4 k = 4)
def dNst (D : aD) (k : Nat) : Prop := dd D 0 k = 19 ∨ dd D 0 k = 21 ∨ dd D 0 k = 22
def cmpP (c : Nat) : Int32 := if c = 0 then -Int32.ofNat 1 else if c = 1 then Int32.ofNat 1 else Int32.ofNat 0
def cmpM (c : Nat) : Nat := if c = 0 then 60 else if c = 1 then 62 else 61
def pdE (μ : dtM) (g : Nat) (D : aD) (k : Nat) : Prop :=
  dtI μ (g + 1) k = Int32.ofNat (dd D 0 k) ∧ (dWho D k → dtI μ (g + 3) k = Int32.ofNat (dd D 1 k)) ∧ (dTwo D k ∨ dOne D k → dtI μ (g + 4) k = Int32.ofNat (dd D 2 k)) ∧ (dd D 0 k = 15 → dtI μ (g + 5) k = Int32.ofNat (dd D 3 k)) ∧ (dd D 0 k = 19 ∧ dd D 4 k = 20 → dtI μ (g + 5) k = cmpP (dd D 3 k)) ∧ (dd D 0 k = 19 → dtI μ (g + 2) k = Int32.ofNat (dd D 4 k)) ∧ (dNst D k → dtI μ (g + 6) k = Int32.ofNat (dd D 5 k))
def mKd (a t : Nat) : Nat := if a = 4 then 6 else if a = 19 then (if t = 12 then 1912 else if t = 4 then 1906 else 1923) else if a = 21 then 20 else if a = 22 then 21 else if a = 23 then 22 else a
def mdE (μ : dtM) (b : Nat) (D : aD) (k : Nat) : Prop :=
  dtI μ 134 (b + 136 + 6 * k) = Int32.ofNat (mKd (dd D 0 k) (dd D 4 k)) ∧ (dWho D k → dtI μ 134 (b + 136 + 6 * k + 1) = Int32.ofNat (dd D 1 k)) ∧ (dTwo D k → dtI μ 134 (b + 136 + 6 * k + 2) = Int32.ofNat (dd D 2 k)) ∧ (dOne D k → dtI μ 134 (b + 136 + 6 * k + 1) = Int32.ofNat (dd D 2 k)) ∧ (dd D 0 k = 15 → dtI μ 134 (b + 136 + 6 * k + 3) = Int32.ofNat (dd D 3 k)) ∧ (dd D 0 k = 19 ∧ dd D 4 k = 20 → dtI μ 134 (b + 136 + 6 * k + 5) = Int32.ofNat (cmpM (dd D 3 k))) ∧ (dNst D k → dtI μ 134 (b + 136 + 6 * k + 4) = Int32.ofNat (dd D 5 k))
def PD (μ : dtM) (g : Nat) (D : aD) : Prop := dtI μ g 0 = Int32.ofNat D.1 ∧ (D.1 = 1 → dtI μ g 2 = Int32.ofNat (dLen D) ∧ ∀ k, k < dLen D → pdE μ g D k)
def MD (μ : dtM) (b : Nat) (D : aD) : Prop := (D.1 = 0 → dtI μ 134 (b + 7) = -Int32.ofNat 1) ∧ (D.1 = 1 → dtI μ 134 (b + 7) = Int32.ofNat (dLen D) ∧ ∀ k, k < dLen D → mdE μ b D k)
def dkW (A : aH) (D : aD) (k : Nat) : Prop :=
  (dd D 0 k = 4 ∨ dd D 0 k = 15 ∨ dd D 0 k = 16 ∨ dd D 0 k = 17 ∨ dd D 0 k = 18 ∨ dd D 0 k = 19 ∨ dd D 0 k = 21 ∨ dd D 0 k = 22 ∨ dd D 0 k = 23) ∧
  (dWho D k → dd D 1 k < hs A 3) ∧ (dd D 0 k = 15 ∨ dd D 0 k = 4 ∨ dd D 0 k = 16 → dd D 2 k < hs A 1) ∧ (dd D 0 k = 15 → dd D 3 k < 4) ∧
  (dd D 0 k = 19 → (dd D 4 k = 4 ∧ dd D 2 k < hs A 1) ∨ (dd D 4 k = 12 ∧ dd D 2 k < hs A 0) ∨ (dd D 4 k = 20 ∧ dd D 2 k ≤ 8 ∧ dd D 3 k < 3)) ∧
  (dd D 0 k = 21 → 1 ≤ dd D 2 k ∧ dd D 2 k ≤ 99) ∧ (dd D 0 k = 19 ∨ dd D 0 k = 21 → k < dd D 5 k ∧ dd D 5 k < dLen D) ∧
  (dd D 0 k = 22 → dd D 5 k < k ∧ (dd D 0 (dd D 5 k) = 19 ∨ dd D 0 (dd D 5 k) = 21) ∧ (dd D 0 (dd D 5 k + 1) = 22 → k = dd D 5 k + 1))
def dWF (A : aH) (D : aD) : Prop := D.1 ≤ 1 ∧ (D.1 = 1 → dLen D ≤ 60 ∧ ∀ k, k < dLen D → dkW A D k)
def PK (μ : dtM) (K : aK) : Prop := K.1 ≤ 3 ∧ dtI μ 0 11 = Int32.ofNat K.1 ∧ ∀ i, i < K.1 → PH μ (54 + 20 * i) (K.2 i).1 ∧ PD μ (67 + 20 * i) (K.2 i).2 ∧ dWF (K.2 i).1 (K.2 i).2
def MK (μ : dtM) (K : aK) : Prop := K.1 ≤ 3 ∧ dtI μ 133 40 = Int32.ofNat K.1 ∧ ∀ i, i < K.1 → MH μ (504 * (i + 1)) (19 * (i + 1)) (K.2 i).1 ∧ MD μ (504 * (i + 1)) (K.2 i).2 ∧ dWF (K.2 i).1 (K.2 i).2
def PV (μ : dtM) (V : aV) : Prop := V.1 ≤ 1 ∧ (V.1 = 0 → dtI μ 132 0 = -Int32.ofNat 1) ∧ (V.1 = 1 → ¬ V.2 0 = -Int32.ofNat 1 ∧ ∀ j, j < 5 → dtI μ 132 j = V.2 j)
def MV (μ : dtM) (V : aV) : Prop := V.1 ≤ 1 ∧ dtI μ 133 39 = Int32.ofNat V.1 ∧ (V.1 = 1 → ∀ j, j < 5 → dtI μ 153 j = V.2 j)
def PL (μ : dtM) (l : Nat → Nat) : Prop := ∀ k, k < 60 → l k ≤ 99 ∧ dtI μ 131 k = Int32.ofNat (l k)
def ML (μ : dtM) (l : Nat → Nat) : Prop := ∀ k, k < 60 → l k ≤ 99 ∧ dtI μ 151 k = Int32.ofNat (l k - 1)
abbrev aW : Type := Nat × Nat × Nat × Nat
def wOk (w : aW) : Prop := ((w.1 = 12 ∧ w.2.1 = 25) ∨ (w.1 = 25 ∧ w.2.1 = 12)) ∧ ((w.2.2.1 = 38 ∧ w.2.2.2 = 45) ∨ (w.2.2.1 = 45 ∧ w.2.2.2 = 38))
def PR (μ : dtM) (w : aW) : Prop := wOk w ∧ dtR μ 0 5 = some w.1 ∧ dtR μ 0 6 = some w.2.1 ∧ dtR μ 0 7 = some w.2.2.1 ∧ dtR μ 0 8 = some w.2.2.2
abbrev aF : Type := Int32 × Int64 × Int64
def PX (μ : dtM) (f : aF) : Prop := dtI μ 0 0 = f.1 ∧ dtJ μ 0 1 = f.2.1 ∧ dtJ μ 0 2 = f.2.2
def MX (μ : dtM) (f : aF) : Prop := dtI μ 133 2 = f.1 ∧ dtJ μ 133 3 = f.2.1 ∧ dtJ μ 133 4 = f.2.2
def RP (μ : dtM) (w : aW) (f : aF) (A : aH) (z : aZ) : Prop := CX μ ∧ PR μ w ∧ PX μ f ∧ PH μ w.1 A ∧ PT μ (zT z) ∧ PB μ (zB z) ∧ PD μ w.2.2.1 (zD z) ∧ PK μ (zK z) ∧ PV μ (zV z) ∧ PL μ (zL z)
def RM (μ : dtM) (f : aF) (A : aH) (z : aZ) : Prop := CX μ ∧ MX μ f ∧ MH μ 0 0 A ∧ MT μ (zT z) ∧ MB μ (zB z) ∧ MD μ 0 (zD z) ∧ MK μ (zK z) ∧ MV μ (zV z) ∧ ML μ (zL z)
/-! what stays of the parts -/
theorem PT.kept {P : Nat → Nat → Prop} {μ μ' : dtM} {T : aT} (H : PT μ T) (F : Fr P μ μ') (q : ∀ k j, 2 ≤ k → k ≤ 9 → ¬ P k j) : PT μ' T := by
  intro i hi
  obtain ⟨h1, h2, h3⟩ := H i hi
  refine ⟨h1, by rw [F.i (q _ _ (by omega) (by omega))]; exact h2, fun hn => ⟨?_, ?_, fun j hj => ?_⟩⟩
  · rw [F.i (q _ _ (by omega) (by omega))]; exact (h3 hn).1
  · rw [F.i (q _ _ (by omega) (by omega))]; exact (h3 hn).2.1
  · rw [F.j (q _ _ (by omega) (by omega))]; exact (h3 hn).2.2 j hj
theorem MT.kept {P : Nat → Nat → Prop} {μ μ' : dtM} {T : aT} (H : MT μ T) (F : Fr P μ μ') (q : ∀ k j, 136 ≤ k → k ≤ 138 → ¬ P k j) : MT μ' T := by
  intro i hi
  obtain ⟨h1, h2, h3⟩ := H i hi
  refine ⟨h1, fun hn => by rw [F.i (q _ _ (by omega) (by omega))]; exact h2 hn, fun hn => ⟨?_, ?_, fun j hj => ?_⟩⟩
  · rw [F.i (q _ _ (by omega) (by omega))]; exact (h3 hn).1
  · rw [F.i (q _ _ (by omega) (by omega))]; exact (h3 hn).2.1
  · rw [F.j (q _ _ (by omega) (by omega))]; exact (h3 hn).2.2 j hj
theorem PB.kept {P : Nat → Nat → Prop} {μ μ' : dtM} {B : aB} (H : PB μ B) (F : Fr P μ μ') (q : ∀ k j, 10 ≤ k → k ≤ 11 → ¬ P k j) : PB μ' B := by
  obtain ⟨h1, h2, h3, h4, h5⟩ := H
  refine ⟨h1, ?_, fun j hj => ?_, ?_, ?_⟩
  · rw [F.i (q _ _ (by omega) (by omega))]; exact h2
  · rw [F.i (q _ _ (by omega) (by omega))]; exact h3 j hj
  · rw [F.i (q _ _ (by omega) (by omega))]; exact h4
  · rw [F.i (q _ _ (by omega) (by omega))]; exact h5
theorem MB.kept {P : Nat → Nat → Prop} {μ μ' : dtM} {B : aB} (H : MB μ B) (F : Fr P μ μ') (q : ∀ j, ¬ P 139 j) (q2 : ¬ P 133 10 ∧ ¬ P 133 16 ∧ ¬ P 133 17) : MB μ' B := by
  obtain ⟨h1, h2, h3, h4, h5⟩ := H
  refine ⟨h1, ?_, fun j hj => ?_, ?_, ?_⟩
  · rw [F.i q2.1]; exact h2
  · rw [F.i (q _)]; exact h3 j hj
  · rw [F.i q2.2.1]; exact h4
  · rw [F.i q2.2.2]; exact h5
theorem PD.kept {P : Nat → Nat → Prop} {μ μ' : dtM} {g : Nat} {D : aD} (H : PD μ g D) (F : Fr P μ μ') (q : ∀ k j, g ≤ k → k ≤ g + 6 → ¬ P k j) : PD μ' g D := by
  obtain ⟨h1, h2⟩ := H
  have e : ∀ k, g ≤ k → k ≤ g + 6 → dtI μ' k = dtI μ k := fun k a b => F.I (fun j => q k j a b)
  refine ⟨by rw [e g (by omega) (by omega)]; exact h1, fun x => ⟨by rw [e g (by omega) (by omega)]; exact (h2 x).1, fun k hk => ?_⟩⟩
  unfold pdE
  rw [e (g + 1) (by omega) (by omega), e (g + 2) (by omega) (by omega), e (g + 3) (by omega) (by omega), e (g + 4) (by omega) (by omega), e (g + 5) (by omega) (by omega), e (g + 6) (by omega) (by omega)]
  exact (h2 x).2 k hk
theorem MD.kept {P : Nat → Nat → Prop} {μ μ' : dtM} {b : Nat} {A : aH} {D : aD} (H : MD μ b D) (W : dWF A D) (F : Fr P μ μ') (q : ∀ j, b + 7 = j ∨ (b + 136 ≤ j ∧ j < b + 504) → ¬ P 134 j) : MD μ' b D := by
  obtain ⟨h1, h2⟩ := H
  refine ⟨fun x => by rw [F.i (q _ (Or.inl rfl))]; exact h1 x, fun x => ⟨by rw [F.i (q _ (Or.inl rfl))]; exact (h2 x).1, fun k hk => ?_⟩⟩
  have hl := (W.2 x).1
  have y := (h2 x).2 k hk
  unfold mdE at y ⊢
  rw [F.i (q (b + 136 + 6 * k) (by omega)), F.i (q (b + 136 + 6 * k + 1) (by omega)), F.i (q (b + 136 + 6 * k + 2) (by omega)), F.i (q (b + 136 + 6 * k + 3) (by omega)), F.i (q (b + 136 + 6 * k + 4) (by omega)), F.i (q (b + 136 + 6 * k + 5) (by omega))]
  exact y
theorem mIdx_hok {A : aH} (W : hWF A) {t i : Nat} (q : hok A t i) : 10 ≤ mIdx t i ∧ mIdx t i < 135 := mIdx_in (hok_B W q)
/-- the model's house, kept where its own slots are -/
theorem MH.keptAt {P : Nat → Nat → Prop} {μ μ' : dtM} {b nb : Nat} {A : aH} (H : MH μ b nb A) (F : Fr P μ μ') (q : ∀ j, b ≤ j → j < b + 136 → ¬ (j = b + 7) → ¬ P 134 j) (qn : ∀ j, nb ≤ j → j < nb + 19 → ¬ P 135 j) : MH μ' b nb A := by
  obtain ⟨S, V, W⟩ := H
  refine ⟨?_, ⟨fun j hj => ?_, ?_, fun t i x => ?_, fun wd k hw h1 h2 => ?_, fun r hr => ?_, fun p hp => ?_⟩, W⟩
  · unfold mSh
    rw [F.S, F.Ra]; exact S
  · rw [F.i (q _ (by omega) (by omega) (by omega))]; exact V.1 j hj
  · rw [F.i (q _ (by omega) (by omega) (by omega))]; exact V.2.1
  · have y := mIdx_hok W x
    rw [F.i (q _ (by omega) (by omega) (by omega))]; exact V.2.2.1 t i x
  · have y : mIdx (4 + k) wd = 40 + 5 * wd + (1 + k) := by
      unfold mIdx
      rw [if_neg (by omega), if_pos (by omega)]; omega
    have := W.1.2.2.1
    have e : dtI μ' 134 (b + mIdx (4 + k) wd) = dtI μ 134 (b + mIdx (4 + k) wd) := F.i (q _ (by omega) (by omega) (by omega))
    rw [e]; exact V.2.2.2.1 wd k hw h1 h2
  · have := W.1.1
    rw [F.j (qn _ (by omega) (by omega))]; exact V.2.2.2.2.1 r hr
  · have := W.1.2.2.2.1
    rw [F.j (qn _ (by omega) (by omega))]; exact V.2.2.2.2.2 p hp
theorem PK.kept {P : Nat → Nat → Prop} {μ μ' : dtM} {K : aK} (H : PK μ K) (F : Fr P μ μ') (q : ∀ k j, 54 ≤ k → k ≤ 113 → ¬ P k j) (q2 : ¬ P 0 11) : PK μ' K := by
  refine ⟨H.1, by rw [F.i q2]; exact H.2.1, fun i hi => ?_⟩
  have h3 := H.1
  obtain ⟨a, b, c⟩ := H.2.2 i hi
  exact ⟨a.kept F (fun k _ _ j => q k j (by omega) (by omega)), b.kept F (fun k j _ _ => q k j (by omega) (by omega)), c⟩
theorem MK.kept {P : Nat → Nat → Prop} {μ μ' : dtM} {K : aK} (H : MK μ K) (F : Fr P μ μ') (q : ∀ j, 504 ≤ j → j < 2016 → ¬ P 134 j) (qn : ∀ j, 19 ≤ j → j < 76 → ¬ P 135 j) (q2 : ¬ P 133 40) : MK μ' K := by
  refine ⟨H.1, by rw [F.i q2]; exact H.2.1, fun i hi => ?_⟩
  have h3 := H.1
  obtain ⟨a, b, c⟩ := H.2.2 i hi
  exact ⟨a.keptAt F (fun j _ _ _ => q j (by omega) (by omega)) (fun j _ _ => qn j (by omega) (by omega)), b.kept c F (fun j x => q j (by omega) (by omega)), c⟩
theorem PV.kept {P : Nat → Nat → Prop} {μ μ' : dtM} {V : aV} (H : PV μ V) (F : Fr P μ μ') (q : ∀ j, ¬ P 132 j) : PV μ' V := by
  refine ⟨H.1, fun x => by rw [F.i (q _)]; exact H.2.1 x, fun x => ⟨(H.2.2 x).1, fun j hj => by rw [F.i (q _)]; exact (H.2.2 x).2 j hj⟩⟩
theorem MV.kept {P : Nat → Nat → Prop} {μ μ' : dtM} {V : aV} (H : MV μ V) (F : Fr P μ μ') (q : ∀ j, ¬ P 153 j) (q2 : ¬ P 133 39) : MV μ' V := by
  refine ⟨H.1, by rw [F.i q2]; exact H.2.1, fun x j hj => by rw [F.i (q _)]; exact H.2.2 x j hj⟩
theorem PL.kept {P : Nat → Nat → Prop} {μ μ' : dtM} {l : Nat → Nat} (H : PL μ l) (F : Fr P μ μ') (q : ∀ j, ¬ P 131 j) : PL μ' l := fun k hk => ⟨(H k hk).1, by rw [F.i (q _)]; exact (H k hk).2⟩
theorem ML.kept {P : Nat → Nat → Prop} {μ μ' : dtM} {l : Nat → Nat} (H : ML μ l) (F : Fr P μ μ') (q : ∀ j, ¬ P 151 j) : ML μ' l := fun k hk => ⟨(H k hk).1, by rw [F.i (q _)]; exact (H k hk).2⟩
theorem PR.kept {P : Nat → Nat → Prop} {μ μ' : dtM} {w : aW} (H : PR μ w) (F : Fr P μ μ') : PR μ' w := by
  unfold PR
  rw [F.Ra]; exact H
/-- the program's scratch -/
def ScP (w : aW) (k j : Nat) : Prop := (k = 0 ∧ j = 0) ∨ (114 ≤ k ∧ k ≤ 130) ∨ (w.2.1 ≤ k ∧ k ≤ w.2.1 + 12) ∨ (w.2.2.2 ≤ k ∧ k ≤ w.2.2.2 + 6)
def ScM (k j : Nat) : Prop := (k = 133 ∧ ¬ j = 3 ∧ ¬ j = 4 ∧ ¬ j = 10 ∧ ¬ j = 16 ∧ ¬ j = 17 ∧ ¬ j = 39 ∧ ¬ j = 40) ∨ (k = 134 ∧ 2016 ≤ j) ∨ (k = 135 ∧ 76 ≤ j) ∨ (140 ≤ k ∧ k ≤ 150) ∨ k = 152
def ScHP (w : aW) (k j : Nat) : Prop := ScP w k j ∨ (w.1 ≤ k ∧ k ≤ w.1 + 12)
def ScHM (k j : Nat) : Prop := ScM k j ∨ (k = 134 ∧ (j < 136 ∧ ¬ j = 7)) ∨ (k = 135 ∧ j < 19)
def LPq (k _j : Nat) : Prop := k < 133
def LMq (k _j : Nat) : Prop := 133 ≤ k ∧ k < 154
theorem ScP.l {w : aW} (W : wOk w) {k j : Nat} (h : ScP w k j) : LPq k j := by
  obtain ⟨w1, w2⟩ := W
  unfold ScP at h; unfold LPq; omega
theorem ScM.l {k j : Nat} (h : ScM k j) : LMq k j := by unfold ScM at h; unfold LMq; omega
/-- the program's side where its house has become another one and but scratch has changed -/
theorem RP.ho {w : aW} {f : aF} {A A' : aH} {z : aZ} {μ μ' : dtM} {st : Int32} (H : RP μ w f A z) (F : Fr (ScHP w) μ μ') (h : PH μ' w.1 A') (e : dtI μ' 0 0 = st) : RP μ' w (st, f.2) A' z := by
  obtain ⟨C, R, X, _, T, B, D, K, V, L⟩ := H
  obtain ⟨w1, w2⟩ := R.1
  refine ⟨C.kept F, R.kept F, ⟨e, ?_, ?_⟩, h, T.kept F ?_, B.kept F ?_, D.kept F ?_, K.kept F ?_ ?_, V.kept F ?_, L.kept F ?_⟩
  · rw [F.j (by unfold ScHP ScP; omega)]; exact X.2.1
  · rw [F.j (by unfold ScHP ScP; omega)]; exact X.2.2
  all_goals (intros; unfold ScHP ScP; omega)
theorem RP.sc {w : aW} {f : aF} {A : aH} {z : aZ} {μ μ' : dtM} {st : Int32} (H : RP μ w f A z) (F : Fr (ScP w) μ μ') (e : dtI μ' 0 0 = st) : RP μ' w (st, f.2) A z := by
  obtain ⟨w1, w2⟩ := H.2.1.1
  refine H.ho (F.wide (fun _ _ x => Or.inl x)) (H.2.2.2.1.kept F ?_) e
  intros; unfold ScP; omega
theorem RM.ho {f : aF} {A A' : aH} {z : aZ} {μ μ' : dtM} {st : Int32} (H : RM μ f A z) (W : dWF A (zD z)) (F : Fr ScHM μ μ') (h : MH μ' 0 0 A') (e : dtI μ' 133 2 = st) : RM μ' (st, f.2) A' z := by
  obtain ⟨C, X, _, T, B, D, K, V, L⟩ := H
  refine ⟨C.kept F, ⟨e, ?_, ?_⟩, h, T.kept F ?_, B.kept F ?_ ⟨?_, ?_, ?_⟩, D.kept W F ?_, K.kept F ?_ ?_ ?_, V.kept F ?_ ?_, L.kept F ?_⟩
  · rw [F.j (by unfold ScHM ScM; omega)]; exact X.2.1
  · rw [F.j (by unfold ScHM ScM; omega)]; exact X.2.2
  all_goals (intros; unfold ScHM ScM; omega)
theorem RM.sc {f : aF} {A : aH} {z : aZ} {μ μ' : dtM} {st : Int32} (H : RM μ f A z) (W : dWF A (zD z)) (F : Fr ScM μ μ') (e : dtI μ' 133 2 = st) : RM μ' (st, f.2) A z := by
  refine H.ho W (F.wide (fun _ _ x => Or.inl x)) (H.2.2.1.keptAt F ?_ ?_) e
  · intros; unfold ScM; omega
  · intros; unfold ScM; omega
/-- either side is kept where but the other's cells have changed -/
theorem RP.lm {w : aW} {f : aF} {A : aH} {z : aZ} {μ μ' : dtM} (H : RP μ w f A z) (F : Fr LMq μ μ') : RP μ' w f A z := by
  obtain ⟨C, R, X, h, T, B, D, K, V, L⟩ := H
  obtain ⟨w1, w2⟩ := R.1
  refine ⟨C.kept F, R.kept F, ⟨?_, ?_, ?_⟩, h.kept F ?_, T.kept F ?_, B.kept F ?_, D.kept F ?_, K.kept F ?_ ?_, V.kept F ?_, L.kept F ?_⟩
  · rw [F.i (by unfold LMq; omega)]; exact X.1
  · rw [F.j (by unfold LMq; omega)]; exact X.2.1
  · rw [F.j (by unfold LMq; omega)]; exact X.2.2
  all_goals (intros; unfold LMq; omega)
theorem RM.lp {f : aF} {A : aH} {z : aZ} {μ μ' : dtM} (H : RM μ f A z) (W : dWF A (zD z)) (F : Fr LPq μ μ') : RM μ' f A z := by
  obtain ⟨C, X, h, T, B, D, K, V, L⟩ := H
  refine ⟨C.kept F, ⟨?_, ?_, ?_⟩, h.kept F ⟨?_, ?_, ?_⟩, T.kept F ?_, B.kept F ?_ ⟨?_, ?_, ?_⟩, D.kept W F ?_, K.kept F ?_ ?_ ?_, V.kept F ?_ ?_, L.kept F ?_⟩
  · rw [F.i (by unfold LPq; omega)]; exact X.1
  · rw [F.j (by unfold LPq; omega)]; exact X.2.1
  · rw [F.j (by unfold LPq; omega)]; exact X.2.2
  all_goals (intros; unfold LPq; omega)
def RR (μ : dtM) : Prop := ∃ w f A z, RP μ w f A z ∧ RM μ f A z ∧ dWF A (zD z)
abbrev LA (k _j : Nat) : Prop := k < 154
/-- both sides answer alike, and stand alike behind it -/
def both {α : Type} (a b : dtM → Option (α × dtM)) (μ : dtM) : Prop := ∃ v μ1 μ2, a μ = some (v, μ1) ∧ b μ1 = some (v, μ2) ∧ RR μ2 ∧ Fr LA μ μ2 ∧ Fr LA μ μ1
theorem both.mk {α : Type} {a b : dtM → Option (α × dtM)} {μ : dtM} {w : aW} {f : aF} {A : aH} {z : aZ} (HP : RP μ w f A z) (HM : RM μ f A z) (W : dWF A (zD z)) {v : α} {w' : aW} {f' : aF} {A' : aH} {z' : aZ}
    (hP : ∃ μ1, a μ = some (v, μ1) ∧ Fr LPq μ μ1 ∧ RP μ1 w' f' A' z') (hM : ∀ μ1, RM μ1 f A z → ∃ μ2, b μ1 = some (v, μ2) ∧ Fr LMq μ1 μ2 ∧ RM μ2 f' A' z') (W' : dWF A' (zD z')) : both a b μ := by
  obtain ⟨μ1, e1, F1, R1⟩ := hP
  obtain ⟨μ2, e2, F2, R2⟩ := hM μ1 (HM.lp W F1)
  exact ⟨v, μ1, μ2, e1, e2, ⟨w', f', A', z', R1.lm F2, R2, W'⟩, (F1.wide (fun k j x => by unfold LPq at x; show k < 154; omega)).tr (F2.wide (fun k j x => x.2)), F1.wide (fun k j x => by unfold LPq at x; show k < 154; omega)⟩
/-- nothing but the status and scratch -/
theorem both.sc {α : Type} {a b : dtM → Option (α × dtM)} {μ : dtM} {w : aW} {f : aF} {A : aH} {z : aZ} (HP : RP μ w f A z) (HM : RM μ f A z) (W : dWF A (zD z)) {v : α} {st : Int32}
    (hP : ∃ μ1, a μ = some (v, μ1) ∧ Fr (ScP w) μ μ1 ∧ dtI μ1 0 0 = st) (hM : ∀ μ1, RM μ1 f A z → ∃ μ2, b μ1 = some (v, μ2) ∧ Fr ScM μ1 μ2 ∧ dtI μ2 133 2 = st) : both a b μ := by
  obtain ⟨μ1, e1, F1, s1⟩ := hP
  exact both.mk HP HM W ⟨μ1, e1, F1.wide (fun _ _ x => x.l HP.2.1.1), HP.sc F1 s1⟩ (fun μ1 R1 => by
    obtain ⟨μ2, e2, F2, s2⟩ := hM μ1 R1
    exact ⟨μ2, e2, F2.wide (fun _ _ x => x.l), R1.sc W F2 s2⟩) W
/-- a house that becomes another one -/
theorem both.ho {α : Type} {a b : dtM → Option (α × dtM)} {μ : dtM} {w : aW} {f : aF} {A A' : aH} {z : aZ} (HP : RP μ w f A z) (HM : RM μ f A z) (W : dWF A (zD z)) {v : α} {st : Int32}
    (hP : ∃ μ1, a μ = some (v, μ1) ∧ Fr (ScHP w) μ μ1 ∧ PH μ1 w.1 A' ∧ dtI μ1 0 0 = st) (hM : ∀ μ1, RM μ1 f A z → ∃ μ2, b μ1 = some (v, μ2) ∧ Fr ScHM μ1 μ2 ∧ MH μ2 0 0 A' ∧ dtI μ2 133 2 = st) (W' : dWF A' (zD z)) : both a b μ := by
  obtain ⟨μ1, e1, F1, h1, s1⟩ := hP
  have wo := HP.2.1.1
  obtain ⟨w1, w2⟩ := wo
  refine both.mk HP HM W ⟨μ1, e1, F1.wide (fun k j x => ?_), HP.ho F1 h1 s1⟩ (fun μ1 R1 => ?_) W'
  · unfold ScHP ScP at x; unfold LPq; omega
  · obtain ⟨μ2, e2, F2, h2, s2⟩ := hM μ1 R1
    refine ⟨μ2, e2, F2.wide (fun k j x => ?_), R1.ho W F2 h2 s2⟩
    unfold ScHM ScM at x; unfold LMq; omega
