/-! PURE 9: spreading ends at the one distance -/
def isD (A : aH) (more : Nat) (wo : Int32) (src : Nat) (δ : Nat → Nat) : Prop :=
  (∀ v, v < 7 → src.testBit v = true → δ v = 0) ∧
  (∀ d, d < hs A 1 → ¬ Int32.ofNat d = wo → δ (ht A 0 d) ≤ δ (ht A 1 d) + hC A more d ∧ δ (ht A 1 d) ≤ δ (ht A 0 d) + hC A more d) ∧
  (∀ v, v < 7 → src.testBit v = false → δ v < 1000000 → ∃ d, d < hs A 1 ∧ ¬ Int32.ofNat d = wo ∧ ((ht A 1 d = v ∧ δ (ht A 0 d) + hC A more d ≤ δ v) ∨ (ht A 0 d = v ∧ δ (ht A 1 d) + hC A more d ≤ δ v))) ∧
  (∀ v, v < 7 → δ v ≤ 1000000)
/-- a pass: above the distance, no greater than before, and every door looked at -/
def Pas (A : aH) (more : Nat) (wo : Int32) (δ g : Nat → Nat) (n : Nat) (st : (Nat → Nat) × Bool) : Prop :=
  (∀ v, v < 7 → δ v ≤ st.1 v) ∧ (∀ v, v < 7 → st.1 v ≤ g v) ∧ (∀ d, d < n → ¬ Int32.ofNat d = wo → st.1 (ht A 0 d) ≤ g (ht A 1 d) + hC A more d ∧ st.1 (ht A 1 d) ≤ g (ht A 0 d) + hC A more d) ∧ (st.2 = false → st.1 = g)
theorem rx_pas {A : aH} (W : hWF A) {more : Nat} {wo : Int32} {src : Nat} {δ g : Nat → Nat} (D : isD A more wo src δ) {d : Nat} (hd : d < hs A 1) {st : (Nat → Nat) × Bool} (h : Pas A more wo δ g d st) : Pas A more wo δ g (d + 1) (rx A more wo d st) := by
  have hr := W.1.1
  have ha := (W.2.1 d hd).1
  have hb := (W.2.1 d hd).2.1
  have hne := (W.2.1 d hd).2.2.1
  obtain ⟨h1, h2, h3, h4⟩ := h
  obtain ⟨u, ch⟩ := st
  have a1 := h1 (ht A 0 d) (by omega)
  have a2 := h2 (ht A 0 d) (by omega)
  have b1 := h1 (ht A 1 d) (by omega)
  have b2 := h2 (ht A 1 d) (by omega)
  simp only at a1 a2 b1 b2
  unfold rx
  by_cases q : Int32.ofNat d = wo
  · rw [if_pos q]
    refine ⟨h1, h2, fun d' hd' hs' => ?_, h4⟩
    by_cases e : d' = d
    · subst e; exact absurd q hs'
    · exact h3 d' (by omega) hs'
  · rw [if_neg q]
    by_cases q2 : u (ht A 0 d) - u (ht A 1 d) + (u (ht A 1 d) - u (ht A 0 d)) ≤ hC A more d
    · rw [if_pos q2]
      refine ⟨h1, h2, fun d' hd' hs' => ?_, h4⟩
      by_cases e : d' = d
      · subst e
        show u _ ≤ _ ∧ u _ ≤ _
        omega
      · exact h3 d' (by omega) hs'
    · rw [if_neg q2]
      have hDd := D.2.1 d hd q
      have ea : rxG u (ht A 0 d) (ht A 1 d) (hC A more d) (ht A 0 d) = min (u (ht A 1 d) + hC A more d) (u (ht A 0 d)) := by simp [rxG, dtUp, hne]
      have eb : rxG u (ht A 0 d) (ht A 1 d) (hC A more d) (ht A 1 d) = min (min (u (ht A 1 d) + hC A more d) (u (ht A 0 d)) + hC A more d) (u (ht A 1 d)) := by
        have hne' : ¬ ht A 1 d = ht A 0 d := fun e => hne e.symm
        simp [rxG, dtUp, hne']
      have eo : ∀ v, ¬ v = ht A 0 d → ¬ v = ht A 1 d → rxG u (ht A 0 d) (ht A 1 d) (hC A more d) v = u v := fun v q0 q1 => by simp [rxG, dtUp, q0, q1]
      generalize rxG u (ht A 0 d) (ht A 1 d) (hC A more d) = w at ea eb eo
      have hw : ∀ v, v < 7 → w v ≤ u v := by
        intro v hv
        by_cases q0 : v = ht A 0 d
        · rw [q0, ea]; omega
        · by_cases q1 : v = ht A 1 d
          · rw [q1, eb]; omega
          · rw [eo v q0 q1]; omega
      refine ⟨fun v hv => ?_, fun v hv => Nat.le_trans (hw v hv) (h2 v hv), fun d' hd' hs' => ?_, fun q' => by cases q'⟩
      · have h1v := h1 v hv
        show δ v ≤ w v
        by_cases q0 : v = ht A 0 d
        · rw [q0, ea]; omega
        · by_cases q1 : v = ht A 1 d
          · rw [q1, eb]; omega
          · rw [eo v q0 q1]; exact h1v
      · show w _ ≤ _ ∧ w _ ≤ _
        by_cases e : d' = d
        · subst e
          rw [ea, eb]; omega
        · have hd2 : d' < hs A 1 := by omega
          have x0 := hw (ht A 0 d') (by have := (W.2.1 d' hd2).1; omega)
          have x1 := hw (ht A 1 d') (by have := (W.2.1 d' hd2).2.1; omega)
          have x2 := h3 d' (by omega) hs'
          simp only at x2
          omega
theorem rx_pass {A : aH} (W : hWF A) {more : Nat} {wo : Int32} {src : Nat} {δ g : Nat → Nat} (D : isD A more wo src δ) (hg : ∀ v, v < 7 → δ v ≤ g v) : Pas A more wo δ g (hs A 1) (fo (rx A more wo) (hs A 1) 0 (g, false)) :=
  fo_ind (P := fun n s => Pas A more wo δ g n s) (fun _ _ hd q => rx_pas W D hd q) (hs A 1) 0 (g, false) (by omega) ⟨hg, fun _ _ => Nat.le_refl _, fun d hd => absurd hd (Nat.not_lt_zero d), fun _ => rfl⟩
def ind (g δ : Nat → Nat) (v : Nat) : Nat := if g v = δ v then 1 else 0
def cn (g δ : Nat → Nat) : Nat := ind g δ 0 + ind g δ 1 + ind g δ 2 + ind g δ 3 + ind g δ 4 + ind g δ 5 + ind g δ 6
theorem ind_le {g δ : Nat → Nat} {v : Nat} : ind g δ v ≤ 1 := by unfold ind; by_cases h : g v = δ v <;> simp [h]
theorem ind1 {g δ : Nat → Nat} {v : Nat} (h : g v = δ v) : ind g δ v = 1 := if_pos h
theorem ind0 {g δ : Nat → Nat} {v : Nat} (h : ¬ g v = δ v) : ind g δ v = 0 := if_neg h
theorem ind_mono {g g' δ : Nat → Nat} {v : Nat} (h1 : δ v ≤ g' v) (h2 : g' v ≤ g v) : ind g δ v ≤ ind g' δ v := by
  by_cases h : g v = δ v
  · rw [ind1 h, ind1 (by omega : g' v = δ v)]; exact Nat.le_refl _
  · rw [ind0 h]; exact Nat.zero_le _
theorem cn_grow {g g' δ : Nat → Nat} (h1 : ∀ v, v < 7 → δ v ≤ g' v) (h2 : ∀ v, v < 7 → g' v ≤ g v) {v : Nat} (hv : v < 7) (hb : ¬ g v = δ v) (hg : g' v = δ v) : cn g δ + 1 ≤ cn g' δ := by
  have m0 := ind_mono (h1 0 (by omega)) (h2 0 (by omega))
  have m1 := ind_mono (h1 1 (by omega)) (h2 1 (by omega))
  have m2 := ind_mono (h1 2 (by omega)) (h2 2 (by omega))
  have m3 := ind_mono (h1 3 (by omega)) (h2 3 (by omega))
  have m4 := ind_mono (h1 4 (by omega)) (h2 4 (by omega))
  have m5 := ind_mono (h1 5 (by omega)) (h2 5 (by omega))
  have m6 := ind_mono (h1 6 (by omega)) (h2 6 (by omega))
  have e0 := ind0 hb
  have e1 := ind1 hg
  unfold cn
  have : v = 0 ∨ v = 1 ∨ v = 2 ∨ v = 3 ∨ v = 4 ∨ v = 5 ∨ v = 6 := by omega
  rcases this with q | q | q | q | q | q | q <;> subst q <;> omega
theorem cn_all {g δ : Nat → Nat} (h : 7 ≤ cn g δ) : ∀ v, v < 7 → g v = δ v := by
  intro v hv
  by_cases q : g v = δ v
  · exact q
  · exfalso
    have e0 := ind0 q
    have m0 := ind_le (g := g) (δ := δ) (v := 0)
    have m1 := ind_le (g := g) (δ := δ) (v := 1)
    have m2 := ind_le (g := g) (δ := δ) (v := 2)
    have m3 := ind_le (g := g) (δ := δ) (v := 3)
    have m4 := ind_le (g := g) (δ := δ) (v := 4)
    have m5 := ind_le (g := g) (δ := δ) (v := 5)
    have m6 := ind_le (g := g) (δ := δ) (v := 6)
    unfold cn at h
    have : v = 0 ∨ v = 1 ∨ v = 2 ∨ v = 3 ∨ v = 4 ∨ v = 5 ∨ v = 6 := by omega
    rcases this with q | q | q | q | q | q | q <;> subst q <;> omega
theorem rx_prog {A : aH} (W : hWF A) {more : Nat} {wo : Int32} {src : Nat} {δ g : Nat → Nat} (D : isD A more wo src δ) (hB' : hB g) (hsrc : ∀ v, v < 7 → src.testBit v = true → g v = 0) {st : (Nat → Nat) × Bool} (h : Pas A more wo δ g (hs A 1) st) : ∀ (m v : Nat), v < 7 → δ v ≤ m → ¬ g v = δ v → ∃ w, w < 7 ∧ ¬ g w = δ w ∧ st.1 w = δ w := by
  have hr := W.1.1
  intro m
  induction m with
  | zero =>
    intro v hv hm hb
    have hns : src.testBit v = false := by
      cases q : src.testBit v
      · rfl
      · exact absurd ((hsrc v hv q).trans (D.1 v hv q).symm) hb
    have := hB' v hv
    have h1 := h.1 v hv
    have h2 := h.2.1 v hv
    obtain ⟨d, hd, hs', hx⟩ := D.2.2.1 v hv hns (by omega)
    have hc := hC_le (A := A) (more := more) (d := d)
    rcases hx with ⟨e, hx⟩ | ⟨e, hx⟩ <;> omega
  | succ m ih =>
    intro v hv hm hb
    have hns : src.testBit v = false := by
      cases q : src.testBit v
      · rfl
      · exact absurd ((hsrc v hv q).trans (D.1 v hv q).symm) hb
    have := hB' v hv
    have h1 := h.1 v hv
    have h2 := h.2.1 v hv
    obtain ⟨d, hd, hs', hx⟩ := D.2.2.1 v hv hns (by omega)
    have hc := hC_le (A := A) (more := more) (d := d)
    have a7 := (W.2.1 d hd).1
    have b7 := (W.2.1 d hd).2.1
    have h3 := h.2.2.1 d hd hs'
    rcases hx with ⟨e, hx⟩ | ⟨e, hx⟩
    · by_cases q : g (ht A 0 d) = δ (ht A 0 d)
      · refine ⟨v, hv, hb, ?_⟩
        rw [e] at h3
        omega
      · exact ih (ht A 0 d) (by omega) (by omega) q
    · by_cases q : g (ht A 1 d) = δ (ht A 1 d)
      · refine ⟨v, hv, hb, ?_⟩
        rw [e] at h3
        omega
      · exact ih (ht A 1 d) (by omega) (by omega) q
theorem rds_ok {A : aH} (W : hWF A) {more : Nat} {wo : Int32} {src : Nat} {δ : Nat → Nat} (D : isD A more wo src δ) : ∀ (n : Nat) (g : Nat → Nat), hB g → (∀ v, v < 7 → src.testBit v = true → g v = 0) → (∀ v, v < 7 → δ v ≤ g v) → 7 ≤ cn g δ + n → ∀ v, v < 7 → rds A more wo n g v = δ v := by
  intro n
  induction n with
  | zero =>
    intro g _ _ _ hc
    exact cn_all hc
  | succ n ih =>
    intro g hB' hsrc hg hc v hv
    have P := rx_pass W D hg
    have pr := rx_prog W D hB' hsrc P
    rw [rds]
    have hB2 := rxs_B (more := more) (wo := wo) W (n := hs A 1) (i := 0) (st := (g, false)) (by omega) hB'
    generalize fo (rx A more wo) (hs A 1) 0 (g, false) = st at P pr hB2
    by_cases hall : ∀ v, v < 7 → g v = δ v
    · have hst : ∀ v, v < 7 → st.1 v = δ v := fun v hv => by
        have a := P.1 v hv
        have b := P.2.1 v hv
        have c := hall v hv
        omega
      by_cases q : st.2 = true
      · rw [if_pos q]
        refine ih st.1 hB2 (fun v hv hs' => by rw [hst v hv]; exact D.1 v hv hs') P.1 ?_ v hv
        unfold cn
        rw [ind1 (hst 0 (by omega)), ind1 (hst 1 (by omega)), ind1 (hst 2 (by omega)), ind1 (hst 3 (by omega)), ind1 (hst 4 (by omega)), ind1 (hst 5 (by omega)), ind1 (hst 6 (by omega))]
        omega
      · rw [if_neg q]; exact hst v hv
    · have hex : ∃ v, v < 7 ∧ ¬ g v = δ v := by
        apply Classical.byContradiction
        intro hn
        apply hall
        intro v hv
        apply Classical.byContradiction
        intro q
        exact hn ⟨v, hv, q⟩
      obtain ⟨v0, hv0, hb0⟩ := hex
      obtain ⟨w, hw, hbw, hgw⟩ := pr (δ v0) v0 hv0 (Nat.le_refl _) hb0
      have hgrow := cn_grow P.1 P.2.1 hw hbw hgw
      by_cases q : st.2 = true
      · rw [if_pos q]
        refine ih st.1 hB2 (fun v hv hs' => ?_) P.1 (by omega) v hv
        have := P.2.1 v hv
        rw [hsrc v hv hs'] at this
        omega
      · exfalso
        have e := P.2.2.2 (by simpa using q)
        rw [e] at hgw
        exact hbw hgw
theorem rds_ini {A : aH} (W : hWF A) {more : Nat} {wo : Int32} {src : Nat} {δ : Nat → Nat} (D : isD A more wo src δ) : ∀ v, v < 7 → rds A more wo 7 (ini src) v = δ v := by
  refine rds_ok W D 7 (ini src) ini_B (fun v _ h => if_pos h) (fun v hv => ?_) (by omega)
  unfold ini
  by_cases h : src.testBit v = true
  · rw [if_pos h, D.1 v hv h]; exact Nat.le_refl _
  · rw [if_neg h]; exact D.2.2.2 v hv
