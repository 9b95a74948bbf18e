/-! PURE 18: loss; the model's secret -/
def hLo (A : aH) (r o : Nat) : Option Nat := if mG A 0 (-Int32.ofNat 1) (7 * r + o) < 1000000 then some (mG A 0 (-Int32.ofNat 1) (7 * r + o)) else none
theorem or_self2 (x : Nat) : 2 ^ x ||| 2 ^ x = 2 ^ x := Nat.or_self _
theorem PH.lossBetween {μ : dtM} {h : Nat} {A : aH} (H : PH μ h A) (G : hHr μ) (hh : h + 12 < 123) {r o : Nat} (hr : r < hs A 0) (ho : o < hs A 0) : ∃ μ', f_X2_lossBetween 122 h (Int32.ofNat r) (Int32.ofNat o) μ = some (oN (hLo A r o), μ') ∧ Fr P123 μ μ' := by
  have hnr := H.nr
  obtain ⟨μ', e, F, hL⟩ := H.spread G hh (wo := -Int32.ofNat 1) (more := 0) (X := 2 ^ r) (p128 (by omega)) (by decide)
  have G1 := G.kept F
  have e122 : opGR 2 0 μ' 122 = some 123 := o_GR G1.1 G1.2.1
  have hv := loss_eq H.2.2 (more := 0) (wo := -Int32.ofNat 1) hr hr ho
  rw [or_self2, Nat.min_self] at hv
  have hb := (mG_E (more := 0) (wo := -Int32.ofNat 1) H.2.2).1 (7 * r + o) (by omega)
  have hg := hL.get G1.2.2 (by decide) (show o < 7 by omega)
  rw [hv] at hg
  refine ⟨μ', ?_, F⟩
  simp only [f_X2_lossBetween, f_X2_lossBetween_31, o_Rv G.1, o_bind, z_lit, z_bit (show r < 32 by omega), e, e122, hg, z_le (show 1000000 < 2147483648 by decide) (show mG A 0 (-Int32.ofNat 1) (7 * r + o) < 2147483648 by omega)]
  unfold hLo
  by_cases q : mG A 0 (-Int32.ofNat 1) (7 * r + o) < 1000000
  · rw [if_neg (by omega), if_pos q]; rfl
  · rw [if_pos (by omega), if_neg q]; rfl
/-- the answer and the status that the model leaves -/
def mOut (μ : dtM) (v st : Int32) : Option (Int32 × dtM) := some (v, dtSI μ 133 2 st)
theorem MH.loss {μ : dtM} {A : aH} (H : MH μ 0 0 A) (L : mLs μ) {r o : Nat} (hr : r < hs A 0) (ho : o < hs A 0) : ∃ μ', f_X12_loss 133 (Int32.ofNat r) (Int32.ofNat o) μ = mOut μ' (oN (hLo A r o)) (oS (hLo A r o)) ∧ Fr P142 μ μ' := by
  have hnr := H.nr
  obtain ⟨μ', e, F, hL⟩ := H.laysLoss L (wo := -Int32.ofNat 1) (more := 0) (by decide)
  have H1 := H.k142 F
  have L1 := L.kept F
  have hb := (mG_E (more := 0) (wo := -Int32.ofNat 1) H.2.2).1 (7 * r + o) (by omega)
  have hg := hL.get L1.2 (by decide) (show 7 * r + o < 49 by omega)
  refine ⟨μ', ?_, F⟩
  simp only [f_X12_loss, f_X12_loss_61, H.rv, H.isRoom, inR_n (show hs A 0 < 2147483648 by omega) (show r < 2147483648 by omega), inR_n (show hs A 0 < 2147483648 by omega) (show o < 2147483648 by omega), decide_eq_true hr, decide_eq_true ho, o_bind, o_call, z_lit, b0, e, H1.r24 L1, z_mul, z_add, hg, z_lt (show mG A 0 (-Int32.ofNat 1) (7 * r + o) < 2147483648 by omega) (show 1000000 < 2147483648 by decide), H1.rv, m_gives H1.1.1, m_refuse H1.1.1]
  rw [if_neg (by decide), if_neg (by decide)]
  unfold hLo mOut
  by_cases q : mG A 0 (-Int32.ofNat 1) (7 * r + o) < 1000000
  · rw [if_pos q, if_pos q]; rfl
  · rw [if_neg q, if_neg q]; rfl
theorem MH.se76 {A : aH} {near me to bt s : Nat} (hn : near < 128) (hto : to < hs A 3) (hbt : bt < hs A 3) (h1 : ¬ me = to) (h2 : ¬ me = bt) (hme : me < hs A 3) (hs4 : s < 4) : ∀ (n f i : Nat) (μ : dtM), i + n = hs A 1 → n < f → MH μ 0 0 A → mLs μ → ∃ μ', f_X12_secret_76 f 133 (Int32.ofNat me) (Int32.ofNat to) (Int32.ofNat bt) (Int32.ofNat s) (Int32.ofNat near) (Int32.ofNat i) μ = mOut μ' (oN (hSe A near to bt s n i)) (oS (hSe A near to bt s n i)) ∧ Fr P142 μ μ' := by
  intro n
  induction n with
  | zero =>
    intro f i μ e hf H L
    have hnd := H.nd
    have g1 := H.g1
    cases f with
    | zero => omega
    | succ f =>
      simp only [f_X12_secret_76, H.r0, H.rv, g1, m_refuse H.1.1, o_bind, o_call, z_lit, z_le (show hs A 1 < 2147483648 by omega) (show i < 2147483648 by omega)]
      rw [if_pos (by omega)]; exact ⟨μ, rfl, Fr.rf⟩
  | succ n ih =>
    intro f i μ e hf H L
    have hnd := H.nd
    have hnp := H.np
    have g1 := H.g1
    cases f with
    | zero => omega
    | succ f =>
      have hi : i < hs A 1 := by omega
      obtain ⟨μ1, e1, F1⟩ := H.hearing L (d := i) (s := s) (mk := Int32.ofNat me) hs4 hi
      have H1 := H.k142 F1
      have L1 := L.kept F1
      have hlt := hSet_lt H.2.2 (d := i) (s := s) (mk := Int32.ofNat me)
      have b1 : (hSet A i s (Int32.ofNat me)).testBit to = hHd A 0 i to s := by
        have hz : ¬ Int32.ofNat to = Int32.ofNat me := fun q => h1 ((z_eq (show to < 2147483648 by omega) (show me < 2147483648 by omega)).mp q).symm
        rw [hSet_bit, decide_eq_true hto, decide_eq_false hz]; rfl
      have b2 : (hSet A i s (Int32.ofNat me)).testBit bt = hHd A 0 i bt s := by
        have hz : ¬ Int32.ofNat bt = Int32.ofNat me := fun q => h2 ((z_eq (show bt < 2147483648 by omega) (show me < 2147483648 by omega)).mp q).symm
        rw [hSet_bit, decide_eq_true hbt, decide_eq_false hz]; rfl
      obtain ⟨μ2, e2, F2⟩ := ih f (i + 1) μ1 (by omega) (by omega) H1 L1
      obtain ⟨μ3, e3, F3⟩ := ih f (i + 1) μ (by omega) (by omega) H L
      simp only [f_X12_secret_76, f_X12_secret_148, H.r0, H.rv, g1, o_bind, o_call, z_lit, z_le (show hs A 1 < 2147483648 by omega) (show i < 2147483648 by omega), H.isOpen (show i < 32 by omega), H.isAt (show near < 2147483648 by omega) hi, e1, H1.rv, f_isIn (show hSet A i s (Int32.ofNat me) < 2147483648 by omega) (show to < 32 by omega), f_isIn (show hSet A i s (Int32.ofNat me) < 2147483648 by omega) (show bt < 32 by omega), b1, b2, m_gives H1.1.1, b0, z_add]
      rw [if_neg (by omega), hSe]
      by_cases q1 : (hs A 5).testBit i = false
      · rw [if_pos q1, if_neg (by rw [q1]; simp)]
        exact ⟨μ3, e3, F3⟩
      · rw [if_neg q1]
        by_cases q2 : (near.testBit (ht A 0 i) || near.testBit (ht A 1 i)) = false
        · rw [if_pos q2, if_neg (fun x => by rw [← Bool.or_eq_true, q2] at x; exact absurd x.2.1 (by decide))]
          exact ⟨μ3, e3, F3⟩
        · rw [if_neg q2]
          have q2' : near.testBit (ht A 0 i) = true ∨ near.testBit (ht A 1 i) = true := by
            cases x0 : near.testBit (ht A 0 i)
            · cases x1 : near.testBit (ht A 1 i)
              · exact absurd (by rw [x0, x1]; rfl) q2
              · exact Or.inr rfl
            · exact Or.inl rfl
          by_cases q3 : hHd A 0 i to s = false
          · rw [if_pos q3, if_neg (by rw [q3]; simp)]
            exact ⟨μ2, e2, F1.tr F2⟩
          · rw [if_neg q3]
            by_cases q4 : hHd A 0 i bt s = false
            · rw [if_pos q4, if_pos ⟨by simpa using q1, q2', by simpa using q3, q4⟩]
              exact ⟨μ1, rfl, F1⟩
            · rw [if_neg q4, if_neg (fun x => q4 x.2.2.2)]
              exact ⟨μ2, e2, F1.tr F2⟩
