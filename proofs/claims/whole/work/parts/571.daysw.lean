/-! PURE 9993: the days' text, what holds as it is read -/
def sD (S : aY) : aD := (1, sL S, sT S)
def nst (a : Nat) : Prop := a = 19 ∨ a = 21
def knd (a : Nat) : Prop := a = 4 ∨ a = 15 ∨ a = 16 ∨ a = 17 ∨ a = 18 ∨ a = 19 ∨ a = 21 ∨ a = 22 ∨ a = 23
def sWF (A : aH) (S : aY) : Prop :=
  (sC S ≤ 30 ∧ sL S + sN S ≤ 2 * sC S ∧ sN S ≤ 3) ∧
  (∀ k, k < sL S → knd (sT S 0 k) ∧ rkW A (fun t => sT S t k)) ∧
  (∀ i, i < sN S → sB S i < sL S ∧ nst (sT S 0 (sB S i))) ∧
  (∀ i j, i < j → j < sN S → sB S i < sB S j) ∧
  (∀ k, k < sL S → nst (sT S 0 k) → (∃ i, i < sN S ∧ sB S i = k) ∨ (k < sT S 5 k ∧ sT S 5 k < sL S)) ∧
  (∀ k, k < sL S → sT S 0 k = 22 → sT S 5 k < k ∧ nst (sT S 0 (sT S 5 k)) ∧ (∀ i, i < sN S → ¬ sB S i = sT S 5 k) ∧ sT S 5 (sT S 5 k) = k ∧ (nst (sT S 0 (k - 1)) → sT S 5 k = k - 1)) ∧
  (0 < sL S → nst (sT S 0 (sL S - 1)) → 0 < sN S ∧ sB S (sN S - 1) = sL S - 1)
theorem s00_W {A : aH} : sWF A s00 := by
  refine ⟨⟨by decide, by decide, by decide⟩, fun k h => absurd h (Nat.not_lt_zero _), fun i h => absurd h (Nat.not_lt_zero _), fun i j _ h => absurd h (Nat.not_lt_zero _), fun k h => absurd h (Nat.not_lt_zero _), fun k h => absurd h (Nat.not_lt_zero _), fun h => absurd h (Nat.not_lt_zero _)⟩
theorem rkW_c {A : aH} {r r' : Nat → Nat} (h : ∀ t, t < 5 → r' t = r t) (W : rkW A r) : rkW A r' := by
  unfold rkW rWho at W ⊢
  rw [h 0 (by decide), h 1 (by decide), h 2 (by decide), h 3 (by decide), h 4 (by decide)]
  exact W
theorem rkW_22 {A : aH} {r : Nat → Nat} (h : r 0 = 22) : rkW A r := by
  unfold rkW rWho
  rw [h]
  exact ⟨fun x => by omega, fun x => by omega, fun x => by omega, fun x => by omega, fun x => by omega⟩
theorem add_T {S : aY} {k t j : Nat} {v : aRw} (h : j < sL S) : sT (sAdd S k v) t j = sT S t j := if_neg (by omega)
theorem add_Tn {S : aY} {k t : Nat} {v : aRw} : sT (sAdd S k v) t (sL S) = rwV k v t := if_pos rfl
theorem add_L {S : aY} {k : Nat} {v : aRw} : sL (sAdd S k v) = sL S + 1 := rfl
theorem add_C {S : aY} {k : Nat} {v : aRw} : sC (sAdd S k v) = sC S + 1 := rfl
theorem add_Ny {S : aY} {k : Nat} {v : aRw} (h : nst k) : sN (sAdd S k v) = sN S + 1 := if_pos h
theorem add_Nn {S : aY} {k : Nat} {v : aRw} (h : ¬ nst k) : sN (sAdd S k v) = sN S := if_neg h
theorem add_B {S : aY} {k i : Nat} {v : aRw} (h : i < sN S) : sB (sAdd S k v) i = sB S i := if_neg (fun x => by have := x.2; omega)
theorem add_Bn {S : aY} {k : Nat} {v : aRw} (h : nst k) : sB (sAdd S k v) (sN S) = sL S := if_pos ⟨h, rfl⟩
theorem end_T {S : aY} {t j : Nat} (h : j < sL S) (q : ¬ (t = 5 ∧ j = sB S (sN S - 1))) : sT (sEnd S) t j = sT S t j := by
  show (if j = sL S then _ else if t = 5 ∧ j = sB S (sN S - 1) then sL S else sT S t j) = _
  rw [if_neg (by omega), if_neg q]
theorem end_T5 {S : aY} (h : sB S (sN S - 1) < sL S) : sT (sEnd S) 5 (sB S (sN S - 1)) = sL S := by
  show (if sB S (sN S - 1) = sL S then _ else if 5 = 5 ∧ sB S (sN S - 1) = sB S (sN S - 1) then sL S else sT S 5 (sB S (sN S - 1))) = _
  rw [if_neg (by omega), if_pos ⟨rfl, rfl⟩]
theorem end_Tn {S : aY} {t : Nat} : sT (sEnd S) t (sL S) = if t = 0 then 22 else if t = 5 then sB S (sN S - 1) else 0 := if_pos rfl
theorem end_L {S : aY} : sL (sEnd S) = sL S + 1 := rfl
theorem end_C {S : aY} : sC (sEnd S) = sC S := rfl
theorem end_N {S : aY} : sN (sEnd S) = sN S - 1 := rfl
theorem end_B {S : aY} {i : Nat} : sB (sEnd S) i = sB S i := rfl
theorem sAdd_W {A : aH} {S : aY} {k : Nat} {v : aRw} (W : sWF A S) (hk : knd k) (h22 : ¬ k = 22) (hr : rkW A (rwV k v)) (h30 : sC S < 30) (h3 : nst k → sN S < 3) : sWF A (sAdd S k v) := by
  obtain ⟨⟨c1, c2, c3⟩, w2, w3, w4, w5, w6, w7⟩ := W
  have nle : sN S ≤ sN (sAdd S k v) := by
    by_cases q : nst k
    · rw [add_Ny q]; omega
    · rw [add_Nn q]; omega
  have ncs : ∀ i, i < sN (sAdd S k v) → i < sN S ∨ (nst k ∧ i = sN S) := fun i hi => by
    by_cases q : nst k
    · rw [add_Ny q] at hi
      by_cases e : i = sN S
      · exact Or.inr ⟨q, e⟩
      · exact Or.inl (by omega)
    · rw [add_Nn q] at hi; exact Or.inl hi
  refine ⟨⟨by rw [add_C]; omega, ?_, ?_⟩, fun j hj => ?_, fun i hi => ?_, fun i j hij hj => ?_, fun j hj hn => ?_, fun j hj h2 => ?_, fun _ hn => ?_⟩
  · rw [add_C, add_L]
    by_cases q : nst k
    · rw [add_Ny q]; omega
    · rw [add_Nn q]; omega
  · by_cases q : nst k
    · rw [add_Ny q]; have := h3 q; omega
    · rw [add_Nn q]; exact c3
  · rw [add_L] at hj
    by_cases e : j = sL S
    · rw [e, add_Tn]
      exact ⟨hk, rkW_c (fun t _ => add_Tn) hr⟩
    · rw [add_T (by omega)]
      exact ⟨(w2 j (by omega)).1, rkW_c (fun t _ => add_T (by omega)) (w2 j (by omega)).2⟩
  · rw [add_L]
    rcases ncs i hi with q | ⟨q, e⟩
    · have := w3 i q
      rw [add_B q, add_T this.1]
      exact ⟨by omega, this.2⟩
    · rw [e, add_Bn q, add_Tn]
      exact ⟨by omega, q⟩
  · rcases ncs j hj with q | ⟨q, e⟩
    · rw [add_B (by omega), add_B q]; exact w4 i j hij q
    · rw [e, add_Bn q, add_B (by omega)]; exact (w3 i (by omega)).1
  · rw [add_L] at hj ⊢
    by_cases e : j = sL S
    · rw [e, add_Tn] at hn
      have hn : nst k := hn
      exact Or.inl ⟨sN S, by rw [add_Ny hn]; omega, by rw [add_Bn hn, e]⟩
    · rw [add_T (by omega)] at hn
      rcases w5 j (by omega) hn with ⟨i, a, b⟩ | x
      · exact Or.inl ⟨i, by omega, by rw [add_B a]; exact b⟩
      · rw [add_T (by omega)]; exact Or.inr ⟨x.1, by omega⟩
  · rw [add_L] at hj
    by_cases e : j = sL S
    · rw [e, add_Tn] at h2
      exact absurd h2 h22
    · rw [add_T (by omega)] at h2
      obtain ⟨x1, x2, x3, x4, x5⟩ := w6 j (by omega) h2
      rw [add_T (t := 5) (j := j) (by omega), add_T (t := 0) (j := sT S 5 j) (by omega), add_T (t := 5) (j := sT S 5 j) (by omega), add_T (t := 0) (j := j - 1) (by omega)]
      refine ⟨x1, x2, fun i hi => ?_, x4, x5⟩
      rcases ncs i hi with q | ⟨q, e2⟩
      · rw [add_B q]; exact x3 i q
      · rw [e2, add_Bn q]; omega
  · rw [add_L, Nat.add_sub_cancel, add_Tn] at hn
    have hn : nst k := hn
    rw [add_L, Nat.add_sub_cancel, add_Ny hn, Nat.add_sub_cancel, add_Bn hn]
    exact ⟨Nat.succ_pos _, rfl⟩
theorem sEnd_W {A : aH} {S : aY} (W : sWF A S) (h0 : 0 < sN S) : sWF A (sEnd S) := by
  obtain ⟨⟨c1, c2, c3⟩, w2, w3, w4, w5, w6, w7⟩ := W
  obtain ⟨b1, b2⟩ := w3 (sN S - 1) (by omega)
  refine ⟨⟨by rw [end_C]; exact c1, by rw [end_C, end_L, end_N]; omega, by rw [end_N]; omega⟩, fun j hj => ?_, fun i hi => ?_, fun i j hij hj => ?_, fun j hj hn => ?_, fun j hj h2 => ?_, fun _ hn => ?_⟩
  · rw [end_L] at hj
    by_cases e : j = sL S
    · rw [e, end_Tn, if_pos rfl]
      exact ⟨by unfold knd; omega, rkW_22 (show sT (sEnd S) 0 (sL S) = 22 by rw [end_Tn, if_pos rfl])⟩
    · rw [end_T (by omega) (by omega)]
      exact ⟨(w2 j (by omega)).1, rkW_c (fun t ht => end_T (by omega) (by omega)) (w2 j (by omega)).2⟩
  · rw [end_N] at hi
    have := w3 i (by omega)
    rw [end_B, end_L, end_T this.1 (by omega)]
    exact ⟨by omega, this.2⟩
  · rw [end_N] at hj
    rw [end_B, end_B]
    exact w4 i j hij (by omega)
  · rw [end_L] at hj ⊢
    by_cases e : j = sL S
    · rw [e, end_Tn, if_pos rfl] at hn
      unfold nst at hn
      omega
    · rw [end_T (by omega) (by omega)] at hn
      by_cases q : j = sB S (sN S - 1)
      · rw [q, end_T5 b1]
        exact Or.inr ⟨b1, by omega⟩
      · rw [end_T (t := 5) (by omega) (fun x => q x.2)]
        rcases w5 j (by omega) hn with ⟨i, a, b⟩ | x
        · by_cases q2 : i = sN S - 1
          · exact absurd (by rw [← b, q2]) q
          · exact Or.inl ⟨i, by rw [end_N]; omega, b⟩
        · exact Or.inr ⟨x.1, by omega⟩
  · rw [end_L] at hj
    by_cases e : j = sL S
    · rw [e, end_Tn, if_neg (by decide), if_pos rfl, end_T (t := 0) b1 (by omega), end_T5 b1, end_T (t := 0) (j := sL S - 1) (by omega) (by omega)]
      refine ⟨b1, b2, fun i hi => ?_, rfl, fun hn => (w7 (by omega) hn).2⟩
      rw [end_N] at hi
      have := w4 i (sN S - 1) (by omega) (by omega)
      rw [end_B]; omega
    · rw [end_T (t := 0) (by omega) (by omega)] at h2
      obtain ⟨x1, x2, x3, x4, x5⟩ := w6 j (by omega) h2
      have n1 : ¬ j = sB S (sN S - 1) := fun x => by
        rw [← x] at b2
        unfold nst at b2
        omega
      have n2 : ¬ sT S 5 j = sB S (sN S - 1) := fun x => x3 (sN S - 1) (by omega) x.symm
      rw [end_T (t := 5) (j := j) (by omega) (fun x => n1 x.2), end_T (t := 0) (j := sT S 5 j) (by omega) (by omega), end_T (t := 5) (j := sT S 5 j) (by omega) (fun x => n2 x.2), end_T (t := 0) (j := j - 1) (by omega) (by omega)]
      exact ⟨x1, x2, fun i hi => x3 i (by rw [end_N] at hi; omega), x4, x5⟩
  · rw [end_L, Nat.add_sub_cancel, end_Tn, if_pos rfl] at hn
    unfold nst at hn
    omega
theorem sWF_d {A : aH} {S : aY} (W : sWF A S) (h0 : sN S = 0) : dWF A (sD S) := by
  obtain ⟨⟨c1, c2, c3⟩, w2, w3, w4, w5, w6, w7⟩ := W
  refine ⟨Nat.le_refl _, fun _ => ⟨by show sL S ≤ 60; omega, fun k hk => ?_⟩⟩
  have hk' : k < sL S := hk
  obtain ⟨kk, r1, r2, r3, r4, r5⟩ := w2 k hk'
  refine ⟨kk, r1, r2, r3, r4, r5, fun hn => ?_, fun h2 => ?_⟩
  · rcases w5 k hk' hn with ⟨i, a, _⟩ | x
    · omega
    · exact x
  · obtain ⟨x1, x2, x3, x4, x5⟩ := w6 k hk' h2
    refine ⟨x1, x2, fun y => ?_⟩
    have y' : sT S 0 (sT S 5 k + 1) = 22 := y
    show k = sT S 5 k + 1
    by_cases q : sT S 5 k + 1 < sL S
    · obtain ⟨_, _, _, z4, z5⟩ := w6 (sT S 5 k + 1) q y'
      rw [Nat.add_sub_cancel] at z5
      have z6 := z5 x2
      rw [z6, x4] at z4
      exact z4
    · omega
theorem xRow_ok {u : Nat → Nat} {n e : Nat} {A : aH} {S : aY} {y : aY × Nat} (W : sWF A S) (h : xStp u n A S e = .ok y) : sWF A y.1 := by
  unfold xStp at h
  cases hk : lxK u n e with
  | none => rw [hk] at h; exact absurd h (fun x => nomatch x)
  | some k =>
    rw [hk] at h
    have h' : (if k = 22 then (if sN S = 0 then (.error (flt u n e 2) : aX (aY × Nat)) else .ok (sEnd S, lxE u n e)) else if k = 4 ∨ k = 19 ∨ k = 21 ∨ k = 23 ∨ (15 ≤ k ∧ k ≤ 18) then xStk u n A S k e else .error (flt u n e 2)) = .ok y := h
    by_cases a : k = 22
    · rw [if_pos a] at h'
      by_cases b : sN S = 0
      · rw [if_pos b] at h'; exact absurd h' (fun x => nomatch x)
      · rw [if_neg b] at h'
        rw [← Except.ok.inj h']
        exact sEnd_W W (by omega)
    · rw [if_neg a] at h'
      by_cases b : k = 4 ∨ k = 19 ∨ k = 21 ∨ k = 23 ∨ (15 ≤ k ∧ k ≤ 18)
      · rw [if_pos b] at h'
        unfold xStk at h'
        by_cases c : sC S = 30
        · rw [if_pos c] at h'; exact absurd h' (fun x => nomatch x)
        · rw [if_neg c] at h'
          by_cases d : (k = 19 ∨ k = 21) ∧ sN S = 3
          · rw [if_pos d] at h'; exact absurd h' (fun x => nomatch x)
          · rw [if_neg d] at h'
            obtain ⟨v, hv, h'⟩ := xB_ok h'
            rw [← Except.ok.inj h']
            have c1 := W.1.1
            have c3 := W.1.2.2
            exact sAdd_W W (by unfold knd; omega) a (xRow_W hv) (by omega) (fun q => by unfold nst at q; omega)
      · rw [if_neg b] at h'; exact absurd h' (fun x => nomatch x)
theorem xEnd_W {u : Nat → Nat} {n : Nat} {A : aH} {r : aX (aY × Nat)} {y : aY × Nat} (hr : ∀ z, r = .ok z → sWF A z.1) (h : xEnd u n r = .ok y) : sWF A y.1 := by
  unfold xEnd at h
  obtain ⟨z, hz, h⟩ := xB_ok h
  obtain ⟨w, _, h⟩ := xB_ok h
  rw [← Except.ok.inj h]
  exact hr z hz
